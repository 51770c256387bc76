/-! marked just then when nothing meets -/
section SE
variable {n g : Nat} {X Y : Nat → Int}
theorem sep_nomeet {M : Nat → Bool} (α β γ : Int) (HT : ∀ i, i < n → M i = true → 0 < α * X i + β * Y i + γ) (HF : ∀ i, i < n → M i = false → α * X i + β * Y i + γ < 0) : NoMeet X Y n M := by
  refine ⟨?_, ?_, ?_⟩
  · intro i j k hi hj hk h1 h2 ht hd
    have idn : ((X k - X j) * (X k - X j) + (Y k - Y j) * (Y k - Y j)) * (α * X i + β * Y i + γ) = (((X k - X j) * (X k - X j) + (Y k - Y j) * (Y k - Y j)) - ((X i - X j) * (X k - X j) + (Y i - Y j) * (Y k - Y j))) * (α * X j + β * Y j + γ) + ((X i - X j) * (X k - X j) + (Y i - Y j) * (Y k - Y j)) * (α * X k + β * Y k + γ) + (β * (X k - X j) - α * (Y k - Y j)) * T3 X Y j k i := by unfold T3 TR; grind
    have idc : ((X i - X j) * (X k - X j) + (Y i - Y j) * (Y k - Y j)) * ((X i - X j) * (X k - X j) + (Y i - Y j) * (Y k - Y j)) = ((X i - X j) * (X i - X j) + (Y i - Y j) * (Y i - Y j)) * ((X k - X j) * (X k - X j) + (Y k - Y j) * (Y k - Y j)) - T3 X Y j k i * T3 X Y j k i := by unfold T3 TR; grind
    have idd : DT3 X Y i j k = ((X i - X j) * (X i - X j) + (Y i - Y j) * (Y i - Y j)) - ((X i - X j) * (X k - X j) + (Y i - Y j) * (Y k - Y j)) := by unfold DT3; grind
    rw [ht] at idn idc
    have hU : 0 ≤ (X i - X j) * (X i - X j) + (Y i - Y j) * (Y i - Y j) := by
      have := DT3_self (X := X) (Y := Y) i j
      unfold DT3 at this
      exact this
    generalize (X i - X j) * (X k - X j) + (Y i - Y j) * (Y k - Y j) = N at *
    generalize (X k - X j) * (X k - X j) + (Y k - Y j) * (Y k - Y j) = D at *
    generalize (X i - X j) * (X i - X j) + (Y i - Y j) * (Y i - Y j) = U at *
    simp only [Int.mul_zero, Int.add_zero, Int.sub_zero] at idn idc
    have hN : 0 < N := by omega
    have hD : 0 < D := by
      by_cases q : 0 < D
      · exact q
      · have a : U * D ≤ 0 := Int.mul_nonpos_of_nonneg_of_nonpos hU (by omega)
        have b : 0 < N * N := Int.mul_pos hN hN
        omega
    have hDN : 0 < D - N := by
      have a : 0 < (N - U) * D := Int.mul_pos (by omega) hD
      have b : (N - U) * D = N * (D - N) := by
        have : (N - U) * D = N * D - U * D := by grind
        have : N * (D - N) = N * D - N * N := by grind
        omega
      exact pos_of_mul hN b.symm a
    have hjk : M k = M j := h2.symm
    cases hM : M j with
    | true =>
      have hMi : M i = false := by
        cases q : M i with
        | false => rfl
        | true => exact absurd (q.trans hM.symm) h1
      have a1 := HF i hi hMi
      have a2 := HT j hj hM
      have a3 := HT k hk (hjk.trans hM)
      have b1 := Int.mul_pos hDN a2
      have b2 := Int.mul_pos hN a3
      have b3 := Int.mul_neg_of_pos_of_neg hD a1
      omega
    | false =>
      have hMi : M i = true := by
        cases q : M i with
        | true => rfl
        | false => exact absurd (q.trans hM.symm) h1
      have a1 := HT i hi hMi
      have a2 := HF j hj hM
      have a3 := HF k hk (hjk.trans hM)
      have b1 := Int.mul_neg_of_pos_of_neg hDN a2
      have b2 := Int.mul_neg_of_pos_of_neg hN a3
      have b3 := Int.mul_pos hD a1
      omega
  · intro i j k l hi hj hk hl h1 h2 h3 t1 t2 t3
    have idn : T3 X Y k l i * (α * X j + β * Y j + γ) + T3 X Y l j i * (α * X k + β * Y k + γ) + T3 X Y j k i * (α * X l + β * Y l + γ) = (T3 X Y k l i + T3 X Y l j i + T3 X Y j k i) * (α * X i + β * Y i + γ) := by unfold T3 TR; grind
    have hs : 0 < T3 X Y k l i + T3 X Y l j i + T3 X Y j k i := by omega
    cases hM : M j with
    | true =>
      have hMi : M i = false := by
        cases q : M i with
        | false => rfl
        | true => exact absurd (q.trans hM.symm) h1
      have a1 := Int.mul_neg_of_pos_of_neg hs (HF i hi hMi)
      have b1 := Int.mul_pos t2 (HT j hj hM)
      have b2 := Int.mul_pos t3 (HT k hk (h2.symm.trans hM))
      have b3 := Int.mul_pos t1 (HT l hl (h3.symm.trans hM))
      omega
    | false =>
      have hMi : M i = true := by
        cases q : M i with
        | true => rfl
        | false => exact absurd (q.trans hM.symm) h1
      have a1 := Int.mul_pos hs (HT i hi hMi)
      have b1 := Int.mul_neg_of_pos_of_neg t2 (HF j hj hM)
      have b2 := Int.mul_neg_of_pos_of_neg t3 (HF k hk (h2.symm.trans hM))
      have b3 := Int.mul_neg_of_pos_of_neg t1 (HF l hl (h3.symm.trans hM))
      omega
  · intro i j k l hi hj hk hl h1 h2 h3 t1 t2 t3 t4
    have idn : (-T3 X Y k l j) * (α * X i + β * Y i + γ) + T3 X Y k l i * (α * X j + β * Y j + γ) = T3 X Y i j l * (α * X k + β * Y k + γ) + (-T3 X Y i j k) * (α * X l + β * Y l + γ) := by unfold T3 TR; grind
    have t1' : 0 < -T3 X Y i j k := by omega
    have t4' : 0 < -T3 X Y k l j := by omega
    cases hM : M k with
    | true =>
      have hMi : M i = false := by
        cases q : M i with
        | false => rfl
        | true => exact absurd (q.trans hM.symm) h3
      have b1 := Int.mul_neg_of_pos_of_neg t4' (HF i hi hMi)
      have b2 := Int.mul_neg_of_pos_of_neg t3 (HF j hj (h1.symm.trans hMi))
      have b3 := Int.mul_pos t2 (HT k hk hM)
      have b4 := Int.mul_pos t1' (HT l hl (h2.symm.trans hM))
      omega
    | false =>
      have hMi : M i = true := by
        cases q : M i with
        | true => rfl
        | false => exact absurd (q.trans hM.symm) h3
      have b1 := Int.mul_pos t4' (HT i hi hMi)
      have b2 := Int.mul_pos t3 (HT j hj (h1.symm.trans hMi))
      have b3 := Int.mul_neg_of_pos_of_neg t2 (HF k hk hM)
      have b4 := Int.mul_neg_of_pos_of_neg t1' (HF l hl (h2.symm.trans hM))
      omega
/-- a set by a side and a place on the line -/
theorem lex_nomeet (G : GC n g X Y) {M : Nat → Bool} {p q : Nat} (hp : p < n) (hq : q < n) {l σ ε : Int} (hl : -200000 ≤ l ∧ l ≤ 200000) (hσ : σ = 1 ∨ σ = -1) (hε : ε = 1 ∨ ε = -1) (H : ∀ i, i < n → (M i = true ↔ 0 < σ * T3 X Y p q i ∨ (T3 X Y p q i = 0 ∧ 0 < ε * (2 * (l - DT3 X Y p q i) + 1)))) : NoMeet X Y n M := by
  have F : ∀ i, (σ * 1000000 * (-(Y q - Y p)) + ε * (-2) * (-(X p - X q))) * X i + (σ * 1000000 * (X q - X p) + ε * (-2) * (-(Y p - Y q))) * Y i + (σ * 1000000 * ((Y q - Y p) * X p - (X q - X p) * Y p) + ε * (2 * l + 1 - 2 * ((X p - X q) * X p + (Y p - Y q) * Y p))) = σ * 1000000 * T3 X Y p q i + ε * (2 * (l - DT3 X Y p q i) + 1) := by
    intro i
    unfold T3 TR DT3
    grind
  refine sep_nomeet (σ * 1000000 * (-(Y q - Y p)) + ε * (-2) * (-(X p - X q))) (σ * 1000000 * (X q - X p) + ε * (-2) * (-(Y p - Y q))) (σ * 1000000 * ((Y q - Y p) * X p - (X q - X p) * Y p) + ε * (2 * l + 1 - 2 * ((X p - X q) * X p + (Y p - Y q) * Y p))) (fun i hi hM => ?_) (fun i hi hM => ?_)
  · rw [F i]
    have t := T3_in G hp hq hi
    have d := DT3_in G hp hq hi
    have c := (H i hi).mp hM
    generalize T3 X Y p q i = T at *
    generalize DT3 X Y p q i = W at *
    rcases hσ with rfl | rfl <;> rcases hε with rfl | rfl <;> omega
  · rw [F i]
    have t := T3_in G hp hq hi
    have d := DT3_in G hp hq hi
    have c : ¬ (0 < σ * T3 X Y p q i ∨ (T3 X Y p q i = 0 ∧ 0 < ε * (2 * (l - DT3 X Y p q i) + 1))) := fun x => by
      have := (H i hi).mpr x
      rw [hM] at this
      exact absurd this (by decide)
    generalize T3 X Y p q i = T at *
    generalize DT3 X Y p q i = W at *
    rcases hσ with rfl | rfl <;> rcases hε with rfl | rfl <;> omega
theorem sd_bit {p q i : Nat} (hi : i < n) {sd : Int} (h0 : sd ≠ 0) : (sdS n X Y p q sd).testBit i = true ↔ sgn (T3 X Y p q i) = sd := by
  unfold sdS
  rw [bs_bit, decide_eq_true hi, Bool.true_and]
  unfold sdP
  rw [decide_eq_true_iff]
  constructor
  · exact fun e => e.2.2
  · intro e
    refine ⟨?_, ?_, e⟩
    · rintro rfl
      rw [(T3_self i q).1] at e
      exact h0 (e.symm.trans (by decide))
    · rintro rfl
      rw [(T3_self p i).2] at e
      exact h0 (e.symm.trans (by decide))
theorem on_bit {p q i : Nat} (hi : i < n) : (onS n X Y p q).testBit i = true ↔ T3 X Y p q i = 0 := by
  unfold onS
  rw [Nat.testBit_or, Nat.testBit_or, Nat.testBit_two_pow, Nat.testBit_two_pow]
  simp only [Bool.or_eq_true, decide_eq_true_eq]
  unfold sdS
  rw [bs_bit, decide_eq_true hi, Bool.true_and]
  unfold sdP
  rw [decide_eq_true_iff, sgn_0]
  constructor
  · rintro ((e | rfl) | rfl)
    · exact e.2.2
    · exact (T3_self p q).1
    · exact (T3_self p q).2
  · intro e
    by_cases h1 : p = i
    · exact Or.inl (Or.inr h1)
    · by_cases h2 : q = i
      · exact Or.inr h2
      · exact Or.inl (Or.inl ⟨fun x => h1 x.symm, fun x => h2 x.symm, e⟩)
theorem upS_lt (p q r : Nat) : upS n X Y p q r < 2 ^ n := bs_lt _ n
theorem up_bit {p q r i : Nat} (hi : i < n) : (upS n X Y p q r).testBit i = true ↔ DT3 X Y p q i ≤ DT3 X Y p q r := by
  unfold upS
  rw [bs_bit, decide_eq_true hi, Bool.true_and, decide_eq_true_iff]
theorem mb_nomeet (G : GC n g X Y) {p q : Nat} (hp : p < n) (hq : q < n) {ah : Nat} {l : Int} (hl : -200000 ≤ l ∧ l ≤ 200000) (ha : ∀ i, i < n → (ah.testBit i = true ↔ T3 X Y p q i = 0 ∧ DT3 X Y p q i ≤ l)) {t : Nat} (H : MB (sdS n X Y p q 1) (sdS n X Y p q (-1)) (onS n X Y p q) ah t) : NoMeet X Y n (fun i => t.testBit i) := by
  have hb : ∀ i, i < n → ((mns (onS n X Y p q) ah).testBit i = true ↔ T3 X Y p q i = 0 ∧ ¬ DT3 X Y p q i ≤ l) := by
    intro i hi
    rw [mns_bit, Bool.and_eq_true, Bool.not_eq_true', on_bit hi, ← Bool.not_eq_true, ha i hi]
    constructor
    · exact fun e => ⟨e.1, fun x => e.2 ⟨e.1, x⟩⟩
    · exact fun e => ⟨e.1, fun x => e.2 x.2⟩
  rcases H with rfl | rfl | rfl | rfl
  · refine lex_nomeet G hp hq hl (σ := 1) (ε := 1) (Or.inl rfl) (Or.inl rfl) (fun i hi => ?_)
    show (_ ||| _ : Nat).testBit i = true ↔ _
    rw [Nat.testBit_or, Bool.or_eq_true, sd_bit hi (by decide), sgn_1, ha i hi]
    omega
  · refine lex_nomeet G hp hq hl (σ := 1) (ε := -1) (Or.inl rfl) (Or.inr rfl) (fun i hi => ?_)
    show (_ ||| _ : Nat).testBit i = true ↔ _
    rw [Nat.testBit_or, Bool.or_eq_true, sd_bit hi (by decide), sgn_1, hb i hi]
    omega
  · refine lex_nomeet G hp hq hl (σ := -1) (ε := 1) (Or.inr rfl) (Or.inl rfl) (fun i hi => ?_)
    show (_ ||| _ : Nat).testBit i = true ↔ _
    rw [Nat.testBit_or, Bool.or_eq_true, sd_bit hi (by decide), sgn_m, ha i hi]
    omega
  · refine lex_nomeet G hp hq hl (σ := -1) (ε := -1) (Or.inr rfl) (Or.inr rfl) (fun i hi => ?_)
    show (_ ||| _ : Nat).testBit i = true ↔ _
    rw [Nat.testBit_or, Bool.or_eq_true, sd_bit hi (by decide), sgn_m, hb i hi]
    omega
theorem const_nomeet {M : Nat → Bool} (H : ∀ i j, i < n → j < n → M i = M j) : NoMeet X Y n M := ⟨fun i j _ hi hj _ h1 => absurd (H i j hi hj) h1, fun i j _ _ hi hj _ _ h1 => absurd (H i j hi hj) h1, fun i _ k _ hi _ hk _ _ _ h1 => absurd (H i k hi hk) h1⟩
theorem cm_nomeet (G : GC n g X Y) {t : Nat} (H : CM n X Y t) : NoMeet X Y n (fun i => t.testBit i) := by
  rcases H with rfl | rfl | ⟨p, q, hpq, hq, H⟩
  · exact const_nomeet (fun i j _ _ => by simp)
  · exact const_nomeet (fun i j hi hj => by simp [Nat.testBit_two_pow_sub_one, hi, hj])
  · have hp : p < n := by omega
    rcases H with H | ⟨r, hr, hon, H⟩
    · refine mb_nomeet G hp hq (l := -200000) (by omega) (fun i hi => ?_) H
      have d := DT3_in G hp hq hi
      rw [Nat.zero_testBit]
      constructor
      · intro e; exact absurd e (by decide)
      · intro e; omega
    · have d := DT3_in G hp hq hr
      refine mb_nomeet G hp hq (l := DT3 X Y p q r) (by omega) (fun i hi => ?_) H
      rw [Nat.testBit_and, Bool.and_eq_true, up_bit hi, on_bit hi]
      exact and_comm
theorem argmax (P : Nat → Bool) (f : Nat → Int) : ∀ m, (∃ i, i < m ∧ P i = true) → ∃ r, r < m ∧ P r = true ∧ ∀ i, i < m → P i = true → f i ≤ f r := by
  intro m
  induction m with
  | zero => rintro ⟨i, hi, -⟩; omega
  | succ m ih =>
    rintro ⟨i, hi, hb⟩
    by_cases hx : ∃ i, i < m ∧ P i = true
    · obtain ⟨r, hr, hrb, H⟩ := ih hx
      by_cases hm : P m = true ∧ f r < f m
      · refine ⟨m, by omega, hm.1, fun j hj hjb => ?_⟩
        by_cases e : j = m
        · subst e; exact Int.le_refl _
        · have := H j (by omega) hjb
          omega
      · refine ⟨r, by omega, hrb, fun j hj hjb => ?_⟩
        by_cases e : j = m
        · subst e
          by_cases c : f r < f j
          · exact absurd ⟨hjb, c⟩ hm
          · omega
        · exact H j (by omega) hjb
    · have : i = m := by
        by_cases e : i = m
        · exact e
        · exact absurd ⟨i, by omega, hb⟩ hx
      subst this
      refine ⟨i, by omega, hb, fun j hj hjb => ?_⟩
      by_cases e : j = i
      · subst e; exact Int.le_refl _
      · exact absurd ⟨j, by omega, hjb⟩ hx
theorem nomeet_cm (G : GC n g X Y) {t : Nat} (ht : t < 2 ^ n) (H : NoMeet X Y n (fun i => t.testBit i)) : CM n X Y t := by
  by_cases h0 : t = 0
  · exact Or.inl h0
  by_cases h1 : t = 2 ^ n - 1
  · exact Or.inr (Or.inl h1)
  refine Or.inr (Or.inr ?_)
  have exT : ∃ i, i < n ∧ t.testBit i = true := by
    by_cases q : ∃ i, i < n ∧ t.testBit i = true
    · exact q
    · exact absurd (set_eq ht (Nat.two_pow_pos n) (fun i hi => by
        rw [Nat.zero_testBit]
        cases hb : t.testBit i with
        | false => rfl
        | true => exact absurd ⟨i, hi, hb⟩ q)) h0
  have exF : ∃ i, i < n ∧ t.testBit i = false := by
    by_cases q : ∃ i, i < n ∧ t.testBit i = false
    · exact q
    · exact absurd (set_eq ht (show 2 ^ n - 1 < 2 ^ n by have := Nat.two_pow_pos n; omega) (fun i hi => by
        rw [Nat.testBit_two_pow_sub_one, decide_eq_true hi]
        cases hb : t.testBit i with
        | true => rfl
        | false => exact absurd ⟨i, hi, hb⟩ q)) h1
  obtain ⟨a, b, ha, hb, hMa, hMb, hS, hT⟩ := kirch G.2.2.2 H exT n (Nat.le_refl _) exF
  have hMa : t.testBit a = true := hMa
  have hMb : t.testBit b = false := hMb
  have hS : ∀ s, s < n → t.testBit s = true → T3 X Y a b s ≤ 0 := hS
  have hT : ∀ s, s < n → t.testBit s = false → 0 ≤ T3 X Y a b s := hT
  have hab : ¬ (X a = X b ∧ Y a = Y b) := fun e => by
    have := G.2.2.2 a b ha hb e.1 e.2
    subst this
    rw [hMa] at hMb
    exact absurd hMb (by decide)
  have hD : 0 < (X b - X a) * (X b - X a) + (Y b - Y a) * (Y b - Y a) := sq_pos (by omega)
  have wa : DT3 X Y a b a = 0 := by unfold DT3; grind
  have wb : DT3 X Y a b b = (X b - X a) * (X b - X a) + (Y b - Y a) * (Y b - Y a) := by unfold DT3; grind
  have idc : ∀ i j k, ((X b - X a) * (X b - X a) + (Y b - Y a) * (Y b - Y a)) * T3 X Y j k i = (DT3 X Y a b k - DT3 X Y a b j) * (T3 X Y a b i - T3 X Y a b j) - (T3 X Y a b k - T3 X Y a b j) * (DT3 X Y a b i - DT3 X Y a b j) := by
    intro i j k
    unfold T3 TR DT3
    grind
  have idd : ∀ i j k, ((X b - X a) * (X b - X a) + (Y b - Y a) * (Y b - Y a)) * DT3 X Y i j k = (DT3 X Y a b i - DT3 X Y a b j) * (DT3 X Y a b i - DT3 X Y a b k) + (T3 X Y a b i - T3 X Y a b j) * (T3 X Y a b i - T3 X Y a b k) := by
    intro i j k
    unfold T3 TR DT3
    grind
  have same : ∀ i j, i < n → j < n → T3 X Y a b i = 0 → T3 X Y a b j = 0 → DT3 X Y a b i = DT3 X Y a b j → i = j := by
    intro i j hi hj z1 z2 z3
    have e1 : ((X b - X a) * (X b - X a) + (Y b - Y a) * (Y b - Y a)) * (X i - X j) = (DT3 X Y a b i - DT3 X Y a b j) * (X b - X a) - (T3 X Y a b i - T3 X Y a b j) * (Y b - Y a) := by unfold T3 TR DT3; grind
    have e2 : ((X b - X a) * (X b - X a) + (Y b - Y a) * (Y b - Y a)) * (Y i - Y j) = (DT3 X Y a b i - DT3 X Y a b j) * (Y b - Y a) + (T3 X Y a b i - T3 X Y a b j) * (X b - X a) := by unfold T3 TR DT3; grind
    rw [z1, z2, z3] at e1 e2
    simp only [Int.sub_self, Int.zero_mul, Int.add_zero] at e1 e2
    have d1 := (Int.mul_eq_zero.mp e1).resolve_left (by omega)
    have d2 := (Int.mul_eq_zero.mp e2).resolve_left (by omega)
    exact G.2.2.2 i j hi hj (by omega) (by omega)
  have btw : ∀ i j k, i < n → j < n → k < n → t.testBit i ≠ t.testBit j → t.testBit j = t.testBit k → T3 X Y a b i = 0 → T3 X Y a b j = 0 → T3 X Y a b k = 0 → ¬ (DT3 X Y a b i - DT3 X Y a b j) * (DT3 X Y a b i - DT3 X Y a b k) < 0 := by
    intro i j k hi hj hk n1 n2 z1 z2 z3 hneg
    have e1 := idc i j k
    have e2 := idd i j k
    rw [z1, z2, z3] at e1 e2
    simp only [Int.sub_self, Int.mul_zero, Int.zero_mul, Int.add_zero] at e1 e2
    have t0 := (Int.mul_eq_zero.mp e1).resolve_left (by omega)
    refine H.1 i j k hi hj hk n1 n2 t0 ?_
    by_cases c : DT3 X Y i j k < 0
    · exact c
    · have := Int.mul_nonneg (Int.le_of_lt hD) (show 0 ≤ DT3 X Y i j k by omega)
      omega
  have ta := (T3_self (X := X) (Y := Y) a b).1
  have tb := (T3_self (X := X) (Y := Y) a b).2
  have sep : ∀ s u, s < n → u < n → t.testBit s = true → t.testBit u = false → T3 X Y a b s = 0 → T3 X Y a b u = 0 → DT3 X Y a b s < DT3 X Y a b u := by
    intro s u hs hu bs bu zs zu
    by_cases c : DT3 X Y a b s < DT3 X Y a b u
    · exact c
    exfalso
    by_cases c1 : DT3 X Y a b u < 0
    · refine btw a u b ha hu hb (by rw [hMa, bu]; decide) (by rw [bu, hMb]) ta zu tb ?_
      rw [wa, wb]
      exact Int.mul_neg_of_pos_of_neg (by omega) (by omega)
    · by_cases c2 : DT3 X Y a b u = 0
      · have := same u a hu ha zu ta (by omega)
        subst this
        rw [hMa] at bu
        exact absurd bu (by decide)
      · by_cases c3 : DT3 X Y a b u = DT3 X Y a b s
        · have := same u s hu hs zu zs c3
          subst this
          rw [bs] at bu
          exact absurd bu (by decide)
        · refine btw u a s hu ha hs (by rw [hMa, bu]; decide) (by rw [bs, hMa]) zu ta zs ?_
          rw [wa]
          exact Int.mul_neg_of_pos_of_neg (by omega) (by omega)
  have hne : a ≠ b := fun e => by
    subst e
    rw [hMa] at hMb
    exact absurd hMb (by decide)
  rcases Nat.lt_or_gt_of_ne hne with hlt | hlt
  · refine ⟨a, b, hlt, hb, Or.inr ?_⟩
    obtain ⟨r, hr, hP, hmax⟩ := argmax (fun i => t.testBit i && decide (T3 X Y a b i = 0)) (fun i => DT3 X Y a b i) n ⟨a, ha, by simp [hMa, ta]⟩
    simp only [Bool.and_eq_true, decide_eq_true_eq] at hP hmax
    refine ⟨r, hr, (on_bit hr).mpr hP.2, Or.inr (Or.inr (Or.inl ?_))⟩
    apply set_eq ht (Nat.or_lt_two_pow (sdS_lt a b (-1)) (Nat.lt_of_le_of_lt Nat.and_le_left (upS_lt a b r)))
    intro i hi
    apply Bool.eq_iff_iff.mpr
    rw [Nat.testBit_or, Bool.or_eq_true, Nat.testBit_and, Bool.and_eq_true, sd_bit hi (by decide), sgn_m, up_bit hi, on_bit hi]
    constructor
    · intro e
      have s1 := hS i hi e
      by_cases z : T3 X Y a b i = 0
      · exact Or.inr ⟨hmax i hi ⟨e, z⟩, z⟩
      · exact Or.inl (by omega)
    · rintro (e | ⟨e1, e2⟩)
      · cases q : t.testBit i with
        | true => rfl
        | false => have := hT i hi q; omega
      · cases q : t.testBit i with
        | true => rfl
        | false => have := sep r i hr hi hP.1 q hP.2 e2; omega
  · refine ⟨b, a, hlt, ha, Or.inr ?_⟩
    have fl : ∀ i, T3 X Y b a i = - T3 X Y a b i := fun i => by unfold T3 TR; grind
    have fw : ∀ i, DT3 X Y b a i = DT3 X Y a b b - DT3 X Y a b i := fun i => by unfold DT3; grind
    obtain ⟨r, hr, hP, hmax⟩ := argmax (fun i => !t.testBit i && decide (T3 X Y a b i = 0)) (fun i => DT3 X Y b a i) n ⟨b, hb, by simp [hMb, tb]⟩
    simp only [Bool.and_eq_true, decide_eq_true_eq, Bool.not_eq_true'] at hP hmax
    refine ⟨r, hr, (on_bit hr).mpr (by rw [fl]; omega), Or.inr (Or.inl ?_)⟩
    apply set_eq ht (Nat.or_lt_two_pow (sdS_lt b a 1) (mns_lt _ (onS_lt G.1 hb ha)))
    intro i hi
    apply Bool.eq_iff_iff.mpr
    rw [Nat.testBit_or, Bool.or_eq_true, mns_bit, Bool.and_eq_true, Bool.not_eq_true', Nat.testBit_and, ← Bool.not_eq_true, Bool.and_eq_true, sd_bit hi (by decide), sgn_1, up_bit hi, on_bit hi, fl]
    constructor
    · intro e
      have s1 := hS i hi e
      by_cases z : T3 X Y a b i = 0
      · refine Or.inr ⟨by omega, fun x => ?_⟩
        have := sep i r hi hr e hP.1 z hP.2
        have f1 := fw i
        have f2 := fw r
        omega
      · exact Or.inl (by omega)
    · rintro (e | ⟨e1, e2⟩)
      · cases q : t.testBit i with
        | true => rfl
        | false => have := hT i hi q; omega
      · cases q : t.testBit i with
        | true => rfl
        | false => exact absurd ⟨hmax i hi ⟨q, by omega⟩, by omega⟩ e2
theorem cm_iff (G : GC n g X Y) {t : Nat} (ht : t < 2 ^ n) : CM n X Y t ↔ NoMeet X Y n (fun i => t.testBit i) := ⟨cm_nomeet G, nomeet_cm G ht⟩
end SE
