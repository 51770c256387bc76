/-! the corners in the reference, the rim is never empty, layers -/
theorem lp_clr {ρ : Type} {f : Int32 × Int32 → Option ((Int32 × Int32) ⊕ ρ)} (P : Nat → Bool) (m : Int32) (n : Nat) (g : Int32 → ρ) (hs : ∀ k, k < n → ∀ a, f (a, nI k) = some (.inl (if P k then a &&& m else a, nI k + 1))) (hx : ∀ a, f (a, nI n) = some (.inr (g a))) (hn : n ≤ 12) (a : Int32) : lp f lpN (a, 0) = some (g (if ex P n then a &&& m else a)) := by
  have h := lp_run (f := f) (fun k => (if ex P k then a &&& m else a, nI k)) n (r := g (if ex P n then a &&& m else a)) (fun k hk => by
    show f (if ex P k then a &&& m else a, nI k) = _
    rw [hs k hk]
    show some (Sum.inl (_, _)) = some (Sum.inl (if ex P (k + 1) then a &&& m else a, nI (k + 1)))
    rw [nI_1]
    have e : ex P (k + 1) = (ex P k || P k) := by
      apply Bool.eq_iff_iff.mpr
      rw [Bool.or_eq_true, ex_iff, ex_iff]
      constructor
      · rintro ⟨j, hj, e⟩
        by_cases q : j = k
        · subst q; exact Or.inr e
        · exact Or.inl ⟨j, by omega, e⟩
      · rintro (⟨j, hj, e⟩ | e)
        · exact ⟨j, by omega, e⟩
        · exact ⟨k, by omega, e⟩
    rw [e]
    cases ex P k <;> cases P k
    · rfl
    · rfl
    · rfl
    · simp only [if_true, Bool.or_self]
      rw [Int32.and_assoc, Int32.and_self]) (hx _) (n := lpN) (by unfold lpN; omega)
  exact h
section HV
variable {n g : Nat} {X Y : Nat → Int} {h : pH} {o : Nat}
def btR (n : Nat) (X Y : Nat → Int) (t p : Nat) : Bool := ex (fun q => ex (fun r => bt2 X Y t p q r) q) n
theorem btR_eq (t p : Nat) : btR n X Y t p = btB n X Y t p := by
  apply Bool.eq_iff_iff.mpr
  rw [btB_iff]
  unfold btR
  rw [ex_iff]
  constructor
  · rintro ⟨q, hq, e⟩
    obtain ⟨r, hr, e⟩ := ex_iff.mp e
    exact ⟨q, r, hq, by omega, e⟩
  · rintro ⟨q, r, hq, hr, e⟩
    rcases Nat.lt_trichotomy q r with l | l | l
    · exact ⟨r, hr, ex_iff.mpr ⟨q, l, by rw [bt2_sym]; exact e⟩⟩
    · subst l
      rw [bt2_self] at e
      exact absurd e (by decide)
    · exact ⟨q, hq, ex_iff.mpr ⟨r, l, e⟩⟩
theorem R_corners_in (C : RR h n g X Y) (G : GC n g X Y) {t p : Nat} (ht : t < 4096) (hp : p < n) (a : Int32) : lp (fun s => f_R_cornersOf_L2 (nI t) (nI p) h s.1 s.2) lpN (a, 0) = some (.inl (if btB n X Y t p then a &&& (jshl 1 (nI p) ^^^ (-1)) else a, nI (p + 1))) := by
  have hn := G.1
  have e := lp_clr (f := fun s => f_R_cornersOf_L2 (nI t) (nI p) h s.1 s.2) (fun q => ex (fun r => bt2 X Y t p q r) q) (jshl 1 (nI p) ^^^ (-1)) n (fun a => .inl (a, nI (p + 1))) (fun q hq a => by
    show f_R_cornersOf_L2 (nI t) (nI p) h a (nI q) = _
    unfold f_R_cornersOf_L2 f_R_all
    rw [C.1, if_neg (lt_no hq (by omega))]
    exact lp_clr (f := fun s => f_R_cornersOf_L3 (nI t) (nI p) (nI q) h s.1 s.2) (fun r => bt2 X Y t p q r) (jshl 1 (nI p) ^^^ (-1)) q (fun a => .inl (a, nI q + 1)) (fun r hr a => by
      show f_R_cornersOf_L3 (nI t) (nI p) (nI q) h a (nI r) = _
      unfold f_R_cornersOf_L3
      rw [if_neg (lt_no hr (by omega)), has_ok (by omega) (by omega), has_ok (by omega) (by omega), R_isBetween_ok C G hp hq (by omega : r < n)]
      simp only [Option.bind_some]
      rw [bt2_bw]
      cases t.testBit q
      · simp
      cases t.testBit r
      · simp
      cases bwB X Y p q r <;> simp) (fun a => by
      show f_R_cornersOf_L3 (nI t) (nI p) (nI q) h a (nI q) = _
      unfold f_R_cornersOf_L3
      rw [if_pos (ge_yes (Nat.le_refl _) (by omega))]) (by omega) a) (fun a => by
    show f_R_cornersOf_L2 (nI t) (nI p) h a (nI n) = _
    unfold f_R_cornersOf_L2 f_R_all
    rw [C.1, if_pos (ge_yes (Nat.le_refl _) (by omega)), nI_1]) hn a
  rw [e, show ex (fun q => ex (fun r => bt2 X Y t p q r) q) n = btB n X Y t p from btR_eq t p]
theorem R_cornersOf_ok (C : RR h n g X Y) (G : GC n g X Y) {s : Nat} (hs : s < 4096) : f_R_cornersOf (nI s) h = some (nI (co n X Y s)) := by
  have hn := G.1
  have hl4 : hl n X Y s < 4096 := Nat.lt_of_lt_of_le (hl_lt s) (p12 hn)
  have hll := hl_lt (n := n) (X := X) (Y := Y) s
  unfold f_R_cornersOf co
  rw [hullOf_ok C G hs]
  simp only [Option.bind_some]
  generalize hl n X Y s = t at hl4 hll ⊢
  have e := lp_run (f := fun s => f_R_cornersOf_L1 (nI t) h s.1 s.2) (fun k => (nI (bs (fun i => t.testBit i && !(decide (i < k) && btB n X Y t i)) n), nI k)) n (r := nI (bs (fun i => t.testBit i && !(decide (i < n) && btB n X Y t i)) n)) (fun k hk => by
    show f_R_cornersOf_L1 (nI t) h (nI _) (nI k) = some (.inl (nI _, nI (k + 1)))
    unfold f_R_cornersOf_L1 f_R_all
    rw [C.1, if_neg (lt_no hk (by omega)), has_ok (by omega) (by omega), nI_1, R_corners_in C G hl4 hk]
    cases hb : t.testBit k
    · simp only [Bool.false_eq_true, if_false, if_true]
      congr 4
      apply bs_cong
      intro i hi
      by_cases e : i = k
      · subst e; rw [hb]; rfl
      · rw [show decide (i < k + 1) = decide (i < k) by rw [decide_eq_decide]; omega]
    · simp only [if_true]
      rw [if_neg (by decide)]
      congr 3
      cases hq : btB n X Y t k
      · simp only [Bool.false_eq_true, if_false]
        congr 1
        apply bs_cong
        intro i hi
        by_cases e : i = k
        · subst e; rw [hq]; simp
        · rw [show decide (i < k + 1) = decide (i < k) by rw [decide_eq_decide]; omega]
      · simp only [if_true]
        rw [jshl_ok k (by omega), andn_ok]
        congr 1
        apply set_eq (n := n) (mns_lt _ (bs_lt _ n)) (bs_lt _ n)
        intro i hi
        rw [mns_bit, bs_bit, bs_bit, Nat.testBit_two_pow]
        by_cases e : i = k
        · subst e; simp [hq]
        · rw [show decide (i < k + 1) = decide (i < k) by rw [decide_eq_decide]; omega, show decide (k = i) = false by rw [decide_eq_false_iff_not]; omega]
          simp) (by
    show f_R_cornersOf_L1 (nI t) h (nI _) (nI n) = some (.inr (nI _))
    unfold f_R_cornersOf_L1 f_R_all
    rw [C.1, if_pos (ge_yes (Nat.le_refl _) (by omega))]) (n := lpN) (by unfold lpN; omega)
  have e0 : bs (fun i => t.testBit i && !(decide (i < 0) && btB n X Y t i)) n = t := by
    rw [show (fun i => t.testBit i && !(decide (i < 0) && btB n X Y t i)) = fun i => t.testBit i from by funext i; simp]
    exact bs_of hll
  have e1 : bs (fun i => t.testBit i && !(decide (i < n) && btB n X Y t i)) n = bs (fun i => t.testBit i && !btB n X Y t i) n := bs_cong fun i hi => by rw [decide_eq_true hi]; rfl
  rw [e1] at e
  rw [e0] at e
  exact e
/-- the first by y, then x -/
theorem lex_min (t : Nat) : ∀ m, (∃ i, i < m ∧ t.testBit i = true) → ∃ p, p < m ∧ t.testBit p = true ∧ ∀ r, r < m → t.testBit r = true → Y p < Y r ∨ (Y p = Y r ∧ X p ≤ X r) := by
  intro m
  induction m with
  | zero => rintro ⟨i, hi, -⟩; omega
  | succ m ih =>
    rintro ⟨i, hi, hb⟩
    by_cases hx : ∃ i, i < m ∧ t.testBit i = true
    · obtain ⟨p, hp, hpb, H⟩ := ih hx
      by_cases hm : t.testBit m = true ∧ ¬ (Y p < Y m ∨ (Y p = Y m ∧ X p ≤ X m))
      · refine ⟨m, by omega, hm.1, fun r hr hrb => ?_⟩
        by_cases e : r = m
        · subst e; exact Or.inr ⟨rfl, Int.le_refl _⟩
        · have := H r (by omega) hrb
          have := hm.2
          omega
      · refine ⟨p, by omega, hpb, fun r hr hrb => ?_⟩
        by_cases e : r = m
        · subst e
          by_cases q : Y p < Y r ∨ (Y p = Y r ∧ X p ≤ X r)
          · exact q
          · exact absurd ⟨hrb, q⟩ hm
        · exact H r (by omega) hrb
    · have : i = m := by
        by_cases e : i = m
        · exact e
        · exact absurd ⟨i, by omega, hb⟩ hx
      subst this
      refine ⟨i, by omega, hb, fun r hr hrb => ?_⟩
      by_cases e : r = i
      · subst e; exact Or.inr ⟨rfl, Int.le_refl _⟩
      · exact absurd ⟨r, by omega, hrb⟩ hx
theorem hl_some (G : GC n g X Y) {s : Nat} (hs : s < 2 ^ n) (h0 : s ≠ 0) : ∃ p, p < n ∧ (hl n X Y s).testBit p = true := by
  have hex : ∃ i, i < n ∧ s.testBit i = true := by
    by_cases q : ∃ i, i < n ∧ s.testBit i = true
    · exact q
    · exact absurd (set_eq hs (Nat.two_pow_pos n) (fun i hi => by
        rw [Nat.zero_testBit]
        cases hb : s.testBit i with
        | false => rfl
        | true => exact absurd ⟨i, hi, hb⟩ q)) h0
  obtain ⟨p, hp, hb, L⟩ := lex_min (X := X) (Y := Y) s n hex
  refine ⟨p, hp, ?_⟩
  rw [hl_bit hp, hb, Bool.true_and]
  unfold rimB
  rw [Bool.or_eq_true]
  by_cases hone : ∃ i, i < n ∧ s.testBit i = true ∧ i ≠ p
  rotate_left
  · left
    rw [decide_eq_true_iff]
    apply set_eq (n := n) hs (Nat.pow_lt_pow_right (by decide) hp)
    intro i hi
    rw [Nat.testBit_two_pow]
    by_cases e : p = i
    · subst e; simp [hb]
    · cases hq : s.testBit i with
      | false => simp [e]
      | true => exact absurd ⟨i, hi, hq, fun x => e x.symm⟩ hone
  right
  obtain ⟨i0, hi0, hb0, hne0⟩ := hone
  let M : Nat → Bool := fun i => s.testBit i && decide (i ≠ p)
  let U : Nat → Int := fun k => X k - X p
  let V : Nat → Int := fun k => Y k - Y p
  have hM : ∀ i, i < n → M i = true → 0 < V i ∨ (V i = 0 ∧ 0 < U i) := by
    intro i hi hMi
    simp only [M, Bool.and_eq_true, decide_eq_true_eq] at hMi
    have a := L i hi hMi.1
    have b : X i = X p → Y i = Y p → False := fun x y => hMi.2 (G.2.2.2 i p hi hp x y)
    show 0 < Y i - Y p ∨ (Y i - Y p = 0 ∧ 0 < X i - X p)
    by_cases q : Y p = Y i
    · by_cases q2 : X i = X p
      · exact absurd q.symm (fun y => b q2 y)
      · omega
    · omega
  obtain ⟨c, hc, hMc, H⟩ := extreme (U := U) (V := V) M n ⟨i0, hi0, by simp [M, hb0, hne0]⟩ (by
    intro i j hi hj hMi hMj hcr
    have a := hM i hi hMi
    have b := hM j hj hMj
    unfold cr at hcr
    unfold dt
    rcases a with a | ⟨a1, a2⟩
    · rcases b with b | ⟨b1, b2⟩
      · have m1 : 0 < V i * V j := Int.mul_pos a b
        have m2 : 0 ≤ U i * U j := by
          have e1 : (V i * V j) * (U i * U j) = (U i * V j) * (U i * V j) := by
            have : U i * V j = V i * U j := by omega
            grind
          have e2 : 0 ≤ (U i * V j) * (U i * V j) := by
            rcases Int.le_total 0 (U i * V j) with e | e
            · exact Int.mul_nonneg e e
            · exact Int.mul_nonneg_of_nonpos_of_nonpos e e
          exact nonneg_of_mul m1 e1 e2
        omega
      · rw [b1] at hcr
        have : 0 < V i * U j := Int.mul_pos a b2
        simp only [Int.mul_zero] at hcr
        omega
    · rcases b with b | ⟨b1, b2⟩
      · rw [a1] at hcr
        have : 0 < U i * V j := Int.mul_pos a2 b
        simp only [Int.zero_mul] at hcr
        omega
      · have : 0 < U i * U j := Int.mul_pos a2 b2
        rw [a1]
        simp only [Int.zero_mul]
        omega) (by
    intro i j k hi hj hk hMi hMj hMk h1 h2 h3
    have a := hM i hi hMi
    have b := hM j hj hMj
    have c := hM k hk hMk
    have id1 : V k * cr U V i j + V i * cr U V j k + V j * cr U V k i = 0 := by unfold cr; grind
    have p1 : 0 ≤ V k * cr U V i j := Int.mul_nonneg (by omega) (by omega)
    have p2 : 0 ≤ V i * cr U V j k := Int.mul_nonneg (by omega) (by omega)
    have p3 : 0 ≤ V j * cr U V k i := Int.mul_nonneg (by omega) (by omega)
    have z1 : V k = 0 := by
      rcases c with c | c
      · have := Int.mul_pos c h1; omega
      · exact c.1
    have z2 : V i = 0 := by
      rcases a with a | a
      · have := Int.mul_pos a h2; omega
      · exact a.1
    have z3 : V j = 0 := by
      rcases b with b | b
      · have := Int.mul_pos b h3; omega
      · exact b.1
    unfold cr at h1
    rw [z2, z3] at h1
    simp at h1)
  simp only [M, Bool.and_eq_true, decide_eq_true_eq] at hMc
  refine ex_iff.mpr ⟨c, hc, ?_⟩
  unfold nxB
  simp only [Bool.and_eq_true, decide_eq_true_eq]
  refine ⟨⟨hMc.2, hMc.1⟩, noB_r.mpr fun r hr hrb => ?_⟩
  by_cases e : r = p
  · subst e
    rw [(T3_self r c).1]
    exact Int.le_refl 0
  · rw [T3_cr]
    exact H r hr (by simp [M, hrb, e])
end HV
/-- numbers of bits -/
theorem pct_ctn0 : ∀ a, a < 64 → ∀ b, b < 64 → pct (64 * a + b) = ctn (fun i => (64 * a + b).testBit i) 12 := by decide +kernel
theorem pct_ctn {s : Nat} (hs : s < 4096) : pct s = ctn (fun i => s.testBit i) 12 := by
  have := pct_ctn0 (s / 64) (by omega) (s % 64) (by omega)
  rwa [show 64 * (s / 64) + s % 64 = s by omega] at this
theorem ctn_mono {P Q : Nat → Bool} {n : Nat} (H : ∀ k, k < n → P k = true → Q k = true) : ctn P n ≤ ctn Q n := by
  induction n with
  | zero => exact Nat.le_refl _
  | succ n ih =>
    have i := ih (fun k hk => H k (by omega))
    have j := H n (by omega)
    unfold ctn
    cases hP : P n with
    | false => simp only [Bool.false_eq_true, if_false]; omega
    | true => rw [j hP]; omega
theorem ctn_lt {P Q : Nat → Bool} {n : Nat} (H : ∀ k, k < n → P k = true → Q k = true) {j : Nat} (hj : j < n) (h1 : P j = false) (h2 : Q j = true) : ctn P n < ctn Q n := by
  induction n with
  | zero => omega
  | succ n ih =>
    unfold ctn
    by_cases e : j = n
    · subst e
      have := ctn_mono (P := P) (Q := Q) (n := j) (fun k hk => H k (by omega))
      rw [h1, h2]
      simp only [Bool.false_eq_true, if_false, if_true]
      omega
    · have i := ih (fun k hk => H k (by omega)) (by omega)
      have q := H n (by omega)
      cases hP : P n with
      | false => simp only [Bool.false_eq_true, if_false]; omega
      | true => rw [q hP]; omega
