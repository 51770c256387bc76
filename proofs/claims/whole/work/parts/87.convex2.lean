/-! convex sets in both systems; ways that cross -/
theorem ctn_or (P Q : Nat → Bool) (n : Nat) : ctn (fun i => P i || Q i) n ≤ ctn P n + ctn Q n := by
  induction n with
  | zero => exact Nat.le_refl _
  | succ n ih =>
    unfold ctn
    cases P n <;> cases Q n <;> simp only [Bool.or_self, Bool.or_true, Bool.or_false, Bool.true_or, Bool.false_or, Bool.false_eq_true, if_true, if_false] <;> omega
theorem pct_or {a b : Nat} (ha : a < 4096) (hb : b < 4096) : pct (a ||| b) ≤ pct a + pct b := by
  have ho : a ||| b < 2 ^ 12 := Nat.or_lt_two_pow ha hb
  rw [pct_ctn ho, pct_ctn ha, pct_ctn hb]
  refine Nat.le_trans (Nat.le_of_eq (ctn_cong (fun i _ => ?_))) (ctn_or _ _ 12)
  rw [Nat.testBit_or]
theorem lp_flag {ρ : Type} {f : Int32 × Int32 → Option ((Int32 × Int32) ⊕ ρ)} (B : Nat → Bool) (n : Nat) (r1 r0 : ρ) (hn : n < 10000) (hs : ∀ k, k < n → f (1, nI k) = some (.inl (if B k then 0 else 1, nI (k + 1)))) (hx : f (1, nI n) = some (.inr r1)) (h0 : ∀ k, k ≤ n → f (0, nI k) = some (.inr r0)) : lp f lpN (1, 0) = some (if ex B n then r0 else r1) := by
  cases hxx : ex B n with
  | false =>
    have hno := ex_no.mp hxx
    refine lp_run (f := f) (fun k => (1, nI k)) n (fun k hk => ?_) hx (n := lpN) (by unfold lpN; omega)
    rw [hs k hk, hno k hk]
    rfl
  | true =>
    obtain ⟨K, ⟨h1, h2⟩, h3⟩ := pk_least (fun k => k < n ∧ B k = true) (ex_iff.mp hxx)
    have hf : ∀ k, k < K → B k = false := fun k hk => nt (fun q => h3 k hk ⟨by omega, q⟩)
    refine lp_run (f := f) (fun k => (if k ≤ K then 1 else 0, nI k)) (K + 1) (fun k hk => ?_) ?_ (n := lpN) (by unfold lpN; omega)
    · show f (if k ≤ K then 1 else 0, nI k) = some (.inl (if k + 1 ≤ K then 1 else 0, nI (k + 1)))
      rw [if_pos (by omega), hs k (by omega)]
      by_cases e : k = K
      · subst e
        rw [h2, if_neg (show ¬ k + 1 ≤ k by omega)]
        rfl
      · rw [hf k (by omega), if_pos (show k + 1 ≤ K by omega)]
        rfl
    · show f (if K + 1 ≤ K then 1 else 0, nI (K + 1)) = _
      rw [if_neg (by omega), h0 (K + 1) (by omega)]
      rfl
section C2
variable {n g : Nat} {X Y : Nat → Int} {h h0 : pH} {o : Nat}
theorem wi_any {p q r u x y z : Nat} (hx : x = q ∨ x = r ∨ x = u) (hy : y = q ∨ y = r ∨ y = u) (hz : z = q ∨ z = r ∨ z = u) (n1 : x ≠ y) (n2 : x ≠ z) (n3 : y ≠ z) : wiB X Y p x y z = wiB X Y p q r u := by
  have e1 := wi_sw (X := X) (Y := Y) p q r u
  have e2 := wi_cy (X := X) (Y := Y) p q r u
  have e3 := wi_cy (X := X) (Y := Y) p r u q
  have e4 := wi_rv (X := X) (Y := Y) p q r u
  have e5 := wi_sw (X := X) (Y := Y) p u q r
  rcases hx with rfl | rfl | rfl <;> rcases hy with rfl | rfl | rfl <;> first | exact absurd rfl n1 | (rcases hz with rfl | rfl | rfl <;> first | exact absurd rfl n2 | exact absurd rfl n3 | rfl | exact e1.symm | exact e2.symm | exact (e2.trans e3).symm | exact e4.symm | exact ((e2.trans e3).trans e5).symm)
theorem out4 {s : Nat} (hs : s < 4096) {p q r u : Nat} (hp : p < 12) (hq : q < 12) (hr : r < 12) (hu : u < 12) (h : 4 < pct s) : ∃ v, s.testBit v = true ∧ v ≠ p ∧ v ≠ q ∧ v ≠ r ∧ v ≠ u := by
  by_cases z : ∃ v, s.testBit v = true ∧ v ≠ p ∧ v ≠ q ∧ v ≠ r ∧ v ≠ u
  · exact z
  exfalso
  have t := fun i (hi : i < 12) => two_lt (n := 12) hi (Nat.le_refl _)
  have l2 : 2 ^ p ||| 2 ^ q < 2 ^ 12 := Nat.or_lt_two_pow (t p hp) (t q hq)
  have l3 : 2 ^ p ||| 2 ^ q ||| 2 ^ r < 2 ^ 12 := Nat.or_lt_two_pow l2 (t r hr)
  have l4 : 2 ^ p ||| 2 ^ q ||| 2 ^ r ||| 2 ^ u < 2 ^ 12 := Nat.or_lt_two_pow l3 (t u hu)
  have a := (pct_sub l4 (a := s) (fun v hv => (b4 v).mpr (by
    by_cases y : v = p ∨ v = q ∨ v = r ∨ v = u
    · exact y
    · exact absurd ⟨v, hv, by omega, by omega, by omega, by omega⟩ z))).1
  have o1 := pct_or (t p hp) (t q hq)
  have o2 := pct_or l2 (t r hr)
  have o3 := pct_or l3 (t u hu)
  rw [pct_1 p hp, pct_1 q hq] at o1
  rw [pct_1 r hr] at o2
  rw [pct_1 u hu] at o3
  omega
theorem outT {s : Nat} (hs : s < 4096) {p q r : Nat} (hp : p < 12) (hq : q < 12) (hr : r < 12) (h : 3 < pct s) : ∃ v, s.testBit v = true ∧ v ≠ p ∧ v ≠ q ∧ v ≠ r := by
  by_cases z : ∃ v, s.testBit v = true ∧ v ≠ p ∧ v ≠ q ∧ v ≠ r
  · exact z
  exfalso
  have t := fun i (hi : i < 12) => two_lt (n := 12) hi (Nat.le_refl _)
  have l2 : 2 ^ p ||| 2 ^ q < 2 ^ 12 := Nat.or_lt_two_pow (t p hp) (t q hq)
  have l3 : 2 ^ p ||| 2 ^ q ||| 2 ^ r < 2 ^ 12 := Nat.or_lt_two_pow l2 (t r hr)
  have a := (pct_sub l3 (a := s) (fun v hv => by
    rw [b3]
    simp only [Bool.or_eq_true, decide_eq_true_eq]
    by_cases y : v = p ∨ v = q ∨ v = r
    · omega
    · exact absurd ⟨v, hv, by omega, by omega, by omega⟩ z)).1
  have o1 := pct_or (t p hp) (t q hq)
  have o2 := pct_or l2 (t r hr)
  rw [pct_1 p hp, pct_1 q hq] at o1
  rw [pct_1 r hr] at o2
  omega
/-- one less -/
theorem mns_less {s p : Nat} (h : s.testBit p = true) : mns s (2 ^ p) < s := by
  have le : mns s (2 ^ p) ≤ s := by
    have : mns s (2 ^ p) &&& s = mns s (2 ^ p) := sub_iff.mpr (fun i hi => by
      rw [mns_bit, Bool.and_eq_true] at hi
      exact hi.1)
    rw [← this]
    exact Nat.and_le_right
  have ne : mns s (2 ^ p) ≠ s := fun e => by
    have : (mns s (2 ^ p)).testBit p = false := by rw [mns_bit, Nat.testBit_two_pow]; simp
    rw [e, h] at this
    exact absurd this (by decide)
  omega
theorem m_in {s v i : Nat} (hi : s.testBit i = true) (hne : i ≠ v) : (mns s (2 ^ v)).testBit i = true := by
  rw [mns_bit, hi, Nat.testBit_two_pow]
  simp
  omega
theorem bit_n {s i : Nat} (hs : s < 2 ^ n) (hi : s.testBit i = true) : i < n := by
  by_cases z : i < n
  · exact z
  · have : 2 ^ n ≤ 2 ^ i := Nat.pow_le_pow_right (by decide) (by omega)
    rw [Nat.testBit_lt_two_pow (by omega)] at hi
    exact absurd hi (by decide)
theorem cx_big (G : GC n g X Y) {s : Nat} (hs : s < 2 ^ n) (h4 : 4 < pct s) (H : ∀ p, p < n → s.testBit p = true → cxB n X Y (mns s (2 ^ p)) = true) : cxB n X Y s = true := by
  have hn := G.1
  have hs4 : s < 4096 := Nat.lt_of_lt_of_le hs (p12 hn)
  rw [cx_iff hn]
  constructor
  · intro p q r hp hq hr bp bq br w
    obtain ⟨v, bv, v1, v2, v3⟩ := outT hs4 (p := p) (q := q) (r := r) (by omega) (by omega) (by omega) (by omega)
    have := ((cx_iff hn).mp (H v (bit_n hs bv) bv)).1
    exact this p q r hp hq hr (m_in bp (fun e => v1 e.symm)) (m_in bq (fun e => v2 e.symm)) (m_in br (fun e => v3 e.symm)) w
  · intro p q r u hp hq hr hu n1 n2 n3 n4 n5 n6 bp bq br bu w
    obtain ⟨v, bv, v1, v2, v3, v4⟩ := out4 hs4 (p := p) (q := q) (r := r) (u := u) (by omega) (by omega) (by omega) (by omega) h4
    have := ((cx_iff hn).mp (H v (bit_n hs bv) bv)).2
    exact this p q r u hp hq hr hu n1 n2 n3 n4 n5 n6 (m_in bp (fun e => v1 e.symm)) (m_in bq (fun e => v2 e.symm)) (m_in br (fun e => v3 e.symm)) (m_in bu (fun e => v4 e.symm)) w
theorem d1of {i a b c d : Nat} (h : i = a ∨ i = b ∨ i = c ∨ i = d) (z : a ≠ i) : i = b ∨ i = c ∨ i = d := h.resolve_left (fun e => z e.symm)
theorem d2of {i a b c d : Nat} (h : i = a ∨ i = b ∨ i = c ∨ i = d) (z : b ≠ i) : i = a ∨ i = c ∨ i = d := by
  rcases h with h | h | h | h
  · exact Or.inl h
  · exact absurd h.symm z
  · exact Or.inr (Or.inl h)
  · exact Or.inr (Or.inr h)
theorem d3of {i a b c d : Nat} (h : i = a ∨ i = b ∨ i = c ∨ i = d) (z : c ≠ i) : i = a ∨ i = b ∨ i = d := by
  rcases h with h | h | h | h
  · exact Or.inl h
  · exact Or.inr (Or.inl h)
  · exact absurd h.symm z
  · exact Or.inr (Or.inr h)
theorem d4of {i a b c d : Nat} (h : i = a ∨ i = b ∨ i = c ∨ i = d) (z : d ≠ i) : i = a ∨ i = b ∨ i = c := by
  rcases h with h | h | h | h
  · exact Or.inl h
  · exact Or.inr (Or.inl h)
  · exact Or.inr (Or.inr h)
  · exact absurd h.symm z
theorem cx_4 (G : GC n g X Y) {s : Nat} (hs : s < 2 ^ n) (h4 : pct s = 4) (H : ∀ p, p < n → s.testBit p = true → cxB n X Y (mns s (2 ^ p)) = true) : ∃ a b c d, Q4 n X Y s a b c d ∧ (cxB n X Y s = true ↔ wiB X Y a b c d = false ∧ wiB X Y b a c d = false ∧ wiB X Y c a b d = false ∧ wiB X Y d a b c = false) := by
  have hn := G.1
  have hs4 : s < 4096 := Nat.lt_of_lt_of_le hs (p12 hn)
  have n3 : ¬ P3 n X Y s := by
    rintro ⟨i, j, k, hi, hj, hk, nij, nik, njk, bi, bj, bk, t⟩
    obtain ⟨v, bv, v1, v2, v3⟩ := outT hs4 (p := i) (q := j) (r := k) (by omega) (by omega) (by omega) (by omega)
    have := cx_p3 G (s := mns s (2 ^ v)) ⟨i, j, k, hi, hj, hk, nij, nik, njk, m_in bi (fun e => v1 e.symm), m_in bj (fun e => v2 e.symm), m_in bk (fun e => v3 e.symm), t⟩
    rw [H v (bit_n hs bv) bv] at this
    exact absurd this (by decide)
  obtain ⟨a, b, c, d, l1, l2, l3, l5, eS⟩ := four_srt hs4 h4
  have B : ∀ i, s.testBit i = true ↔ i = a ∨ i = b ∨ i = c ∨ i = d := fun i => by rw [eS]; exact b4 i
  have dn : d < n := bit_n hs ((B d).mpr (by omega))
  have ba := (B a).mpr (by omega)
  have bb := (B b).mpr (by omega)
  have bc := (B c).mpr (by omega)
  have bd := (B d).mpr (by omega)
  have pj := p3_iff (X := X) (Y := Y) (p := a) (q := b) (r := c) (s := d) (by omega) (by omega) (by omega) dn (by omega)
  rw [← eS] at pj
  have w2 := fun x => n3 (pj.mpr x)
  refine ⟨a, b, c, d, ⟨⟨l1, l2, l3, dn⟩, eS, fun x => w2 (Or.inl x), fun x => w2 (Or.inr (Or.inl x)), fun x => w2 (Or.inr (Or.inr (Or.inl x))), fun x => w2 (Or.inr (Or.inr (Or.inr x)))⟩, ?_⟩
  rw [cx_iff hn]
  constructor
  · rintro ⟨-, H2⟩
    exact ⟨nt (fun w => H2 a b c d (by omega) (by omega) (by omega) dn (by omega) (by omega) (by omega) (by omega) (by omega) (by omega) ba bb bc bd w), nt (fun w => H2 b a c d (by omega) (by omega) (by omega) dn (by omega) (by omega) (by omega) (by omega) (by omega) (by omega) bb ba bc bd w), nt (fun w => H2 c a b d (by omega) (by omega) (by omega) dn (by omega) (by omega) (by omega) (by omega) (by omega) (by omega) bc ba bb bd w), nt (fun w => H2 d a b c dn (by omega) (by omega) (by omega) (by omega) (by omega) (by omega) (by omega) (by omega) (by omega) bd ba bb bc w)⟩
  · rintro ⟨w1, w3, w4, w5⟩
    refine ⟨fun p q r hp hq hr bp bq br w => n3 (bw_p3 hp hq hr bp bq br w), fun p q r u hp hq hr hu m1 m2 m3 m4 m5 m6 bp bq br bu w => ?_⟩
    have ip := (B p).mp bp
    have iq := (B q).mp bq
    have ir := (B r).mp br
    have iu := (B u).mp bu
    clear B
    rcases ip with rfl | rfl | rfl | rfl
    · rw [wi_any (q := b) (r := c) (u := d) (d1of iq m1) (d1of ir m2) (d1of iu m3) m4 m5 m6, w1] at w
      exact absurd w (by decide)
    · rw [wi_any (q := a) (r := c) (u := d) (d2of iq m1) (d2of ir m2) (d2of iu m3) m4 m5 m6, w3] at w
      exact absurd w (by decide)
    · rw [wi_any (q := a) (r := b) (u := d) (d3of iq m1) (d3of ir m2) (d3of iu m3) m4 m5 m6, w4] at w
      exact absurd w (by decide)
    · rw [wi_any (q := a) (r := b) (u := c) (d4of iq m1) (d4of ir m2) (d4of iu m3) m4 m5 m6, w5] at w
      exact absurd w (by decide)
theorem isConvex_ok (C : CC h o n g X Y) (G : GC n g X Y) {s : Nat} (hs : s < 2 ^ n) (M : ∀ t, t < s → wbit h 30 t = cxB n X Y t) : f_Shapes_isConvex o (nI s) h = some (if cxB n X Y s then 1 else 0) := by
  have hn := G.1
  have hs4 : s < 4096 := Nat.lt_of_lt_of_le hs (p12 hn)
  have le := pct_le s
  unfold f_Shapes_isConvex
  rw [bitCount_ok hs4]
  have c2 : (2 : Int32) < nI (pct s) ↔ 2 < pct s := nI_ltI (a := 2) (by omega) (by omega)
  have c3 : nI (pct s) = 3 ↔ pct s = 3 := nI_eqI (b := 3) (by omega) (by omega)
  have c4 : (4 : Int32) < nI (pct s) ↔ 4 < pct s := nI_ltI (a := 4) (by omega) (by omega)
  simp only [c2, c3]
  by_cases z2 : 2 < pct s
  rotate_left
  · rw [if_neg z2, cx_small G hs4 (by omega)]
    rfl
  rw [if_pos z2]
  by_cases z3 : pct s = 3
  · rw [if_pos z3]
    obtain ⟨w, e1, e2⟩ := three_ok C G hs4
    rw [e1]
    simp only [Option.bind_some]
    cases w with
    | true =>
      rw [cx_p3 G (e2.mp rfl)]
      rfl
    | false =>
      have n3 : ¬ P3 n X Y s := fun x => absurd (e2.mpr x) (by decide)
      have : cxB n X Y s = true := by
        rw [cx_iff hn]
        refine ⟨fun p q r hp hq hr bp bq br w => n3 (bw_p3 hp hq hr bp bq br w), fun p q r u hp hq hr hu m1 m2 m3 m4 m5 m6 bp bq br bu w => ?_⟩
        have sub : ∀ v, (2 ^ p ||| 2 ^ q ||| 2 ^ r).testBit v = true → s.testBit v = true := fun v hv => by
          rw [b3] at hv
          simp only [Bool.or_eq_true, decide_eq_true_eq] at hv
          rcases hv with (rfl | rfl) | rfl
          · exact bp
          · exact bq
          · exact br
        have := pct_lt hs4 sub (j := u) (nt (fun z => by
          rw [b3] at z
          simp only [Bool.or_eq_true, decide_eq_true_eq] at z
          omega)) bu
        rw [pct_3 (by omega) (by omega) (by omega) m1 m2 m4] at this
        omega
      rw [this]
      rfl
  rw [if_neg z3]
  have st : ∀ p, p < n → f_Shapes_isConvex_L1 o (nI s) (nI (pct s)) h (nI p) = some (if s.testBit p && !cxB n X Y (mns s (2 ^ p)) then .inr 0 else .inl (nI (p + 1))) := by
    intro p hp
    unfold f_Shapes_isConvex_L1
    have l4 : mns s (2 ^ p) < 4096 := mns_lt (n := 12) _ hs4
    rw [C.1, if_neg (lt_no hp (by omega)), bit_ok (by omega) (by omega), jshl_ok p (by omega), andn_ok, isMarked_ok rf29 l4, nI_1]
    simp only [Option.bind_some]
    cases hb : s.testBit p with
    | false => rfl
    | true =>
      rw [M _ (mns_less hb)]
      cases cxB n X Y (mns s (2 ^ p)) <;> rfl
  obtain ⟨r, e1, e2⟩ := lp_find (f := fun t => f_Shapes_isConvex_L1 o (nI s) (nI (pct s)) h t) (fun k => nI k) (fun p => s.testBit p && !cxB n X Y (mns s (2 ^ p))) n (fun r => r = if cxB n X Y s then 1 else 0) (fun p hp hf => by
    show f_Shapes_isConvex_L1 o (nI s) (nI (pct s)) h (nI p) = _
    rw [st p hp, hf]
    rfl) (fun p hp ht _ => ⟨0, by
    show f_Shapes_isConvex_L1 o (nI s) (nI (pct s)) h (nI p) = _
    rw [st p hp, ht]
    rfl, by
    simp only [Bool.and_eq_true, Bool.not_eq_true'] at ht
    have : cxB n X Y s = false := nt (fun z => by
      have := cx_mono hn (s := s) (t := mns s (2 ^ p)) (fun i hi => by
        rw [mns_bit, Bool.and_eq_true] at hi
        exact hi.1) z
      rw [ht.2] at this
      exact absurd this (by decide))
    rw [this]
    rfl⟩) (fun hno => by
    have H : ∀ p, p < n → s.testBit p = true → cxB n X Y (mns s (2 ^ p)) = true := fun p hp hb => by
      have := hno p hp
      rw [hb, Bool.true_and, Bool.not_eq_false'] at this
      exact this
    show ∃ r, f_Shapes_isConvex_L1 o (nI s) (nI (pct s)) h (nI n) = _ ∧ _
    unfold f_Shapes_isConvex_L1
    rw [C.1, if_pos (ge_yes (Nat.le_refl _) (by omega))]
    simp only [c4]
    by_cases z4 : 4 < pct s
    · rw [if_pos z4, cx_big G hs z4 H]
      exact ⟨_, rfl, rfl⟩
    · rw [if_neg z4]
      obtain ⟨a, b, c, d, Q, hc⟩ := cx_4 G hs (by omega) H
      rw [innerOf_ok C G hs4 Q]
      simp only [Option.bind_some]
      obtain ⟨⟨q1, q2, q3, q4⟩, -⟩ := Q
      unfold inV
      cases w1 : wiB X Y a b c d
      · cases w2 : wiB X Y b a c d
        · cases w3 : wiB X Y c a b d
          · cases w4 : wiB X Y d a b c
            · rw [hc.mpr ⟨w1, w2, w3, w4⟩]
              exact ⟨_, rfl, rfl⟩
            · have : cxB n X Y s = false := nt (fun z => by have := (hc.mp z).2.2.2; rw [w4] at this; exact absurd this (by decide))
              simp only [Bool.false_eq_true, if_false, if_true]
              rw [if_neg (m1_ne (by omega)), this]
              exact ⟨_, rfl, rfl⟩
          · have : cxB n X Y s = false := nt (fun z => by have := (hc.mp z).2.2.1; rw [w3] at this; exact absurd this (by decide))
            simp only [Bool.false_eq_true, if_false, if_true]
            rw [if_neg (m1_ne (by omega)), this]
            exact ⟨_, rfl, rfl⟩
        · have : cxB n X Y s = false := nt (fun z => by have := (hc.mp z).2.1; rw [w2] at this; exact absurd this (by decide))
          simp only [Bool.false_eq_true, if_false, if_true]
          rw [if_neg (m1_ne (by omega)), this]
          exact ⟨_, rfl, rfl⟩
      · have : cxB n X Y s = false := nt (fun z => by have := (hc.mp z).1; rw [w1] at this; exact absurd this (by decide))
        simp only [if_true]
        rw [if_neg (m1_ne (by omega)), this]
        exact ⟨_, rfl, rfl⟩) (by unfold lpN; omega)
  rw [show lp (fun t => f_Shapes_isConvex_L1 o (nI s) (nI (pct s)) h t) lpN 0 = some r from e1, e2]
def mcx (n : Nat) (X Y : Nat → Int) : Nat → Nat
  | 0 => 0
  | k + 1 => if cxB n X Y k then max (mcx n X Y k) (pct k) else mcx n X Y k
theorem mcx_le (k : Nat) : mcx n X Y k ≤ 12 := by
  induction k with
  | zero => exact Nat.zero_le _
  | succ k ih =>
    have := pct_le k
    unfold mcx
    split <;> omega
theorem greatestConvex_ok (C : CC h 8 n g X Y) (G : GC n g X Y) : ∃ h', f_Shapes_greatestConvex 8 h = some (nI (mcx n X Y (2 ^ n)), h') ∧ Fs [30] h h' := by
  have hn := G.1
  have l12 := p12 hn
  unfold f_Shapes_greatestConvex
  obtain ⟨h1, e1, f1, w1⟩ := clearM_ok (h := h) rf29 cx30
  rw [e1]
  simp only [Option.bind_some]
  obtain ⟨⟨r1, r2⟩, d1, d2, d3⟩ := lp_inv (f := fun s => f_Shapes_greatestConvex_L1 8 s.1 s.2.1 s.2.2) (fun k s => s.1 = nI (mcx n X Y k) ∧ s.2.1 = nI k ∧ Fs [30] h s.2.2 ∧ ∀ t, t < 4096 → wbit s.2.2 30 t = (decide (t < k) && cxB n X Y t)) (fun r => r.1 = nI (mcx n X Y (2 ^ n)) ∧ Fs [30] h r.2) (2 ^ n) (by
    rintro k ⟨a, b, h'⟩ hk ⟨rfl, rfl, d1, d2⟩
    have d1 : Fs [30] h h' := d1
    have d2 : ∀ t, t < 4096 → wbit h' 30 t = (decide (t < k) && cxB n X Y t) := d2
    have C' : CC h' 8 n g X Y := C.fs d1 (by decide) (by rw [rf8_0]; decide) (by rw [rf8_1]; decide)
    have ml := mcx_le (n := n) (X := X) (Y := Y) k
    have pl := pct_le k
    show ∃ s', f_Shapes_greatestConvex_L1 8 (nI (mcx n X Y k)) (nI k) h' = some (.inl s') ∧ _
    unfold f_Shapes_greatestConvex_L1
    rw [every_ok C' hn, if_neg (fun x => by have := (all_end hn (by omega)).mp x; omega), isConvex_ok C' G hk (fun t ht => by rw [d2 t (by omega), decide_eq_true ht]; rfl), bitCount_ok (by omega), jmax_ok (by omega) (by omega), nI_1]
    simp only [Option.bind_some]
    have ew : ∀ t, decide (t < k + 1) = (decide (t < k) || decide (t = k)) := fun t => by
      by_cases z : t < k
      · simp [z]; omega
      · by_cases y : t = k
        · simp [y]
        · simp [z, y]; omega
    cases hc : cxB n X Y k with
    | false =>
      rw [if_pos (by rfl)]
      refine ⟨_, rfl, ?_, rfl, d1, fun t ht => ?_⟩
      · show _ = nI (if cxB n X Y k then _ else _)
        rw [hc]
        rfl
      · show wbit h' 30 t = _
        rw [d2 t ht, ew]
        by_cases y : t = k
        · subst y; simp [hc]
        · simp [y]
    | true =>
      obtain ⟨h2, e2, f2, w2⟩ := mark_ok (h := h') rf29 (show k < 4096 by omega)
      rw [if_neg (by decide), e2]
      refine ⟨_, rfl, ?_, rfl, d1.trans f2, fun t ht => ?_⟩
      · show _ = nI (if cxB n X Y k then _ else _)
        rw [hc]
        rfl
      · show wbit h2 30 t = _
        rw [w2 t ht, d2 t ht, ew]
        by_cases y : t = k
        · subst y; simp [hc]
        · simp [y]) (by
    rintro ⟨a, b, h'⟩ ⟨rfl, rfl, d1, d2⟩
    have d1 : Fs [30] h h' := d1
    have C' : CC h' 8 n g X Y := C.fs d1 (by decide) (by rw [rf8_0]; decide) (by rw [rf8_1]; decide)
    show ∃ r, f_Shapes_greatestConvex_L1 8 (nI (mcx n X Y (2 ^ n))) (nI (2 ^ n)) h' = some (.inr r) ∧ _
    unfold f_Shapes_greatestConvex_L1
    rw [every_ok C' hn, if_pos ((all_end hn (Nat.le_refl _)).mpr rfl)]
    exact ⟨_, rfl, rfl, d1⟩) (n := lpN) (s := (0, 0, h1)) ⟨rfl, rfl, f1, fun t ht => by rw [w1 t ht]; simp⟩ (by unfold lpN; omega)
  have d2 : r1 = nI (mcx n X Y (2 ^ n)) := d2
  subst d2
  exact ⟨r2, d1, d3⟩
theorem R_convexMost_ok (C : RR h n g X Y) (G : GC n g X Y) (M : ML h0 h (mt n X Y)) : lp (fun s => f_R_convexMost_L1 h s.1 s.2) lpN (0, 0) = some (nI (mcx n X Y (2 ^ n)), h) := by
  have hn := G.1
  have l12 := p12 hn
  have hl := mt_le G
  refine lp_run (f := fun s => f_R_convexMost_L1 h s.1 s.2) (fun k => (nI (mcx n X Y k), nI k)) (2 ^ n) (fun t ht => ?_) ?_ (n := lpN) (by unfold lpN; omega)
  · show f_R_convexMost_L1 h (nI (mcx n X Y t)) (nI t) = some (.inl (nI (if cxB n X Y t then max (mcx n X Y t) (pct t) else mcx n X Y t), nI (t + 1)))
    unfold f_R_convexMost_L1
    have ml := mcx_le (n := n) (X := X) (Y := Y) t
    have pl := pct_le t
    rw [full_ok C hn, if_neg (fun x => by have := (all_end hn (by omega)).mp x; omega), bitsOf_ok (by omega), nI_1]
    simp only [Option.bind_some, nI_ltI (show mcx n X Y t < 2 ^ 31 by omega) (show pct t < 2 ^ 31 by omega)]
    by_cases z : mcx n X Y t < pct t
    · rw [if_pos z]
      have e := lp_flag (f := fun s => f_R_convexMost_L2 (nI (mcx n X Y t)) (nI t) h s.1 s.2) (fun k => decide (pct ((mt n X Y).getD k (0, 0)).1 ≤ 1 ∧ (((mt n X Y).getD k (0, 0)).1 ||| ((mt n X Y).getD k (0, 0)).2) &&& t = ((mt n X Y).getD k (0, 0)).1 ||| ((mt n X Y).getD k (0, 0)).2)) (mt n X Y).length (.inl (nI (pct t), nI (t + 1))) (.inl (nI (mcx n X Y t), nI (t + 1))) (by omega) (by
        intro k hk
        show f_R_convexMost_L2 (nI (mcx n X Y t)) (nI t) h 1 (nI k) = _
        unfold f_R_convexMost_L2
        have e := gD (mt n X Y) (0, 0) hk
        have b := mt_lt hn (List.getElem_mem hk)
        rw [← e] at b
        have p2 := pct_le ((mt n X Y).getD k (0, 0)).1
        rw [M.2.1, if_neg (lt_no hk (by omega)), if_neg (by decide), if_neg (gd (by omega) (by omega)), cla (by omega), (M.2.2 k hk).1, (M.2.2 k hk).2, bitsOf_ok b.1, nI_or, nI_and, nI_1]
        simp only [Option.bind_some]
        generalize (mt n X Y).getD k (0, 0) = ab at *
        obtain ⟨x, y⟩ := ab
        have b : x < 4096 ∧ y < 4096 := b
        have p2 : pct x ≤ 12 := p2
        have o4 : x ||| y < 2 ^ 12 := Nat.or_lt_two_pow b.1 b.2
        have a4 : (x ||| y) &&& t ≤ x ||| y := Nat.and_le_left
        have c1 : (1 : Int32) < nI (pct x) ↔ 1 < pct x := nI_ltI (a := 1) (by omega) (by omega)
        simp only [c1, nI_eqI (show (x ||| y) &&& t ≤ 100000 by omega) (show x ||| y ≤ 100000 by omega)]
        by_cases y1 : 1 < pct x
        · rw [if_pos y1, if_neg (by simp; omega)]
        · rw [if_neg y1]
          by_cases y2 : (x ||| y) &&& t = x ||| y
          · rw [if_pos y2, if_pos (by simp [y2]; omega)]
          · rw [if_neg y2, if_neg (by simp [y2])]) (by
        show f_R_convexMost_L2 (nI (mcx n X Y t)) (nI t) h 1 (nI (mt n X Y).length) = _
        unfold f_R_convexMost_L2 f_R_convexMost_J3
        rw [M.2.1, if_pos (ge_yes (Nat.le_refl _) (by omega)), if_neg (by decide), bitsOf_ok (by omega), nI_1]
        rfl) (by
        intro k hk
        show f_R_convexMost_L2 (nI (mcx n X Y t)) (nI t) h 0 (nI k) = _
        unfold f_R_convexMost_L2 f_R_convexMost_J3
        by_cases y : hI h 79 31 ≤ nI k
        · rw [if_pos y, if_pos rfl, nI_1]
          rfl
        · rw [if_neg y, if_pos rfl, if_pos rfl, nI_1]
          rfl)
      rw [e]
      unfold cxB
      cases ex (fun k => decide (pct ((mt n X Y).getD k (0, 0)).1 ≤ 1 ∧ (((mt n X Y).getD k (0, 0)).1 ||| ((mt n X Y).getD k (0, 0)).2) &&& t = ((mt n X Y).getD k (0, 0)).1 ||| ((mt n X Y).getD k (0, 0)).2)) (mt n X Y).length
      · show some (Sum.inl (nI (pct t), nI (t + 1))) = some (Sum.inl (nI (max (mcx n X Y t) (pct t)), nI (t + 1)))
        rw [Nat.max_eq_right (by omega)]
      · rfl
    · rw [if_neg z]
      cases cxB n X Y t
      · rfl
      · show some (Sum.inl (nI (mcx n X Y t), nI (t + 1))) = some (Sum.inl (nI (max (mcx n X Y t) (pct t)), nI (t + 1)))
        rw [Nat.max_eq_left (by omega)]
  · show f_R_convexMost_L1 h (nI (mcx n X Y (2 ^ n))) (nI (2 ^ n)) = _
    unfold f_R_convexMost_L1
    rw [full_ok C hn, if_pos ((all_end hn (Nat.le_refl _)).mpr rfl)]
end C2
