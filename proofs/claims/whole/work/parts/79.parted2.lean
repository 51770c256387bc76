/-! parted by the meetings just then when nothing meets -/
theorem sub_iff {x s : Nat} : x &&& s = x ↔ ∀ i, x.testBit i = true → s.testBit i = true := by
  constructor
  · intro e i hi
    rw [← e, Nat.testBit_and, Bool.and_eq_true] at hi
    exact hi.2
  · intro H
    apply Nat.eq_of_testBit_eq
    intro i
    rw [Nat.testBit_and]
    cases hx : x.testBit i with
    | false => rfl
    | true => rw [H i hx]; rfl
theorem dis_iff {x s : Nat} : x &&& s = 0 ↔ ∀ i, x.testBit i = true → s.testBit i = false := by
  constructor
  · intro e i hi
    have : (x &&& s).testBit i = false := by rw [e]; exact Nat.zero_testBit i
    rw [Nat.testBit_and, hi] at this
    simpa using this
  · intro H
    apply Nat.eq_of_testBit_eq
    intro i
    rw [Nat.testBit_and, Nat.zero_testBit]
    cases hx : x.testBit i with
    | false => rfl
    | true => rw [H i hx]; rfl
theorem sub1 {p s : Nat} : 2 ^ p &&& s = 2 ^ p ↔ s.testBit p = true := by
  rw [sub_iff]
  simp only [Nat.testBit_two_pow, decide_eq_true_eq]
  exact ⟨fun H => H p rfl, fun H i e => e ▸ H⟩
theorem dis1 {p s : Nat} : 2 ^ p &&& s = 0 ↔ s.testBit p = false := by
  rw [dis_iff]
  simp only [Nat.testBit_two_pow, decide_eq_true_eq]
  exact ⟨fun H => H p rfl, fun H i e => e ▸ H⟩
theorem subo {x y s : Nat} : (x ||| y) &&& s = x ||| y ↔ x &&& s = x ∧ y &&& s = y := by
  rw [sub_iff, sub_iff, sub_iff]
  simp only [Nat.testBit_or, Bool.or_eq_true]
  exact ⟨fun H => ⟨fun i e => H i (Or.inl e), fun i e => H i (Or.inr e)⟩, fun H i e => e.elim (H.1 i) (H.2 i)⟩
theorem diso {x y s : Nat} : (x ||| y) &&& s = 0 ↔ x &&& s = 0 ∧ y &&& s = 0 := by
  rw [dis_iff, dis_iff, dis_iff]
  simp only [Nat.testBit_or, Bool.or_eq_true]
  exact ⟨fun H => ⟨fun i e => H i (Or.inl e), fun i e => H i (Or.inr e)⟩, fun H i e => e.elim (H.1 i) (H.2 i)⟩
/-- a meeting parts a set from itself -/
abbrev bad (ab : Nat × Nat) (s : Nat) : Prop := (ab.1 &&& s = ab.1 ∧ ab.2 &&& s = 0) ∨ (ab.1 &&& s = 0 ∧ ab.2 &&& s = ab.2)
section PA
variable {n g : Nat} {X Y : Nat → Int}
theorem mem_mt {ab : Nat × Nat} : ab ∈ mt n X Y ↔ ∃ p q r, p < n ∧ q < n ∧ r < q ∧ (ab ∈ mBt X Y p q r ∨ (p ≠ q ∧ p ≠ r ∧ ((∃ s, s < r ∧ ab ∈ m5 X Y p q r s) ∨ ∃ s, s < p ∧ ab ∈ m6 X Y p q r s))) := by
  unfold mt m1 m2 m3 mJ
  simp only [List.mem_flatMap, List.mem_range, List.mem_append]
  constructor
  · rintro ⟨p, hp, q, hq, r, hr, e⟩
    refine ⟨p, q, r, hp, hq, hr, ?_⟩
    rcases e with e | e
    · exact Or.inl e
    · right
      by_cases c : p = q ∨ p = r
      · rw [if_pos c] at e
        exact absurd e (by simp)
      · rw [if_neg c, List.mem_append, List.mem_flatMap, List.mem_flatMap] at e
        simp only [List.mem_range] at e
        exact ⟨fun x => c (Or.inl x), fun x => c (Or.inr x), e⟩
  · rintro ⟨p, q, r, hp, hq, hr, e⟩
    refine ⟨p, hp, q, hq, r, hr, ?_⟩
    rcases e with e | ⟨c1, c2, e⟩
    · exact Or.inl e
    · right
      rw [if_neg (fun x => x.elim c1 c2), List.mem_append, List.mem_flatMap, List.mem_flatMap]
      simp only [List.mem_range]
      exact e
theorem mt_bw {p q r : Nat} (hp : p < n) (hq : q < n) (hr : r < q) (h : bwB X Y p q r = true) : (2 ^ p, 2 ^ q ||| 2 ^ r) ∈ mt n X Y := mem_mt.mpr ⟨p, q, r, hp, hq, hr, Or.inl (by unfold mBt; rw [if_pos h]; simp)⟩
theorem mt_wi {p q r s : Nat} (hp : p < n) (hq : q < n) (hr : r < q) (hs : s < r) (h1 : p ≠ q) (h2 : p ≠ r) (h3 : s ≠ p) (h : wiB X Y p q r s = true) : (2 ^ p, 2 ^ q ||| 2 ^ r ||| 2 ^ s) ∈ mt n X Y := mem_mt.mpr ⟨p, q, r, hp, hq, hr, Or.inr ⟨h1, h2, Or.inl ⟨s, hs, by unfold m5; rw [if_pos ⟨h3, h⟩]; simp⟩⟩⟩
theorem mt_ac {p q r s : Nat} (hp : p < n) (hq : q < n) (hr : r < q) (hs : s < p) (h0 : s < r) (h1 : p ≠ q) (h2 : p ≠ r) (h : acB X Y s p r q = true) : (2 ^ s ||| 2 ^ p, 2 ^ r ||| 2 ^ q) ∈ mt n X Y := mem_mt.mpr ⟨p, q, r, hp, hq, hr, Or.inr ⟨h1, h2, Or.inr ⟨s, hs, by unfold m6; rw [if_pos ⟨h0, by omega, h⟩]; simp⟩⟩⟩
theorem mt_cases {ab : Nat × Nat} (h : ab ∈ mt n X Y) : (∃ p q r, p < n ∧ q < n ∧ r < q ∧ bwB X Y p q r = true ∧ ab = (2 ^ p, 2 ^ q ||| 2 ^ r)) ∨ (∃ p q r s, p < n ∧ q < n ∧ r < q ∧ s < r ∧ p ≠ q ∧ p ≠ r ∧ s ≠ p ∧ wiB X Y p q r s = true ∧ ab = (2 ^ p, 2 ^ q ||| 2 ^ r ||| 2 ^ s)) ∨ ∃ p q r s, p < n ∧ q < n ∧ r < q ∧ s < p ∧ s < r ∧ p ≠ q ∧ p ≠ r ∧ acB X Y s p r q = true ∧ ab = (2 ^ s ||| 2 ^ p, 2 ^ r ||| 2 ^ q) := by
  obtain ⟨p, q, r, hp, hq, hr, e⟩ := mem_mt.mp h
  rcases e with e | ⟨c1, c2, ⟨s, hs, e⟩ | ⟨s, hs, e⟩⟩
  · left
    unfold mBt at e
    by_cases c : bwB X Y p q r = true
    · rw [if_pos c] at e
      exact ⟨p, q, r, hp, hq, hr, c, by simpa using e⟩
    · rw [if_neg c] at e
      exact absurd e (by simp)
  · right; left
    unfold m5 at e
    by_cases c : s ≠ p ∧ wiB X Y p q r s = true
    · rw [if_pos c] at e
      exact ⟨p, q, r, s, hp, hq, hr, hs, c1, c2, c.1, c.2, by simpa using e⟩
    · rw [if_neg c] at e
      exact absurd e (by simp)
  · right; right
    unfold m6 at e
    by_cases c : s < r ∧ s ≠ q ∧ acB X Y s p r q = true
    · rw [if_pos c] at e
      exact ⟨p, q, r, s, hp, hq, hr, hs, c.1, c1, c2, c.2.2, by simpa using e⟩
    · rw [if_neg c] at e
      exact absurd e (by simp)
theorem bw_sw (p q r : Nat) : bwB X Y p q r = bwB X Y p r q := by
  unfold bwB
  have e1 := T3_swap (X := X) (Y := Y) p q r
  have e2 : DT3 X Y p q r = DT3 X Y p r q := by unfold DT3; grind
  rw [e2, e1]
  have e3 : (T3 X Y p q r = 0) ↔ (-T3 X Y p q r = 0) := by omega
  simp only [e3]
  cases decide (q ≠ p) <;> cases decide (r ≠ p) <;> simp
theorem wi_cy (p q r s : Nat) : wiB X Y p q r s = wiB X Y p r s q := by
  unfold wiB
  rw [decide_eq_decide]
  omega
theorem wi_sw (p q r s : Nat) : wiB X Y p q r s = wiB X Y p r q s := by
  unfold wiB
  have e1 : T3 X Y r q p = - T3 X Y q r p := by unfold T3 TR; grind
  have e2 : T3 X Y q s p = - T3 X Y s q p := by unfold T3 TR; grind
  have e3 : T3 X Y s r p = - T3 X Y r s p := by unfold T3 TR; grind
  rw [decide_eq_decide, e1, e2, e3]
  omega
theorem ac_12 (p q r s : Nat) : acB X Y p q r s = acB X Y q p r s := by
  unfold acB
  have e1 : T3 X Y q p r = - T3 X Y p q r := by unfold T3 TR; grind
  have e2 : T3 X Y q p s = - T3 X Y p q s := by unfold T3 TR; grind
  rw [decide_eq_decide, e1, e2]
  omega
theorem ac_34 (p q r s : Nat) : acB X Y p q r s = acB X Y p q s r := by
  unfold acB
  have e1 : T3 X Y s r p = - T3 X Y r s p := by unfold T3 TR; grind
  have e2 : T3 X Y s r q = - T3 X Y r s q := by unfold T3 TR; grind
  rw [decide_eq_decide, e1, e2]
  omega
theorem ac_x (p q r s : Nat) : acB X Y p q r s = acB X Y r s p q := by
  unfold acB
  rw [decide_eq_decide]
  exact and_comm
/-- a between, sorted -/
theorem mt_bw' {p q r : Nat} (hp : p < n) (hq : q < n) (hr : r < n) (hne : q ≠ r) (h : bwB X Y p q r = true) : ∃ a b, (a, b) ∈ mt n X Y ∧ a = 2 ^ p ∧ (b = 2 ^ q ||| 2 ^ r) := by
  rcases Nat.lt_or_gt_of_ne hne with l | l
  · exact ⟨_, _, mt_bw hp hr l (by rw [bw_sw]; exact h), rfl, Nat.or_comm _ _⟩
  · exact ⟨_, _, mt_bw hp hq l h, rfl, rfl⟩
theorem or3 (a b c : Nat) : a ||| b ||| c = b ||| c ||| a ∧ a ||| b ||| c = b ||| a ||| c := ⟨by rw [Nat.or_assoc, Nat.or_comm a (b ||| c)], by rw [Nat.or_comm a b]⟩
theorem mt_wi' {p q r s : Nat} (hp : p < n) (hq : q < n) (hr : r < n) (hs : s < n) (h1 : p ≠ q) (h2 : p ≠ r) (h3 : p ≠ s) (n1 : q ≠ r) (n2 : q ≠ s) (n3 : r ≠ s) (h : wiB X Y p q r s = true) : ∃ a b, (a, b) ∈ mt n X Y ∧ a = 2 ^ p ∧ (b = 2 ^ q ||| 2 ^ r ||| 2 ^ s) := by
  have srt : ∀ x y z : Nat, x < n → z < y → y < x → p ≠ x → p ≠ y → p ≠ z → wiB X Y p x y z = true → (2 ^ p, 2 ^ x ||| 2 ^ y ||| 2 ^ z) ∈ mt n X Y := fun x y z hx l1 l2 a1 a2 a3 w => mt_wi hp hx l2 l1 a1 a2 (fun e => a3 e.symm) w
  have c1 := wi_cy (X := X) (Y := Y) p q r s
  have c2 := wi_cy (X := X) (Y := Y) p r s q
  have s1 := wi_sw (X := X) (Y := Y) p q r s
  have s2 := wi_cy (X := X) (Y := Y) p r q s
  have s3 := wi_cy (X := X) (Y := Y) p q s r
  have : (s < r ∧ r < q) ∨ (r < s ∧ s < q) ∨ (s < q ∧ q < r) ∨ (q < s ∧ s < r) ∨ (r < q ∧ q < s) ∨ (q < r ∧ r < s) := by omega
  rcases this with l | l | l | l | l | l
  · exact ⟨_, _, srt q r s hq l.1 l.2 h1 h2 h3 h, rfl, rfl⟩
  · exact ⟨_, _, srt q s r hq l.1 l.2 h1 h3 h2 (by rw [← s2, ← s1]; exact h), rfl, by rw [Nat.or_assoc, Nat.or_comm (2 ^ s), ← Nat.or_assoc]⟩
  · exact ⟨_, _, srt r q s hr l.1 l.2 h2 h1 h3 (by rw [← s1]; exact h), rfl, by rw [Nat.or_comm (2 ^ r)]⟩
  · exact ⟨_, _, srt r s q hr l.1 l.2 h2 h3 h1 (by rw [← c1]; exact h), rfl, by rw [(or3 (2 ^ q) (2 ^ r) (2 ^ s)).1]⟩
  · exact ⟨_, _, srt s q r hs l.1 l.2 h3 h1 h2 (by rw [← c2, ← c1]; exact h), rfl, by rw [(or3 (2 ^ s) (2 ^ q) (2 ^ r)).1]⟩
  · exact ⟨_, _, srt s r q hs l.1 l.2 h3 h2 h1 (by rw [← s3, ← s2, ← s1]; exact h), rfl, by rw [(or3 (2 ^ s) (2 ^ r) (2 ^ q)).1, Nat.or_comm (2 ^ r)]⟩
theorem mt_ac' {p q r s : Nat} (hp : p < n) (hq : q < n) (hr : r < n) (hs : s < n) (n1 : p ≠ q) (n2 : p ≠ r) (n3 : p ≠ s) (n4 : q ≠ r) (n5 : q ≠ s) (n6 : r ≠ s) (h : acB X Y p q r s = true) : ∃ a b, (a, b) ∈ mt n X Y ∧ ((a = 2 ^ p ||| 2 ^ q ∧ b = 2 ^ r ||| 2 ^ s) ∨ (a = 2 ^ r ||| 2 ^ s ∧ b = 2 ^ p ||| 2 ^ q)) := by
  have srt : ∀ x y z w : Nat, y < n → w < n → x < y → z < w → x < z → y ≠ w → y ≠ z → acB X Y x y z w = true → (2 ^ x ||| 2 ^ y, 2 ^ z ||| 2 ^ w) ∈ mt n X Y := fun x y z w hy hw l1 l2 l3 m1 m2 c => mt_ac hy hw l2 l1 l3 m1 m2 c
  have c1 := ac_12 (X := X) (Y := Y) p q r s
  have c2 := ac_34 (X := X) (Y := Y) p q r s
  have c3 := ac_34 (X := X) (Y := Y) q p r s
  have x1 := ac_x (X := X) (Y := Y) p q r s
  have x2 := ac_x (X := X) (Y := Y) q p r s
  have x3 := ac_x (X := X) (Y := Y) p q s r
  have x4 := ac_x (X := X) (Y := Y) q p s r
  rcases Nat.lt_or_gt_of_ne n1 with l1 | l1 <;> rcases Nat.lt_or_gt_of_ne n6 with l2 | l2
  · rcases Nat.lt_or_gt_of_ne n2 with l3 | l3
    · exact ⟨_, _, srt p q r s hq hs l1 l2 l3 n5 n4 h, Or.inl ⟨rfl, rfl⟩⟩
    · exact ⟨_, _, srt r s p q hs hq l2 l1 l3 n5.symm n3.symm (by rw [← x1]; exact h), Or.inr ⟨rfl, rfl⟩⟩
  · rcases Nat.lt_or_gt_of_ne n3 with l3 | l3
    · exact ⟨_, _, srt p q s r hq hr l1 l2 l3 n4 n5 (by rw [← c2]; exact h), Or.inl ⟨rfl, Nat.or_comm _ _⟩⟩
    · exact ⟨_, _, srt s r p q hr hq l2 l1 l3 n4.symm n2.symm (by rw [← x3, ← c2]; exact h), Or.inr ⟨Nat.or_comm _ _, rfl⟩⟩
  · rcases Nat.lt_or_gt_of_ne n4 with l3 | l3
    · exact ⟨_, _, srt q p r s hp hs l1 l2 l3 n3 n2 (by rw [← c1]; exact h), Or.inl ⟨Nat.or_comm _ _, rfl⟩⟩
    · exact ⟨_, _, srt r s q p hs hp l2 l1 l3 n3.symm n5.symm (by rw [← x2, ← c1]; exact h), Or.inr ⟨rfl, Nat.or_comm _ _⟩⟩
  · rcases Nat.lt_or_gt_of_ne n5 with l3 | l3
    · exact ⟨_, _, srt q p s r hp hr l1 l2 l3 n2 n3 (by rw [← c3, ← c1]; exact h), Or.inl ⟨Nat.or_comm _ _, Nat.or_comm _ _⟩⟩
    · exact ⟨_, _, srt s r q p hr hp l2 l1 l3 n2.symm n4.symm (by rw [← x4, ← c3, ← c1]; exact h), Or.inr ⟨Nat.or_comm _ _, Nat.or_comm _ _⟩⟩
theorem nt {b : Bool} (h : ¬ b = true) : b = false := by cases b <;> simp_all
theorem parted_iff (hd : ∀ i j, i < n → j < n → X i = X j → Y i = Y j → i = j) (s : Nat) : (∀ ab, ab ∈ mt n X Y → ¬ bad ab s) ↔ NoMeet X Y n (fun i => s.testBit i) := by
  constructor
  · intro H
    refine ⟨?_, ?_, ?_⟩
    · intro i j k hi hj hk h1 h2 t d
      have h1 : s.testBit i ≠ s.testBit j := h1
      have h2 : s.testBit j = s.testBit k := h2
      have nij : i ≠ j := fun e => h1 (by rw [e])
      have nik : i ≠ k := fun e => h1 (by rw [h2, e])
      have njk : j ≠ k := fun e => by
        subst e
        have := DT3_self (X := X) (Y := Y) i j
        omega
      have w : bwB X Y i j k = true := by
        unfold bwB
        have : T3 X Y i j k = 0 := by rw [← T3_rot]; exact t
        simp [this, d, nij.symm, nik.symm]
      obtain ⟨a, b, m, rfl, rfl⟩ := mt_bw' hi hj hk njk w
      refine H _ m ?_
      unfold bad
      simp only [sub1, dis1, subo, diso]
      cases e : s.testBit j with
      | true =>
        right
        exact ⟨nt (fun x => h1 (x.trans e.symm)), rfl, h2 ▸ e⟩
      | false =>
        left
        refine ⟨?_, rfl, h2 ▸ e⟩
        cases z : s.testBit i with
        | true => rfl
        | false => exact absurd (z.trans e.symm) h1
    · intro i j k l hi hj hk hl h1 h2 h3 t1 t2 t3
      have h1 : s.testBit i ≠ s.testBit j := h1
      have h2 : s.testBit j = s.testBit k := h2
      have h3 : s.testBit j = s.testBit l := h3
      have nij : i ≠ j := fun e => h1 (by rw [e])
      have nik : i ≠ k := fun e => h1 (by rw [h2, e])
      have nil : i ≠ l := fun e => h1 (by rw [h3, e])
      have njk : j ≠ k := fun e => by
        subst e
        have : T3 X Y j j i = 0 := by unfold T3 TR; grind
        omega
      have nkl : k ≠ l := fun e => by
        subst e
        have : T3 X Y k k i = 0 := by unfold T3 TR; grind
        omega
      have njl : j ≠ l := fun e => by
        subst e
        have : T3 X Y j j i = 0 := by unfold T3 TR; grind
        omega
      have w : wiB X Y i j k l = true := by
        unfold wiB
        rw [decide_eq_true_iff]
        exact Or.inl ⟨t1, t2, t3⟩
      obtain ⟨a, b, m, rfl, rfl⟩ := mt_wi' hi hj hk hl nij nik nil njk njl nkl w
      refine H _ m ?_
      unfold bad
      simp only [sub1, dis1, subo, diso]
      cases e : s.testBit j with
      | true =>
        right
        exact ⟨nt (fun x => h1 (x.trans e.symm)), ⟨rfl, h2 ▸ e⟩, h3 ▸ e⟩
      | false =>
        left
        refine ⟨?_, ⟨rfl, h2 ▸ e⟩, h3 ▸ e⟩
        cases z : s.testBit i with
        | true => rfl
        | false => exact absurd (z.trans e.symm) h1
    · intro i j k l hi hj hk hl h1 h2 h3 t1 t2 t3 t4
      have h1 : s.testBit i = s.testBit j := h1
      have h2 : s.testBit k = s.testBit l := h2
      have h3 : s.testBit i ≠ s.testBit k := h3
      have nik : i ≠ k := fun e => h3 (by rw [e])
      have nil : i ≠ l := fun e => h3 (by rw [h2, e])
      have njk : j ≠ k := fun e => h3 (by rw [h1, e])
      have njl : j ≠ l := fun e => h3 (by rw [h1, h2, e])
      have nij : i ≠ j := fun e => by
        subst e
        have : T3 X Y i i k = 0 := by unfold T3 TR; grind
        omega
      have nkl : k ≠ l := fun e => by
        subst e
        have : T3 X Y k k i = 0 := by unfold T3 TR; grind
        omega
      have w : acB X Y i j k l = true := by
        unfold acB
        rw [decide_eq_true_iff]
        exact ⟨Or.inr ⟨t1, t2⟩, Or.inl ⟨t3, t4⟩⟩
      obtain ⟨a, b, m, e⟩ := mt_ac' hi hj hk hl nij nik nil njk njl nkl w
      refine H _ m ?_
      unfold bad
      rcases e with ⟨rfl, rfl⟩ | ⟨rfl, rfl⟩
      · simp only [sub1, dis1, subo, diso]
        cases e : s.testBit i with
        | true =>
          left
          have z : s.testBit k = false := nt (fun x => h3 (e.trans x.symm))
          exact ⟨⟨rfl, h1 ▸ e⟩, z, h2 ▸ z⟩
        | false =>
          right
          have z : s.testBit k = true := by
            cases z : s.testBit k with
            | true => rfl
            | false => exact absurd (e.trans z.symm) h3
          exact ⟨⟨rfl, h1 ▸ e⟩, z, h2 ▸ z⟩
      · simp only [sub1, dis1, subo, diso]
        cases e : s.testBit i with
        | true =>
          right
          have z : s.testBit k = false := nt (fun x => h3 (e.trans x.symm))
          exact ⟨⟨z, h2 ▸ z⟩, rfl, h1 ▸ e⟩
        | false =>
          left
          have z : s.testBit k = true := by
            cases z : s.testBit k with
            | true => rfl
            | false => exact absurd (e.trans z.symm) h3
          exact ⟨⟨z, h2 ▸ z⟩, rfl, h1 ▸ e⟩
  · intro N ab m hb
    obtain ⟨N1, N2, N3⟩ := N
    have N1 : ∀ i j k, i < n → j < n → k < n → s.testBit i ≠ s.testBit j → s.testBit j = s.testBit k → T3 X Y j k i = 0 → ¬ DT3 X Y i j k < 0 := N1
    have N2 : ∀ i j k l, i < n → j < n → k < n → l < n → s.testBit i ≠ s.testBit j → s.testBit j = s.testBit k → s.testBit j = s.testBit l → 0 < T3 X Y j k i → 0 < T3 X Y k l i → ¬ 0 < T3 X Y l j i := N2
    have N3 : ∀ i j k l, i < n → j < n → k < n → l < n → s.testBit i = s.testBit j → s.testBit k = s.testBit l → s.testBit i ≠ s.testBit k → T3 X Y i j k < 0 → 0 < T3 X Y i j l → 0 < T3 X Y k l i → ¬ T3 X Y k l j < 0 := N3
    rcases mt_cases m with ⟨p, q, r, hp, hq, hr, w, rfl⟩ | ⟨p, q, r, u, hp, hq, hr, hu, n1, n2, n3, w, rfl⟩ | ⟨p, q, r, u, hp, hq, hr, hu, hur, n1, n2, w, rfl⟩
    · unfold bad at hb
      simp only [sub1, dis1, subo, diso] at hb
      unfold bwB at w
      simp only [Bool.and_eq_true, decide_eq_true_eq] at w
      have t : T3 X Y q r p = 0 := by rw [T3_rot]; exact w.2.1
      rcases hb with ⟨b1, b2, b3⟩ | ⟨b1, b2, b3⟩
      · exact N1 p q r hp hq (by omega) (by rw [b1, b2]; decide) (by rw [b2, b3]) t w.2.2
      · exact N1 p q r hp hq (by omega) (by rw [b1, b2]; decide) (by rw [b2, b3]) t w.2.2
    · unfold bad at hb
      simp only [sub1, dis1, subo, diso] at hb
      unfold wiB at w
      rw [decide_eq_true_iff] at w
      have e1 : T3 X Y r q p = - T3 X Y q r p := by unfold T3 TR; grind
      have e2 : T3 X Y q u p = - T3 X Y u q p := by unfold T3 TR; grind
      have e3 : T3 X Y u r p = - T3 X Y r u p := by unfold T3 TR; grind
      have d : s.testBit p ≠ s.testBit q ∧ s.testBit q = s.testBit r ∧ s.testBit q = s.testBit u := by
        rcases hb with ⟨b1, ⟨b2, b3⟩, b4⟩ | ⟨b1, ⟨b2, b3⟩, b4⟩
        · exact ⟨by rw [b1, b2]; decide, by rw [b2, b3], by rw [b2, b4]⟩
        · exact ⟨by rw [b1, b2]; decide, by rw [b2, b3], by rw [b2, b4]⟩
      rcases w with w | w
      · exact N2 p q r u hp hq (by omega) (by omega) d.1 d.2.1 d.2.2 w.1 w.2.1 w.2.2
      · exact N2 p r q u hp (by omega) hq (by omega) (fun x => d.1 (x.trans d.2.1.symm)) d.2.1.symm (d.2.1.symm.trans d.2.2) (by omega) (by omega) (by omega)
    · unfold bad at hb
      simp only [sub1, dis1, subo, diso] at hb
      unfold acB at w
      rw [decide_eq_true_iff] at w
      have d : s.testBit u = s.testBit p ∧ s.testBit r = s.testBit q ∧ s.testBit u ≠ s.testBit r := by
        rcases hb with ⟨⟨b1, b2⟩, b3, b4⟩ | ⟨⟨b1, b2⟩, b3, b4⟩
        · exact ⟨by rw [b1, b2], by rw [b3, b4], by rw [b1, b3]; decide⟩
        · exact ⟨by rw [b1, b2], by rw [b3, b4], by rw [b1, b3]; decide⟩
      have id : T3 X Y r q u - T3 X Y r q p = T3 X Y u p q - T3 X Y u p r := by unfold T3 TR; grind
      obtain ⟨w1, w2⟩ := w
      rcases w1 with w1 | w1
      · have e1 : T3 X Y q r u = - T3 X Y r q u := by unfold T3 TR; grind
        have e2 : T3 X Y q r p = - T3 X Y r q p := by unfold T3 TR; grind
        exact N3 u p q r (by omega) hp hq (by omega) d.1 d.2.1.symm (fun x => d.2.2 (x.trans d.2.1.symm)) w1.2 w1.1 (by omega) (by omega)
      · exact N3 u p r q (by omega) hp (by omega) hq d.1 d.2.1 d.2.2 w1.1 w1.2 (by omega) (by omega)
end PA
