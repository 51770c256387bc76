/-! the call four -/
section F2
variable {n g : Nat} {X Y : Nat → Int} {h : pH} {o : Nat}
theorem wi_rv (p q r s : Nat) : wiB X Y p q r s = wiB X Y p s r q := by rw [wi_sw p q r s, wi_cy p r q s, wi_cy p q s r]
theorem E7 (a b c d : Nat) : b1 (wiB X Y a b c d = true) + b1 (wiB X Y b a c d = true) + b1 (wiB X Y c a b d = true) + b1 (wiB X Y d a b c = true) + b1 (acB X Y a b c d = true) + b1 (acB X Y a c b d = true) + b1 (acB X Y a d b c = true) ≤ 1 := by
  have := one_of_7 (X := X) (Y := Y) a b c d
  rw [wi_rv a d c b, wi_rv b d c a, wi_rv c d b a, wi_rv d c b a] at this
  exact this
def v4 (X Y : Nat → Int) (s a b c d : Nat) : Int32 := if wiB X Y a b c d then nI (2 ^ a) else if wiB X Y b a c d then nI (mns s (2 ^ b)) else if wiB X Y c a b d then nI (mns s (2 ^ c)) else if wiB X Y d a b c then nI (mns s (2 ^ d)) else if acB X Y a b c d then nI (2 ^ a ||| 2 ^ b) else if acB X Y a c b d then nI (2 ^ a ||| 2 ^ c) else if acB X Y a d b c then nI (2 ^ a ||| 2 ^ d) else -1
def mtC (X Y : Nat → Int) (a b c d q : Nat) : Bool := (decide (q = b) && acB X Y a b c d) || (decide (q = c) && acB X Y a c b d) || (decide (q = d) && acB X Y a d b c)
def mtV (X Y : Nat → Int) (a b c d : Nat) : Int32 := if acB X Y a b c d then nI (2 ^ a ||| 2 ^ b) else if acB X Y a c b d then nI (2 ^ a ||| 2 ^ c) else if acB X Y a d b c then nI (2 ^ a ||| 2 ^ d) else -1
theorem partLoop_ok (C : CC h o n g X Y) (G : GC n g X Y) {s a b c d : Nat} (hs : s < 4096) (Q : Q4 n X Y s a b c d) : lp (fun t => f_Shapes_partWithLeast_L1 o (nI s) (nI a) h t) lpN (nI (a + 1)) = some (mtV X Y a b c d) := by
  have hn := G.1
  obtain ⟨⟨hab, hbc, hcd, hd⟩, rfl, z1, z2, z3, z4⟩ := Q
  have st : ∀ q, a < q → q < n → f_Shapes_partWithLeast_L1 o (nI (2 ^ a ||| 2 ^ b ||| 2 ^ c ||| 2 ^ d)) (nI a) h (nI q) = some (if mtC X Y a b c d q then .inr (nI (2 ^ a ||| 2 ^ q)) else .inl (nI (q + 1))) := by
    intro q haq hq
    unfold f_Shapes_partWithLeast_L1
    have l4 : mns (mns (2 ^ a ||| 2 ^ b ||| 2 ^ c ||| 2 ^ d) (2 ^ a)) (2 ^ q) < 4096 := mns_lt (n := 12) _ (mns_lt (n := 12) _ hs)
    rw [C.1, if_neg (lt_no hq (by omega)), bit_ok (by omega) (by omega), jshl_ok a (by omega), jshl_ok q (by omega), andn_ok, andn_ok, nI_or, nI_1]
    have bits : ∀ i, (mns (mns (2 ^ a ||| 2 ^ b ||| 2 ^ c ||| 2 ^ d) (2 ^ a)) (2 ^ q)).testBit i = true ↔ (i = b ∨ i = c ∨ i = d) ∧ i ≠ q := by
      intro i
      rw [mns_bit, mns_bit, Bool.and_eq_true, Bool.and_eq_true, b4, Nat.testBit_two_pow, Nat.testBit_two_pow, Bool.not_eq_true', Bool.not_eq_true', decide_eq_false_iff_not, decide_eq_false_iff_not]
      omega
    have fin : ∀ w : Bool, mtC X Y a b c d q = w → (2 ^ a ||| 2 ^ b ||| 2 ^ c ||| 2 ^ d).testBit q = true → f_Shapes_meet o (nI a) (nI q) (nI (mns (mns (2 ^ a ||| 2 ^ b ||| 2 ^ c ||| 2 ^ d) (2 ^ a)) (2 ^ q))) h = some (if w then 1 else 0) → (if (if (2 ^ a ||| 2 ^ b ||| 2 ^ c ||| 2 ^ d).testBit q = true then (1 : Int32) else 0) = 1 then (f_Shapes_meet o (nI a) (nI q) (nI (mns (mns (2 ^ a ||| 2 ^ b ||| 2 ^ c ||| 2 ^ d) (2 ^ a)) (2 ^ q))) h).bind fun v_3 => if v_3 = 0 then some (Sum.inl (nI (q + 1))) else some (Sum.inr (nI (2 ^ a ||| 2 ^ q))) else some (Sum.inl (nI (q + 1)))) = some (if mtC X Y a b c d q then Sum.inr (nI (2 ^ a ||| 2 ^ q)) else Sum.inl (nI (q + 1))) := by
      intro w e1 e2 e3
      rw [e1, e2, e3, if_pos (by rfl)]
      cases w <;> rfl
    by_cases y2 : q = b
    · subst y2
      refine fin (acB X Y a q c d) ?_ ((b4 q).mpr (by omega)) (meet_ok C G (by omega) hq l4 (fun i => (bits i).trans (by omega)) hcd hd)
      unfold mtC
      rw [show decide (q = c) = false by simp; omega, show decide (q = d) = false by simp; omega]
      simp
    by_cases y3 : q = c
    · subst y3
      refine fin (acB X Y a q b d) ?_ ((b4 q).mpr (by omega)) (meet_ok C G (by omega) hq l4 (fun i => (bits i).trans (by omega)) (by omega) hd)
      unfold mtC
      rw [show decide (q = b) = false by simp; omega, show decide (q = d) = false by simp; omega]
      simp
    by_cases y4 : q = d
    · subst y4
      refine fin (acB X Y a q b c) ?_ ((b4 q).mpr (by omega)) (meet_ok C G (by omega) hq l4 (fun i => (bits i).trans (by omega)) hbc (by omega))
      unfold mtC
      rw [show decide (q = b) = false by simp; omega, show decide (q = c) = false by simp; omega]
      simp
    have nb : (2 ^ a ||| 2 ^ b ||| 2 ^ c ||| 2 ^ d).testBit q = false := by
      cases z : (2 ^ a ||| 2 ^ b ||| 2 ^ c ||| 2 ^ d).testBit q with
      | false => rfl
      | true => have := (b4 q).mp z; omega
    rw [nb]
    unfold mtC
    simp [y2, y3, y4]
  obtain ⟨r, e1, e2⟩ := lp_find (f := fun t => f_Shapes_partWithLeast_L1 o (nI (2 ^ a ||| 2 ^ b ||| 2 ^ c ||| 2 ^ d)) (nI a) h t) (fun k => nI (a + 1 + k)) (fun k => mtC X Y a b c d (a + 1 + k)) (n - (a + 1)) (fun r => r = mtV X Y a b c d) (fun k hk hf => by
    show f_Shapes_partWithLeast_L1 o _ (nI a) h (nI (a + 1 + k)) = _
    rw [st _ (by omega) (by omega), hf]
    rfl) (fun k hk ht hbef => ⟨nI (2 ^ a ||| 2 ^ (a + 1 + k)), by
    show f_Shapes_partWithLeast_L1 o _ (nI a) h (nI (a + 1 + k)) = _
    rw [st _ (by omega) (by omega), ht]
    rfl, by
    have bef : ∀ q, a < q → q < a + 1 + k → mtC X Y a b c d q = false := fun q l1 l2 => by
      have := hbef (q - (a + 1)) (by omega)
      rw [show a + 1 + (q - (a + 1)) = q by omega] at this
      exact this
    generalize a + 1 + k = p at *
    have bb := fun (l : b < p) => bef b hab l
    have bc := fun (l : c < p) => bef c (by omega) l
    unfold mtC at ht bb bc
    simp only [Bool.or_eq_true, Bool.and_eq_true, decide_eq_true_eq, Bool.or_eq_false_iff, Bool.and_eq_false_iff, decide_eq_false_iff_not, decide_true, Bool.true_and, not_true_eq_false, false_or] at ht bb bc
    unfold mtV
    rcases ht with (⟨rfl, w⟩ | ⟨rfl, w⟩) | ⟨rfl, w⟩
    · rw [w]; rfl
    · rw [(bb (by omega)).1.1, w]; rfl
    · rw [(bb (by omega)).1.1, (bc (by omega)).1.2, w]; rfl⟩) (fun hno => ⟨-1, by
    show f_Shapes_partWithLeast_L1 o _ (nI a) h (nI (a + 1 + (n - (a + 1)))) = _
    unfold f_Shapes_partWithLeast_L1
    rw [show a + 1 + (n - (a + 1)) = n by omega, C.1, if_pos (ge_yes (Nat.le_refl _) (by omega))], by
    have hno : ∀ q, a < q → q < n → mtC X Y a b c d q = false := fun q l1 l2 => by
      have := hno (q - (a + 1)) (by omega)
      rw [show a + 1 + (q - (a + 1)) = q by omega] at this
      exact this
    have bb := hno b (by omega) (by omega)
    have bc := hno c (by omega) (by omega)
    have bd := hno d (by omega) (by omega)
    unfold mtC at bb bc bd
    simp only [Bool.or_eq_false_iff, Bool.and_eq_false_iff, decide_eq_false_iff_not, decide_true, Bool.true_and, not_true_eq_false, false_or] at bb bc bd
    unfold mtV
    rw [bb.1.1, bc.1.2, bd.2]
    rfl⟩) (by unfold lpN; omega)
  rw [show lp (fun t => f_Shapes_partWithLeast_L1 o (nI (2 ^ a ||| 2 ^ b ||| 2 ^ c ||| 2 ^ d)) (nI a) h t) lpN (nI (a + 1)) = some r from e1, e2]
theorem q4_ls {s a b c d : Nat} (hs : s < 4096) (Q : Q4 n X Y s a b c d) : lsB s = a ∧ s ≠ 0 := by
  obtain ⟨⟨hab, hbc, hcd, hd⟩, rfl, -⟩ := Q
  have ba : (2 ^ a ||| 2 ^ b ||| 2 ^ c ||| 2 ^ d).testBit a = true := (b4 a).mpr (Or.inl rfl)
  refine ⟨lsB_eq hs ba (fun i hi => ?_), bit_ne ba⟩
  cases z : (2 ^ a ||| 2 ^ b ||| 2 ^ c ||| 2 ^ d).testBit i with
  | false => rfl
  | true => have := (b4 i).mp z; omega
theorem part_ok (C : CC h o n g X Y) (G : GC n g X Y) {s a b c d : Nat} (hs : s < 4096) (Q : Q4 n X Y s a b c d) (h3 : ¬ P3 n X Y s) : f_Shapes_partWithLeast o (nI s) h = some (v4 X Y s a b c d) := by
  have hn := G.1
  obtain ⟨w, e1, e2⟩ := three_ok C G hs
  have hw : w = false := by
    cases w with
    | false => rfl
    | true => exact absurd (e2.mp rfl) h3
  subst hw
  obtain ⟨l1, l2⟩ := q4_ls hs Q
  unfold f_Shapes_partWithLeast
  rw [e1]
  simp only [Option.bind_some]
  rw [if_pos (by rfl), innerOf_ok C G hs Q]
  simp only [Option.bind_some]
  rw [least_ok hs l2, l1, nI_1, partLoop_ok C G hs Q]
  obtain ⟨⟨hab, hbc, hcd, hd⟩, -, -⟩ := Q
  have ne : ∀ x y, x < 13 → y < 13 → x ≠ y → ¬ nI x = nI y := fun x y hx hy hxy e => hxy ((nI_eqI (by omega) (by omega)).mp e)
  unfold inV v4 mtV
  cases wiB X Y a b c d
  · cases wiB X Y b a c d
    · cases wiB X Y c a b d
      · cases wiB X Y d a b c
        · simp only [Bool.false_eq_true, if_false, if_true]
        · simp only [Bool.false_eq_true, if_false, if_true]
          rw [if_neg (m1_ne (by omega)), if_neg (ne d a (by omega) (by omega) (by omega)), jshl_ok d (by omega), andn_ok]
      · simp only [Bool.false_eq_true, if_false, if_true]
        rw [if_neg (m1_ne (by omega)), if_neg (ne c a (by omega) (by omega) (by omega)), jshl_ok c (by omega), andn_ok]
    · simp only [Bool.false_eq_true, if_false, if_true]
      rw [if_neg (m1_ne (by omega)), if_neg (ne b a (by omega) (by omega) (by omega)), jshl_ok b (by omega), andn_ok]
  · simp only [if_true]
    rw [if_neg (m1_ne (by omega)), jshl_ok a (by omega)]
/-- a meeting of just these four tells the part with the least -/
theorem four_val {s a b c d : Nat} (Q : Q4 n X Y s a b c d) {x y : Nat} (m : (x, y) ∈ mt n X Y) (hu : x ||| y = s) : (if x.testBit a then nI x else nI y) = v4 X Y s a b c d := by
  obtain ⟨⟨hab, hbc, hcd, hd⟩, rfl, -⟩ := Q
  have e7 := E7 (X := X) (Y := Y) a b c d
  have bits : ∀ i, (x ||| y).testBit i = true ↔ i = a ∨ i = b ∨ i = c ∨ i = d := fun i => by rw [hu]; exact b4 i
  rcases mt_cases m with ⟨p, q, r, hp, hq, hr, w, e⟩ | ⟨p, q, r, u, hp, hq, hr, hu', n1, n2, n3, w, e⟩ | ⟨p, q, r, u, hp, hq, hr, hu', hur, n1, n2, w, e⟩
  · obtain ⟨rfl, rfl⟩ := Prod.mk.inj e
    exfalso
    have bb : ∀ i, (i = p ∨ i = q ∨ i = r) ↔ i = a ∨ i = b ∨ i = c ∨ i = d := fun i => by
      rw [← bits i, Nat.testBit_or, Nat.testBit_or, Nat.testBit_two_pow, Nat.testBit_two_pow, Nat.testBit_two_pow]
      simp only [Bool.or_eq_true, decide_eq_true_eq]
      omega
    have b1 := (bb a).mpr (by omega)
    have b2 := (bb b).mpr (by omega)
    have b3 := (bb c).mpr (by omega)
    have b4 := (bb d).mpr (by omega)
    clear bits bb
    omega
  · obtain ⟨rfl, rfl⟩ := Prod.mk.inj e
    have bb : ∀ i, (i = p ∨ i = q ∨ i = r ∨ i = u) ↔ i = a ∨ i = b ∨ i = c ∨ i = d := fun i => by
      rw [← bits i, Nat.testBit_or, Nat.testBit_or, Nat.testBit_or, Nat.testBit_two_pow, Nat.testBit_two_pow, Nat.testBit_two_pow, Nat.testBit_two_pow]
      simp only [Bool.or_eq_true, decide_eq_true_eq]
      omega
    have ba := (bb a).mpr (by omega)
    have bb' := (bb b).mpr (by omega)
    have bc := (bb c).mpr (by omega)
    have bd := (bb d).mpr (by omega)
    have pin := (bb p).mp (by omega)
    have oth : ∀ _ : Nat, 2 ^ q ||| 2 ^ r ||| 2 ^ u = mns (2 ^ a ||| 2 ^ b ||| 2 ^ c ||| 2 ^ d) (2 ^ p) := fun _ => by
      apply Nat.eq_of_testBit_eq
      intro i
      apply Bool.eq_iff_iff.mpr
      rw [mns_bit, Bool.and_eq_true, b4, ← bb i, Nat.testBit_or, Nat.testBit_or, Nat.testBit_two_pow, Nat.testBit_two_pow, Nat.testBit_two_pow, Nat.testBit_two_pow, Bool.not_eq_true', decide_eq_false_iff_not]
      simp only [Bool.or_eq_true, decide_eq_true_eq]
      omega
    rw [oth 0, Nat.testBit_two_pow]
    clear bits bb
    rcases pin with rfl | rfl | rfl | rfl
    · have : q = d ∧ r = c ∧ u = b := by omega
      obtain ⟨rfl, rfl, rfl⟩ := this
      rw [wi_rv] at w
      unfold v4
      rw [w]
      simp
    · have : q = d ∧ r = c ∧ u = a := by omega
      obtain ⟨rfl, rfl, rfl⟩ := this
      rw [wi_rv] at w
      have f1 : wiB X Y u p r q = false := nt (fun z => by rw [b1_t z, b1_t w] at e7; omega)
      unfold v4
      rw [f1, w, show decide (p = u) = false by simp; omega]
      simp
    · have : q = d ∧ r = b ∧ u = a := by omega
      obtain ⟨rfl, rfl, rfl⟩ := this
      rw [wi_rv] at w
      have f1 : wiB X Y u r p q = false := nt (fun z => by rw [b1_t z, b1_t w] at e7; omega)
      have f2 : wiB X Y r u p q = false := nt (fun z => by rw [b1_t z, b1_t w] at e7; omega)
      unfold v4
      rw [f1, f2, w, show decide (p = u) = false by simp; omega]
      simp
    · have : q = c ∧ r = b ∧ u = a := by omega
      obtain ⟨rfl, rfl, rfl⟩ := this
      rw [wi_rv] at w
      have f1 : wiB X Y u r q p = false := nt (fun z => by rw [b1_t z, b1_t w] at e7; omega)
      have f2 : wiB X Y r u q p = false := nt (fun z => by rw [b1_t z, b1_t w] at e7; omega)
      have f3 : wiB X Y q u r p = false := nt (fun z => by rw [b1_t z, b1_t w] at e7; omega)
      unfold v4
      rw [f1, f2, f3, w, show decide (p = u) = false by simp; omega]
      simp
  · obtain ⟨rfl, rfl⟩ := Prod.mk.inj e
    have bb : ∀ i, (i = p ∨ i = q ∨ i = r ∨ i = u) ↔ i = a ∨ i = b ∨ i = c ∨ i = d := fun i => by
      rw [← bits i, Nat.testBit_or, Nat.testBit_or, Nat.testBit_or, Nat.testBit_two_pow, Nat.testBit_two_pow, Nat.testBit_two_pow, Nat.testBit_two_pow]
      simp only [Bool.or_eq_true, decide_eq_true_eq]
      omega
    have ba := (bb a).mpr (by omega)
    have bb' := (bb b).mpr (by omega)
    have bc := (bb c).mpr (by omega)
    have bd := (bb d).mpr (by omega)
    have uin := (bb u).mp (by omega)
    have pin := (bb p).mp (by omega)
    clear bits bb
    have hua : u = a := by omega
    subst hua
    rw [Nat.testBit_or, Nat.testBit_two_pow, decide_eq_true (rfl : u = u), Bool.true_or, if_pos rfl]
    rcases pin with h0 | rfl | rfl | rfl
    · omega
    · have : q = d ∧ r = c := by omega
      obtain ⟨rfl, rfl⟩ := this
      have f1 : wiB X Y u p r q = false := nt (fun z => by rw [b1_t z, b1_t w] at e7; omega)
      have f2 : wiB X Y p u r q = false := nt (fun z => by rw [b1_t z, b1_t w] at e7; omega)
      have f3 : wiB X Y r u p q = false := nt (fun z => by rw [b1_t z, b1_t w] at e7; omega)
      have f4 : wiB X Y q u p r = false := nt (fun z => by rw [b1_t z, b1_t w] at e7; omega)
      unfold v4
      rw [f1, f2, f3, f4, w]
      rfl
    · have : q = d ∧ r = b := by omega
      obtain ⟨rfl, rfl⟩ := this
      have f1 : wiB X Y u r p q = false := nt (fun z => by rw [b1_t z, b1_t w] at e7; omega)
      have f2 : wiB X Y r u p q = false := nt (fun z => by rw [b1_t z, b1_t w] at e7; omega)
      have f3 : wiB X Y p u r q = false := nt (fun z => by rw [b1_t z, b1_t w] at e7; omega)
      have f4 : wiB X Y q u r p = false := nt (fun z => by rw [b1_t z, b1_t w] at e7; omega)
      have f5 : acB X Y u r p q = false := nt (fun z => by rw [b1_t z, b1_t w] at e7; omega)
      unfold v4
      rw [f1, f2, f3, f4, f5, w]
      rfl
    · have : q = c ∧ r = b := by omega
      obtain ⟨rfl, rfl⟩ := this
      have f1 : wiB X Y u r q p = false := nt (fun z => by rw [b1_t z, b1_t w] at e7; omega)
      have f2 : wiB X Y r u q p = false := nt (fun z => by rw [b1_t z, b1_t w] at e7; omega)
      have f3 : wiB X Y q u r p = false := nt (fun z => by rw [b1_t z, b1_t w] at e7; omega)
      have f4 : wiB X Y p u r q = false := nt (fun z => by rw [b1_t z, b1_t w] at e7; omega)
      have f5 : acB X Y u r q p = false := nt (fun z => by rw [b1_t z, b1_t w] at e7; omega)
      have f6 : acB X Y u q r p = false := nt (fun z => by rw [b1_t z, b1_t w] at e7; omega)
      unfold v4
      rw [f1, f2, f3, f4, f5, f6, w]
      rfl
theorem four_none {s a b c d : Nat} (Q : Q4 n X Y s a b c d) (H : ∀ ab, ab ∈ mt n X Y → ¬ ab.1 ||| ab.2 = s) : v4 X Y s a b c d = -1 := by
  obtain ⟨⟨hab, hbc, hcd, hd⟩, rfl, -⟩ := Q
  have un : ∀ x y, (∀ i, (x ||| y).testBit i = true ↔ i = a ∨ i = b ∨ i = c ∨ i = d) → x ||| y = 2 ^ a ||| 2 ^ b ||| 2 ^ c ||| 2 ^ d := fun x y hb => by
    apply Nat.eq_of_testBit_eq
    intro i
    apply Bool.eq_iff_iff.mpr
    rw [hb i, b4]
  have bt : ∀ p q r u i, (2 ^ p ||| (2 ^ q ||| 2 ^ r ||| 2 ^ u)).testBit i = true ↔ i = p ∨ i = q ∨ i = r ∨ i = u := fun p q r u i => by
    rw [Nat.testBit_or, Nat.testBit_or, Nat.testBit_or, Nat.testBit_two_pow, Nat.testBit_two_pow, Nat.testBit_two_pow, Nat.testBit_two_pow]
    simp only [Bool.or_eq_true, decide_eq_true_eq]
    omega
  have bt2 : ∀ p q r u i, (2 ^ p ||| 2 ^ q ||| (2 ^ r ||| 2 ^ u)).testBit i = true ↔ i = p ∨ i = q ∨ i = r ∨ i = u := fun p q r u i => by
    rw [Nat.testBit_or, Nat.testBit_or, Nat.testBit_or, Nat.testBit_two_pow, Nat.testBit_two_pow, Nat.testBit_two_pow, Nat.testBit_two_pow]
    simp only [Bool.or_eq_true, decide_eq_true_eq]
    omega
  have w1 : wiB X Y a b c d = false := nt (fun z => H _ (mt_wi (p := a) (q := d) (r := c) (s := b) (by omega) hd (by omega) (by omega) (by omega) (by omega) (by omega) (by rw [wi_rv]; exact z)) (un _ _ (fun i => (bt _ _ _ _ i).trans (by omega))))
  have w2 : wiB X Y b a c d = false := nt (fun z => H _ (mt_wi (p := b) (q := d) (r := c) (s := a) (by omega) hd (by omega) (by omega) (by omega) (by omega) (by omega) (by rw [wi_rv]; exact z)) (un _ _ (fun i => (bt _ _ _ _ i).trans (by omega))))
  have w3 : wiB X Y c a b d = false := nt (fun z => H _ (mt_wi (p := c) (q := d) (r := b) (s := a) (by omega) hd (by omega) (by omega) (by omega) (by omega) (by omega) (by rw [wi_rv]; exact z)) (un _ _ (fun i => (bt _ _ _ _ i).trans (by omega))))
  have w4 : wiB X Y d a b c = false := nt (fun z => H _ (mt_wi (p := d) (q := c) (r := b) (s := a) (by omega) (by omega) (by omega) (by omega) (by omega) (by omega) (by omega) (by rw [wi_rv]; exact z)) (un _ _ (fun i => (bt _ _ _ _ i).trans (by omega))))
  have w5 : acB X Y a b c d = false := nt (fun z => H _ (mt_ac (p := b) (q := d) (r := c) (s := a) (by omega) hd (by omega) (by omega) (by omega) (by omega) (by omega) z) (un _ _ (fun i => (bt2 _ _ _ _ i).trans (by omega))))
  have w6 : acB X Y a c b d = false := nt (fun z => H _ (mt_ac (p := c) (q := d) (r := b) (s := a) (by omega) hd (by omega) (by omega) (by omega) (by omega) (by omega) z) (un _ _ (fun i => (bt2 _ _ _ _ i).trans (by omega))))
  have w7 : acB X Y a d b c = false := nt (fun z => H _ (mt_ac (p := d) (q := c) (r := b) (s := a) (by omega) (by omega) (by omega) (by omega) (by omega) (by omega) (by omega) z) (un _ _ (fun i => (bt2 _ _ _ _ i).trans (by omega))))
  unfold v4
  rw [w1, w2, w3, w4, w5, w6, w7]
  rfl
theorem R_fourLoop_ok {h0 : pH} (G : GC n g X Y) (M : ML h0 h (mt n X Y)) {s a b c d : Nat} (hs : s < 4096) (Q : Q4 n X Y s a b c d) : lp (fun t => f_R_four_L1 (nI s) h t) lpN 0 = some (v4 X Y s a b c d, h) := by
  have hn := G.1
  have hl := mt_le G
  obtain ⟨l1, l2⟩ := q4_ls hs Q
  have ha : a < 12 := by have := Q.1; omega
  have st : ∀ k, k < (mt n X Y).length → f_R_four_L1 (nI s) h (nI k) = some (if decide (((mt n X Y).getD k (0, 0)).1 ||| ((mt n X Y).getD k (0, 0)).2 = s) then .inr (if ((mt n X Y).getD k (0, 0)).1.testBit a then nI ((mt n X Y).getD k (0, 0)).1 else nI ((mt n X Y).getD k (0, 0)).2, h) else .inl (nI (k + 1))) := by
    intro k hk
    unfold f_R_four_L1
    have e := gD (mt n X Y) (0, 0) hk
    have b := mt_lt hn (List.getElem_mem hk)
    rw [← e] at b
    rw [M.2.1, if_neg (lt_no hk (by omega)), if_neg (gd (by omega) (by omega)), cla (by omega), (M.2.2 k hk).1, (M.2.2 k hk).2, nI_or, nI_1, low_ok hs l2, l1, top_ok a ha]
    simp only [Option.bind_some]
    generalize (mt n X Y).getD k (0, 0) = ab at *
    obtain ⟨x, y⟩ := ab
    have b : x < 4096 ∧ y < 4096 := b
    have o4 : x ||| y < 2 ^ 12 := Nat.or_lt_two_pow b.1 b.2
    rw [has_ok (by omega) (by omega)]
    simp only [nI_eqI (show x ||| y ≤ 100000 by omega) (show s ≤ 100000 by omega)]
    by_cases z : x ||| y = s
    · rw [if_pos z, decide_eq_true z]
      cases x.testBit a <;> rfl
    · rw [if_neg z, decide_eq_false z]
      rfl
  obtain ⟨r, e1, e2⟩ := lp_find (f := fun t => f_R_four_L1 (nI s) h t) (fun k => nI k) (fun k => decide (((mt n X Y).getD k (0, 0)).1 ||| ((mt n X Y).getD k (0, 0)).2 = s)) (mt n X Y).length (fun r => r = (v4 X Y s a b c d, h)) (fun k hk hf => by
    show f_R_four_L1 (nI s) h (nI k) = _
    rw [st k hk, hf]
    rfl) (fun k hk ht _ => ⟨_, by
    show f_R_four_L1 (nI s) h (nI k) = _
    rw [st k hk, ht]
    rfl, by
    have e := gD (mt n X Y) (0, 0) hk
    have m := List.getElem_mem hk
    rw [← e] at m
    have := four_val Q (x := ((mt n X Y).getD k (0, 0)).1) (y := ((mt n X Y).getD k (0, 0)).2) m (by simpa using ht)
    rw [this]⟩) (fun hno => ⟨(-1, h), by
    show f_R_four_L1 (nI s) h (nI (mt n X Y).length) = _
    unfold f_R_four_L1
    rw [M.2.1, if_pos (ge_yes (Nat.le_refl _) (by omega))], by
    rw [four_none Q (fun ab m => ?_)]
    obtain ⟨k, hk, e⟩ := List.mem_iff_getElem.mp m
    have := hno k hk
    rw [decide_eq_false_iff_not, gD _ _ hk, e] at this
    exact this⟩) (by unfold lpN; omega)
  rw [show lp (fun t => f_R_four_L1 (nI s) h t) lpN 0 = some r from e1, e2]
end F2
def p4b (p q r s : Nat) : Bool := !decide (pct (2 ^ p ||| 2 ^ q ||| 2 ^ r ||| 2 ^ s) = 4) || (decide (p ≠ q) && decide (p ≠ r) && decide (p ≠ s) && decide (q ≠ r) && decide (q ≠ s) && decide (r ≠ s))
theorem p4_0 : ∀ i, i < 144 → ∀ j, j < 144 → p4b (i / 12) (i % 12) (j / 12) (j % 12) = true := by decide +kernel
theorem pct4 (p : Nat) (hp : p < 12) (q : Nat) (hq : q < 12) (r : Nat) (hr : r < 12) (s : Nat) (hs : s < 12) (h : pct (2 ^ p ||| 2 ^ q ||| 2 ^ r ||| 2 ^ s) = 4) : p ≠ q ∧ p ≠ r ∧ p ≠ s ∧ q ≠ r ∧ q ≠ s ∧ r ≠ s := by
  have e := p4_0 (12 * p + q) (by omega) (12 * r + s) (by omega)
  rw [show (12 * p + q) / 12 = p by omega, show (12 * p + q) % 12 = q by omega, show (12 * r + s) / 12 = r by omega, show (12 * r + s) % 12 = s by omega] at e
  unfold p4b at e
  rw [h] at e
  simp only [decide_true, Bool.not_true, Bool.false_or, Bool.and_eq_true, decide_eq_true_eq] at e
  obtain ⟨⟨⟨⟨⟨e1, e2⟩, e3⟩, e4⟩, e5⟩, e6⟩ := e
  exact ⟨e1, e2, e3, e4, e5, e6⟩
section F3
variable {KC KD KE : pH → Cfg → Prop}
theorem p3_iff {n : Nat} {X Y : Nat → Int} {p q r s : Nat} (hp : p < n) (hq : q < n) (hr : r < n) (hs : s < n) (d : p ≠ q ∧ p ≠ r ∧ p ≠ s ∧ q ≠ r ∧ q ≠ s ∧ r ≠ s) : P3 n X Y (2 ^ p ||| 2 ^ q ||| 2 ^ r ||| 2 ^ s) ↔ T3 X Y p q r = 0 ∨ T3 X Y p q s = 0 ∨ T3 X Y p r s = 0 ∨ T3 X Y q r s = 0 := by
  obtain ⟨d1, d2, d3, d4, d5, d6⟩ := d
  have B := fun i => b4 (a := p) (b := q) (c := r) (d := s) i
  constructor
  · rintro ⟨i, j, k, hi, hj, hk, nij, nik, njk, bi, bj, bk, t⟩
    have bi := (B i).mp bi
    have bj := (B j).mp bj
    have bk := (B k).mp bk
    obtain ⟨p1, p2, p3, p4, p5⟩ := T3_p (X := X) (Y := Y) p q r
    obtain ⟨q1, q2, q3, q4, q5⟩ := T3_p (X := X) (Y := Y) p q s
    obtain ⟨r1, r2, r3, r4, r5⟩ := T3_p (X := X) (Y := Y) p r s
    obtain ⟨s1, s2, s3, s4, s5⟩ := T3_p (X := X) (Y := Y) q r s
    clear B
    rcases bi with rfl | rfl | rfl | rfl <;> rcases bj with rfl | rfl | rfl | rfl <;> first | exact absurd rfl nij | (rcases bk with rfl | rfl | rfl | rfl <;> first | exact absurd rfl nik | exact absurd rfl njk | omega)
  · rintro (t | t | t | t)
    · exact ⟨p, q, r, hp, hq, hr, d1, d2, d4, (B p).mpr (by omega), (B q).mpr (by omega), (B r).mpr (by omega), t⟩
    · exact ⟨p, q, s, hp, hq, hs, d1, d3, d5, (B p).mpr (by omega), (B q).mpr (by omega), (B s).mpr (by omega), t⟩
    · exact ⟨p, r, s, hp, hr, hs, d2, d3, d6, (B p).mpr (by omega), (B r).mpr (by omega), (B s).mpr (by omega), t⟩
    · exact ⟨q, r, s, hq, hr, hs, d4, d5, d6, (B q).mpr (by omega), (B r).mpr (by omega), (B s).mpr (by omega), t⟩
theorem part_3 {n g o : Nat} {X Y : Nat → Int} {h : pH} (C : CC h o n g X Y) (G : GC n g X Y) {s : Nat} (hs : s < 4096) (h3 : P3 n X Y s) : f_Shapes_partWithLeast o (nI s) h = some (-2) := by
  obtain ⟨w, e1, e2⟩ := three_ok C G hs
  have hw : w = true := e2.mpr h3
  subst hw
  unfold f_Shapes_partWithLeast
  rw [e1]
  rfl
theorem sp_four (hKC : Kst KC) (hKD : Kst KD) (hKE : Kst KE) : Sp_four (JJ KC KD KE) := by
  intro k h _ H a0 a1 a2 a3
  have J0 := H.mono hKC hKD hKE
  obtain ⟨c, und, P, S, len, B, pl, gs, vc, vr⟩ := H
  have G := gs.1
  have C := vc.cc
  have R := vr.1
  have hn : c.1 ≤ 12 := G.1
  unfold f_C_four f_R_four
  simp only [has_in C hn, isPoint_ok R hn]
  by_cases h0 : 0 ≤ a0.toInt ∧ a0.toInt < c.1
  rotate_left
  · simp only [if_neg h0]
    exact ⟨-1, h, rfl, rfl, J0⟩
  by_cases h1 : 0 ≤ a1.toInt ∧ a1.toInt < c.1
  rotate_left
  · simp only [if_pos h0, if_neg h1]
    exact ⟨-1, h, rfl, rfl, J0⟩
  by_cases h2 : 0 ≤ a2.toInt ∧ a2.toInt < c.1
  rotate_left
  · simp only [if_pos h0, if_pos h1, if_neg h2]
    exact ⟨-1, h, rfl, rfl, J0⟩
  by_cases h3 : 0 ≤ a3.toInt ∧ a3.toInt < c.1
  rotate_left
  · simp only [if_pos h0, if_pos h1, if_pos h2, if_neg h3]
    exact ⟨-1, h, rfl, rfl, J0⟩
  simp only [if_pos h0, if_pos h1, if_pos h2, if_pos h3]
  have n1 : ¬ ((1 : Int32) = 0) := by decide
  simp only [if_neg n1]
  obtain ⟨p, hp, rfl⟩ := pt_nat h0.1 h0.2
  obtain ⟨q, hq, rfl⟩ := pt_nat h1.1 h1.2
  obtain ⟨r, hr, rfl⟩ := pt_nat h2.1 h2.2
  obtain ⟨s, hs, rfl⟩ := pt_nat h3.1 h3.2
  have l4 : 2 ^ p ||| 2 ^ q ||| 2 ^ r ||| 2 ^ s < 4096 := Nat.or_lt_two_pow (n := 12) (three_lt hn hp hq hr) (two_lt hs hn)
  rw [jshl_ok p (by omega), jshl_ok q (by omega), jshl_ok r (by omega), jshl_ok s (by omega), nI_or, nI_or, nI_or, bitCount_ok l4, bitsOf_ok l4]
  simp only [Option.bind_some]
  have le := pct_le (2 ^ p ||| 2 ^ q ||| 2 ^ r ||| 2 ^ s)
  have c4 : nI (pct (2 ^ p ||| 2 ^ q ||| 2 ^ r ||| 2 ^ s)) = 4 ↔ pct (2 ^ p ||| 2 ^ q ||| 2 ^ r ||| 2 ^ s) = 4 := nI_eqI (b := 4) (by omega) (by omega)
  simp only [c4]
  by_cases z : pct (2 ^ p ||| 2 ^ q ||| 2 ^ r ||| 2 ^ s) = 4
  rotate_left
  · rw [if_neg z, if_neg z]
    exact ⟨-1, h, rfl, rfl, J0⟩
  rw [if_pos z, if_pos z]
  have d := pct4 p (by omega) q (by omega) r (by omega) s (by omega) z
  have pi := p3_iff (X := c.2.2.1) (Y := c.2.2.2) hp hq hr hs d
  rw [R_sideOf_ok R G hp hq hr, R_sideOf_ok R G hp hq hs, R_sideOf_ok R G hp hr hs, R_sideOf_ok R G hq hr hs]
  simp only [Option.bind_some, e0 (sg_in _), sgn_0]
  by_cases w : P3 c.1 c.2.2.1 c.2.2.2 (2 ^ p ||| 2 ^ q ||| 2 ^ r ||| 2 ^ s)
  · rw [part_3 C G l4 w]
    refine ⟨-2, h, rfl, ?_, J0⟩
    have w' := pi.mp w
    by_cases t1 : T3 c.2.2.1 c.2.2.2 p q r = 0
    · rw [if_pos t1]
    by_cases t2 : T3 c.2.2.1 c.2.2.2 p q s = 0
    · rw [if_neg t1, if_pos t2]
    by_cases t3 : T3 c.2.2.1 c.2.2.2 p r s = 0
    · rw [if_neg t1, if_neg t2, if_pos t3]
    rw [if_neg t1, if_neg t2, if_neg t3, if_pos (by omega)]
  · have w' := fun x => w (pi.mpr x)
    rw [if_neg (fun x => w' (Or.inl x)), if_neg (fun x => w' (Or.inr (Or.inl x))), if_neg (fun x => w' (Or.inr (Or.inr (Or.inl x)))), if_neg (fun x => w' (Or.inr (Or.inr (Or.inr x))))]
    obtain ⟨a, b, c', d', l1, l2, l3, l5, eS⟩ := four_srt l4 z
    have dn : d' < c.1 := by
      have bd : (2 ^ p ||| 2 ^ q ||| 2 ^ r ||| 2 ^ s).testBit d' = true := by rw [eS]; exact (b4 d').mpr (by omega)
      have := (b4 d').mp bd
      omega
    have Q : Q4 c.1 c.2.2.1 c.2.2.2 (2 ^ p ||| 2 ^ q ||| 2 ^ r ||| 2 ^ s) a b c' d' := by
      have pj := p3_iff (X := c.2.2.1) (Y := c.2.2.2) (p := a) (q := b) (r := c') (s := d') (by omega) (by omega) (by omega) dn (by omega)
      rw [← eS] at pj
      have w2 := fun x => w (pj.mpr x)
      exact ⟨⟨l1, l2, l3, dn⟩, eS, fun x => w2 (Or.inl x), fun x => w2 (Or.inr (Or.inl x)), fun x => w2 (Or.inr (Or.inr (Or.inl x))), fun x => w2 (Or.inr (Or.inr (Or.inr x)))⟩
    obtain ⟨h2, d1, d2⟩ := laysMeetings_ok R G
    rw [part_ok C G l4 Q w, d1]
    refine ⟨_, h2, rfl, R_fourLoop_ok G d2 l4 Q, c, und, P, S, len, B, pl, gs, vc.fp hKC hKD hKE (by omega) d2.1 sm79_c, vr.fp gs d2.1 sm79_r⟩
end F3
