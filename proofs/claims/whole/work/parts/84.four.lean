/-! four points -/
def s2 (s : Nat) : Nat := mns s (2 ^ lsB s)
theorem four_0 : ∀ a, a < 64 → ∀ b, b < 64 → pct (64 * a + b) = 4 → lsB (64 * a + b) < lsB (s2 (64 * a + b)) ∧ lsB (s2 (64 * a + b)) < lsB (s2 (s2 (64 * a + b))) ∧ lsB (s2 (s2 (64 * a + b))) < lsB (s2 (s2 (s2 (64 * a + b)))) ∧ lsB (s2 (s2 (s2 (64 * a + b)))) < 12 ∧ 64 * a + b = 2 ^ lsB (64 * a + b) ||| 2 ^ lsB (s2 (64 * a + b)) ||| 2 ^ lsB (s2 (s2 (64 * a + b))) ||| 2 ^ lsB (s2 (s2 (s2 (64 * a + b)))) := by decide +kernel
theorem four_srt {s : Nat} (hs : s < 4096) (h : pct s = 4) : ∃ a b c d, a < b ∧ b < c ∧ c < d ∧ d < 12 ∧ s = 2 ^ a ||| 2 ^ b ||| 2 ^ c ||| 2 ^ d := by
  have := four_0 (s / 64) (by omega) (s % 64) (by omega)
  rw [show 64 * (s / 64) + s % 64 = s by omega] at this
  obtain ⟨h1, h2, h3, h4, h5⟩ := this h
  exact ⟨_, _, _, _, h1, h2, h3, h4, h5⟩
theorem low_0 : ∀ a, a < 64 → ∀ b, b < 64 → 64 * a + b ≠ 0 → nI (64 * a + b) &&& (-nI (64 * a + b)) = nI (2 ^ lsB (64 * a + b)) := by decide +kernel
theorem low_ok {s : Nat} (hs : s < 4096) (h0 : s ≠ 0) : nI s &&& (-nI s) = nI (2 ^ lsB s) := by
  have := low_0 (s / 64) (by omega) (s % 64) (by omega)
  rw [show 64 * (s / 64) + s % 64 = s by omega] at this
  exact this h0
theorem top_ok : ∀ a, a < 12 → f_R_topmost (nI (2 ^ a)) = some (nI a) := by
  intro a ha
  unfold f_R_topmost
  have h2 : 2 ^ a < 2 ^ 12 := Nat.pow_lt_pow_right (by decide) ha
  refine lp_run (f := fun s => f_R_topmost_L1 (nI (2 ^ a)) s) (fun k => nI k) a (fun k hk => ?_) ?_ (n := lpN) (by unfold lpN; omega)
  · show f_R_topmost_L1 (nI (2 ^ a)) (nI k) = _
    unfold f_R_topmost_L1
    have e : 2 ^ a / 2 ^ k = 2 ^ (a - k) := Nat.pow_div (by omega) (by decide)
    have l : 2 ^ 1 ≤ 2 ^ (a - k) := Nat.pow_le_pow_right (by decide) (by omega)
    have u : 2 ^ (a - k) ≤ 2 ^ a := Nat.pow_le_pow_right (by decide) (by omega)
    rw [jshr_ok (by omega) (by omega), e, if_neg (show ¬ nI (2 ^ (a - k)) ≤ 1 from nI_ge (a := 1) (b := 2 ^ (a - k)) (by omega) (by omega)), nI_1]
  · show f_R_topmost_L1 (nI (2 ^ a)) (nI a) = _
    unfold f_R_topmost_L1
    rw [jshr_ok (by omega) (by omega), Nat.div_self (Nat.two_pow_pos a)]
    rfl
theorem b4 {a b c d : Nat} (i : Nat) : (2 ^ a ||| 2 ^ b ||| 2 ^ c ||| 2 ^ d).testBit i = true ↔ i = a ∨ i = b ∨ i = c ∨ i = d := by
  rw [Nat.testBit_or, Nat.testBit_or, Nat.testBit_or, Nat.testBit_two_pow, Nat.testBit_two_pow, Nat.testBit_two_pow, Nat.testBit_two_pow]
  simp only [Bool.or_eq_true, decide_eq_true_eq]
  omega
section FO
variable {n g : Nat} {X Y : Nat → Int} {h : pH} {o : Nat}
/-- three of a set on one line -/
def P3 (n : Nat) (X Y : Nat → Int) (s : Nat) : Prop := ∃ i j k, i < n ∧ j < n ∧ k < n ∧ i ≠ j ∧ i ≠ k ∧ j ≠ k ∧ s.testBit i = true ∧ s.testBit j = true ∧ s.testBit k = true ∧ T3 X Y i j k = 0
def tlb (n : Nat) (X Y : Nat → Int) (s q r : Nat) : Bool := s.testBit q && s.testBit r && decide (sdS n X Y q r 0 &&& s ≠ 0)
theorem three_ok (C : CC h o n g X Y) (G : GC n g X Y) {s : Nat} (hs : s < 4096) : ∃ b : Bool, f_Shapes_hasThreeOnOneLine o (nI s) h = some (if b then 1 else 0) ∧ (b = true ↔ P3 n X Y s) := by
  have hn := G.1
  unfold f_Shapes_hasThreeOnOneLine
  refine ⟨ex (fun q => ex (fun i => tlb n X Y s q (q + 1 + i)) (n - (q + 1))) n, ?_, ?_⟩
  · exact lp_any2up (f1 := fun t => f_Shapes_hasThreeOnOneLine_L1 o (nI s) h t) (f2 := fun q t => f_Shapes_hasThreeOnOneLine_L2 o (nI s) (nI q) h t) n hn (tlb n X Y s) (r1 := 1) (r0 := 0) (by
      intro q r hqr hr
      show f_Shapes_hasThreeOnOneLine_L2 o (nI s) (nI q) h (nI r) = _
      unfold f_Shapes_hasThreeOnOneLine_L2 tlb
      have hq : q < n := by omega
      have a0 := sideBits_ok C G hq hr (sd := 0) (by omega)
      have a0 : f_Cloud_sideBits o (nI q) (nI r) 0 h = some (nI (sdS n X Y q r 0)) := a0
      have l4 : sdS n X Y q r 0 &&& s < 4096 := and_lt4 hs
      rw [C.1, if_neg (lt_no hr (by omega)), bit_ok (by omega) (by omega), bit_ok (by omega) (by omega), a0, nI_1]
      simp only [Option.bind_some]
      rw [nI_and]
      simp only [nI_z l4]
      cases s.testBit q
      · simp
      cases s.testBit r
      · simp
      by_cases z : sdS n X Y q r 0 &&& s = 0
      · simp [z]
      · simp [z]) (by
      intro q hq
      show f_Shapes_hasThreeOnOneLine_L2 o (nI s) (nI q) h (nI n) = _
      unfold f_Shapes_hasThreeOnOneLine_L2
      rw [C.1, if_pos (ge_yes (Nat.le_refl _) (by omega)), nI_1]) (by
      intro q hq
      show f_Shapes_hasThreeOnOneLine_L1 o (nI s) h (nI q) = _
      unfold f_Shapes_hasThreeOnOneLine_L1
      rw [C.1, if_neg (lt_no hq (by omega)), nI_1]) (by
      show f_Shapes_hasThreeOnOneLine_L1 o (nI s) h (nI n) = _
      unfold f_Shapes_hasThreeOnOneLine_L1
      rw [C.1, if_pos (ge_yes (Nat.le_refl _) (by omega))])
  · rw [ex_iff]
    constructor
    · rintro ⟨q, hq, e⟩
      obtain ⟨i, hi, e⟩ := ex_iff.mp e
      unfold tlb at e
      simp only [Bool.and_eq_true, decide_eq_true_eq] at e
      obtain ⟨⟨e1, e2⟩, e3⟩ := e
      by_cases z : ∃ k, k < n ∧ (sdS n X Y q (q + 1 + i) 0).testBit k = true ∧ s.testBit k = true
      · obtain ⟨k, hk, z1, z2⟩ := z
        unfold sdS at z1
        rw [bs_bit, decide_eq_true hk, Bool.true_and] at z1
        unfold sdP at z1
        rw [decide_eq_true_iff, sgn_0] at z1
        exact ⟨q, q + 1 + i, k, hq, by omega, hk, by omega, fun e => z1.1 e.symm, fun e => z1.2.1 e.symm, e1, e2, z2, z1.2.2⟩
      · exact absurd ((and_0 (sdS_lt q (q + 1 + i) 0)).mpr (fun k hk hb => by
          cases y : s.testBit k with
          | false => rfl
          | true => exact absurd ⟨k, hk, hb, y⟩ z)) e3
    · rintro ⟨i, j, k, hi, hj, hk, nij, nik, njk, bi, bj, bk, t⟩
      have mk : ∀ q r, q < r → r < n → s.testBit q = true → s.testBit r = true → k ≠ q → k ≠ r → T3 X Y q r k = 0 → ∃ k_1, k_1 < n ∧ ex (fun i => tlb n X Y s k_1 (k_1 + 1 + i)) (n - (k_1 + 1)) = true := by
        intro q r hqr hr bq br n1 n2 tt
        refine ⟨q, by omega, ex_iff.mpr ⟨r - (q + 1), by omega, ?_⟩⟩
        rw [show q + 1 + (r - (q + 1)) = r by omega]
        unfold tlb
        simp only [Bool.and_eq_true, decide_eq_true_eq]
        refine ⟨⟨bq, br⟩, fun z => ?_⟩
        have := (and_0 (sdS_lt q r 0)).mp z k hk (by
          unfold sdS
          rw [bs_bit, decide_eq_true hk, Bool.true_and]
          unfold sdP
          rw [decide_eq_true_iff, sgn_0]
          exact ⟨n1, n2, tt⟩)
        rw [bk] at this
        exact absurd this (by decide)
      rcases Nat.lt_or_gt_of_ne nij with l | l
      · exact mk i j l hj bi bj (fun e => nik e.symm) (fun e => njk e.symm) t
      · exact mk j i l hi bj bi (fun e => njk e.symm) (fun e => nik e.symm) (by
          have := (T3_p (X := X) (Y := Y) i j k).2.2.2.1
          omega)
/-- the point within the three others -/
theorem inner_in (C : CC h o n g X Y) (G : GC n g X Y) {s p q r t : Nat} (hs : s < 4096) (hb : ∀ i, s.testBit i = true ↔ i = p ∨ i = q ∨ i = r ∨ i = t) (h1 : q < r) (h2 : r < t) (ht : t < n) (hp : p < n) (n1 : p ≠ q) (n2 : p ≠ r) (n3 : p ≠ t) (z0 : T3 X Y q r t ≠ 0) (z1 : T3 X Y q r p ≠ 0) (z2 : T3 X Y r t p ≠ 0) (z3 : T3 X Y t q p ≠ 0) : f_Shapes_covers o (nI s &&& (jshl 1 (nI p) ^^^ (-1))) (iI (X p)) (iI (Y p)) h = some (if wiB X Y p q r t then 1 else 0) := by
  have hn := G.1
  have b1 := G.2.2.1 p hp
  have l4 : mns s (2 ^ p) < 4096 := mns_lt (n := 12) _ hs
  rw [jshl_ok p (by omega), andn_ok, covers_ok C G l4 (fun i => ?_) h1 h2 ht (by omega) (by omega), cv_ins z0]
  · congr 2
    unfold insB wiB
    rw [decide_eq_true_iff, decide_eq_true_iff]
    have := TR_sum (X := X) (Y := Y) q r t (X p) (Y p)
    show _ = _
    rw [eq_iff_iff]
    have e1 : TR X Y q r (X p) (Y p) = T3 X Y q r p := rfl
    have e2 : TR X Y r t (X p) (Y p) = T3 X Y r t p := rfl
    have e3 : TR X Y t q (X p) (Y p) = T3 X Y t q p := rfl
    rw [e1, e2, e3] at this ⊢
    omega
  · rw [mns_bit, Nat.testBit_two_pow]
    have := hb i
    by_cases c : i = p
    · subst c
      rw [show decide (i = i) = true by simp, Bool.not_true, Bool.and_false]
      symm
      simp
      omega
    · rw [show decide (p = i) = false by simp; omega, Bool.not_false, Bool.and_true]
      apply Bool.eq_iff_iff.mpr
      rw [this]
      simp only [Bool.or_eq_true, decide_eq_true_eq]
      omega
theorem two_out {t r s : Nat} (ht : t < 4096) (hr : r < 12) (hb : ∀ i, t.testBit i = true ↔ i = r ∨ i = s) (h1 : r < s) : f_Shapes_leastOf (nI t) = nI r ∧ f_Shapes_leastOf (nI t &&& (jshl 1 (nI r) ^^^ (-1))) = nI s := by
  have br : t.testBit r = true := (hb r).mpr (Or.inl rfl)
  have fl : ∀ i, ¬ (i = r ∨ i = s) → t.testBit i = false := fun i hi => by
    cases q : t.testBit i with
    | false => rfl
    | true => exact absurd ((hb i).mp q) hi
  have e1 : lsB t = r := lsB_eq ht br (fun i hi => fl i (by omega))
  have l2 : mns t (2 ^ r) < 4096 := mns_lt (n := 12) _ ht
  have bs : (mns t (2 ^ r)).testBit s = true := by
    rw [mns_bit, (hb s).mpr (Or.inr rfl), Nat.testBit_two_pow]
    simp
    omega
  have e2 : lsB (mns t (2 ^ r)) = s := lsB_eq l2 bs (fun i hi => by
    rw [mns_bit, Nat.testBit_two_pow]
    by_cases c : i = r
    · subst c; simp
    · rw [fl i (by omega)]; rfl)
  rw [jshl_ok r (by omega), andn_ok, least_ok ht (bit_ne br), least_ok l2 (bit_ne bs), e1, e2]
  exact ⟨rfl, rfl⟩
theorem has_1 (C : CC h o n g X Y) (hn : n ≤ 12) {i : Nat} (hi : i < n) : ¬ f_Cloud_has o (nI i) h = 0 := by
  rw [has_in C hn, if_pos (by rw [nI_iI, iI_toInt (by unfold InR; omega)]; omega)]
  decide
theorem meet_ok (C : CC h o n g X Y) (G : GC n g X Y) {p q r s t : Nat} (hp : p < n) (hq : q < n) (ht : t < 4096) (hb : ∀ i, t.testBit i = true ↔ i = r ∨ i = s) (h1 : r < s) (hs : s < n) : f_Shapes_meet o (nI p) (nI q) (nI t) h = some (if acB X Y p q r s then 1 else 0) := by
  have hn := G.1
  have hr : r < n := by omega
  obtain ⟨e1, e2⟩ := two_out ht (by omega) hb h1
  unfold f_Shapes_meet acB
  rw [e1, e2, if_neg (has_1 C hn hp), if_neg (has_1 C hn hq), if_neg (has_1 C hn hr), if_neg (has_1 C hn hs), turnOf_ok C hn hp hq hr, turnOf_ok C hn hp hq hs, turnOf_ok C hn hr hs hp, turnOf_ok C hn hr hs hq]
  simp only [Option.bind_some]
  rw [signOf_ok (InR_100 (T3_in G hp hq hr)), signOf_ok (InR_100 (T3_in G hp hq hs)), signOf_ok (InR_100 (T3_in G hr hs hp)), signOf_ok (InR_100 (T3_in G hr hs hq))]
  simp only [sg_mul]
  by_cases c1 : (0 < T3 X Y p q r ∧ T3 X Y p q s < 0) ∨ (T3 X Y p q r < 0 ∧ 0 < T3 X Y p q s)
  · rw [if_neg (fun x => x c1)]
    by_cases c2 : (0 < T3 X Y r s p ∧ T3 X Y r s q < 0) ∨ (T3 X Y r s p < 0 ∧ 0 < T3 X Y r s q)
    · rw [if_neg (fun x => x c2), if_pos (by simp [c1, c2])]
    · rw [if_pos c2, if_neg (by simp [c2])]
  · rw [if_pos c1, if_neg (by simp [c1])]
/-- the four of a set, in their order, no three on one line -/
def Q4 (n : Nat) (X Y : Nat → Int) (s a b c d : Nat) : Prop := (a < b ∧ b < c ∧ c < d ∧ d < n) ∧ s = 2 ^ a ||| 2 ^ b ||| 2 ^ c ||| 2 ^ d ∧ (T3 X Y a b c ≠ 0 ∧ T3 X Y a b d ≠ 0 ∧ T3 X Y a c d ≠ 0 ∧ T3 X Y b c d ≠ 0)
def inC (X Y : Nat → Int) (a b c d p : Nat) : Bool := (decide (p = a) && wiB X Y a b c d) || (decide (p = b) && wiB X Y b a c d) || (decide (p = c) && wiB X Y c a b d) || (decide (p = d) && wiB X Y d a b c)
def inV (X Y : Nat → Int) (a b c d : Nat) : Int32 := if wiB X Y a b c d then nI a else if wiB X Y b a c d then nI b else if wiB X Y c a b d then nI c else if wiB X Y d a b c then nI d else -1
theorem innerOf_ok (C : CC h o n g X Y) (G : GC n g X Y) {s a b c d : Nat} (hs : s < 4096) (Q : Q4 n X Y s a b c d) : f_Shapes_innerOf o (nI s) h = some (inV X Y a b c d) := by
  have hn := G.1
  obtain ⟨⟨hab, hbc, hcd, hd⟩, rfl, z1, z2, z3, z4⟩ := Q
  have p1 := T3_p (X := X) (Y := Y) a b c
  have p2 := T3_p (X := X) (Y := Y) a b d
  have p3 := T3_p (X := X) (Y := Y) a c d
  have p4 := T3_p (X := X) (Y := Y) b c d
  have st : ∀ p, p < n → f_Shapes_innerOf_L1 o (nI (2 ^ a ||| 2 ^ b ||| 2 ^ c ||| 2 ^ d)) h (nI p) = some (if inC X Y a b c d p then .inr (nI p) else .inl (nI (p + 1))) := by
    intro p hp
    unfold f_Shapes_innerOf_L1
    rw [C.1, if_neg (lt_no hp (by omega)), bit_ok (by omega) (by omega), if_neg (gd (by omega) (by omega)), cla (by omega), (C.2.2 p hp).1, (C.2.2 p hp).2, nI_1]
    have fin : ∀ w : Bool, inC X Y a b c d p = w → (2 ^ a ||| 2 ^ b ||| 2 ^ c ||| 2 ^ d).testBit p = true → f_Shapes_covers o (nI (2 ^ a ||| 2 ^ b ||| 2 ^ c ||| 2 ^ d) &&& (jshl 1 (nI p) ^^^ (-1))) (iI (X p)) (iI (Y p)) h = some (if w then 1 else 0) → (if (if (2 ^ a ||| 2 ^ b ||| 2 ^ c ||| 2 ^ d).testBit p = true then (1 : Int32) else 0) = 1 then (f_Shapes_covers o (nI (2 ^ a ||| 2 ^ b ||| 2 ^ c ||| 2 ^ d) &&& (jshl 1 (nI p) ^^^ (-1))) (iI (X p)) (iI (Y p)) h).bind fun v_4 => if v_4 = 0 then some (Sum.inl (nI (p + 1))) else some (Sum.inr (nI p)) else some (Sum.inl (nI (p + 1)))) = some (if inC X Y a b c d p then Sum.inr (nI p) else Sum.inl (nI (p + 1))) := by
      intro w e1 e2 e3
      rw [e1, e2, e3, if_pos (by rfl)]
      cases w <;> rfl
    by_cases y1 : p = a
    · subst y1
      refine fin (wiB X Y p b c d) ?_ ((b4 p).mpr (by omega)) (inner_in C G hs (fun i => b4 i) hbc hcd hd hp (by omega) (by omega) (by omega) z4 (by omega) (by omega) (by omega))
      unfold inC
      rw [show decide (p = b) = false by simp; omega, show decide (p = c) = false by simp; omega, show decide (p = d) = false by simp; omega]
      simp
    by_cases y2 : p = b
    · subst y2
      refine fin (wiB X Y p a c d) ?_ ((b4 p).mpr (by omega)) (inner_in C G hs (fun i => (b4 i).trans (by omega)) (by omega) hcd hd hp (by omega) (by omega) (by omega) z3 (by omega) (by omega) (by omega))
      unfold inC
      rw [show decide (p = a) = false by simp; omega, show decide (p = c) = false by simp; omega, show decide (p = d) = false by simp; omega]
      simp
    by_cases y3 : p = c
    · subst y3
      refine fin (wiB X Y p a b d) ?_ ((b4 p).mpr (by omega)) (inner_in C G hs (fun i => (b4 i).trans (by omega)) hab (by omega) hd hp (by omega) (by omega) (by omega) z2 (by omega) (by omega) (by omega))
      unfold inC
      rw [show decide (p = a) = false by simp; omega, show decide (p = b) = false by simp; omega, show decide (p = d) = false by simp; omega]
      simp
    by_cases y4 : p = d
    · subst y4
      refine fin (wiB X Y p a b c) ?_ ((b4 p).mpr (by omega)) (inner_in C G hs (fun i => (b4 i).trans (by omega)) hab hbc (by omega) hp (by omega) (by omega) (by omega) z1 (by omega) (by omega) (by omega))
      unfold inC
      rw [show decide (p = a) = false by simp; omega, show decide (p = b) = false by simp; omega, show decide (p = c) = false by simp; omega]
      simp
    have nb : (2 ^ a ||| 2 ^ b ||| 2 ^ c ||| 2 ^ d).testBit p = false := by
      cases q : (2 ^ a ||| 2 ^ b ||| 2 ^ c ||| 2 ^ d).testBit p with
      | false => rfl
      | true => have := (b4 p).mp q; omega
    rw [nb]
    unfold inC
    simp [y1, y2, y3, y4]
  unfold f_Shapes_innerOf
  obtain ⟨r, e1, e2⟩ := lp_find (f := fun t => f_Shapes_innerOf_L1 o (nI (2 ^ a ||| 2 ^ b ||| 2 ^ c ||| 2 ^ d)) h t) (fun k => nI k) (inC X Y a b c d) n (fun r => r = inV X Y a b c d) (fun p hp hf => by
    show f_Shapes_innerOf_L1 o _ h (nI p) = _
    rw [st p hp, hf]
    rfl) (fun p hp ht hbef => ⟨nI p, by
    show f_Shapes_innerOf_L1 o _ h (nI p) = _
    rw [st p hp, ht]
    rfl, by
    have ba := fun (l : a < p) => hbef a l
    have bb := fun (l : b < p) => hbef b l
    have bc := fun (l : c < p) => hbef c l
    unfold inC at ht ba bb bc
    simp only [Bool.or_eq_true, Bool.and_eq_true, decide_eq_true_eq, Bool.or_eq_false_iff, Bool.and_eq_false_iff, decide_eq_false_iff_not, decide_true, Bool.true_and, true_and, not_true_eq_false, false_or] at ht ba bb bc
    unfold inV
    rcases ht with ((⟨rfl, w⟩ | ⟨rfl, w⟩) | ⟨rfl, w⟩) | ⟨rfl, w⟩
    · rw [w]; rfl
    · rw [(ba (by omega)).1.1.1, w]; rfl
    · rw [(ba (by omega)).1.1.1, (bb (by omega)).1.1.2, w]; rfl
    · rw [(ba (by omega)).1.1.1, (bb (by omega)).1.1.2, (bc (by omega)).1.2, w]; rfl⟩) (fun hno => ⟨-1, by
    show f_Shapes_innerOf_L1 o _ h (nI n) = _
    unfold f_Shapes_innerOf_L1
    rw [C.1, if_pos (ge_yes (Nat.le_refl _) (by omega))], by
    have ba := hno a (by omega)
    have bb := hno b (by omega)
    have bc := hno c (by omega)
    have bd := hno d (by omega)
    unfold inC at ba bb bc bd
    simp only [Bool.or_eq_false_iff, Bool.and_eq_false_iff, decide_eq_false_iff_not, decide_true, Bool.true_and, not_true_eq_false, false_or] at ba bb bc bd
    unfold inV
    rw [ba.1.1.1, bb.1.1.2, bc.1.2, bd.2]
    rfl⟩) (by unfold lpN; omega)
  rw [show lp (fun t => f_Shapes_innerOf_L1 o (nI (2 ^ a ||| 2 ^ b ||| 2 ^ c ||| 2 ^ d)) h t) lpN 0 = some r from e1, e2]
end FO
