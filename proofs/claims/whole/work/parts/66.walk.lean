/-! the corners in their order -/
theorem line3 {u1 u2 v1 v2 : Int} (hc : u1 * v2 = u2 * v1) (h1 : 0 ≤ u1 * v1 + u2 * v2) (h2 : 0 ≤ (u1 * u1 + u2 * u2) - (u1 * v1 + u2 * v2)) (h3 : 0 ≤ (v1 * v1 + v2 * v2) - (u1 * v1 + u2 * v2)) (hU : 0 < u1 * u1 + u2 * u2) (hV : 0 < v1 * v1 + v2 * v2) (hW : 0 < (u1 * u1 + u2 * u2) + (v1 * v1 + v2 * v2) - 2 * (u1 * v1 + u2 * v2)) : False := by
  have ed : (u1 * v1 + u2 * v2) * (u1 * v1 + u2 * v2) = (u1 * u1 + u2 * u2) * (v1 * v1 + v2 * v2) := by grind
  generalize u1 * v1 + u2 * v2 = d at *
  generalize u1 * u1 + u2 * u2 = U at *
  generalize v1 * v1 + v2 * v2 = V at *
  have i1 : (U - d) * V + d * (V - d) = 0 := by grind
  have p1 : 0 ≤ (U - d) * V := Int.mul_nonneg (by omega) (by omega)
  have p2 : 0 ≤ d * (V - d) := Int.mul_nonneg (by omega) (by omega)
  have hUV : 0 < U * V := Int.mul_pos hU hV
  have hd : 0 < d := by
    by_cases q : d = 0
    · subst q; simp at ed; omega
    · omega
  have q1 : U = d := by
    by_cases q : 0 < U - d
    · have := Int.mul_pos q hV; omega
    · omega
  have q2 : V = d := by
    by_cases q : 0 < V - d
    · have := Int.mul_pos hd q; omega
    · omega
  omega
section WK
variable {n g : Nat} {X Y : Nat → Int} {h : pH} {o : Nat}
def oI : Option Nat → Int32
  | none => -1
  | some p => nI p
/-- the lowest so far -/
def lw (X Y : Nat → Int) (t : Nat) : Nat → Option Nat
  | 0 => none
  | k + 1 => if t.testBit k then (match lw X Y t k with
    | none => some k
    | some p => if Y k < Y p ∨ (Y k = Y p ∧ X k < X p) then some k else some p) else lw X Y t k
theorem lw_lt {t : Nat} : ∀ k p, lw X Y t k = some p → p < k ∧ t.testBit p = true := by
  intro k
  induction k with
  | zero => intro p e; exact absurd e (by unfold lw; simp)
  | succ k ih =>
    intro p e
    unfold lw at e
    cases hb : t.testBit k with
    | false =>
      rw [hb] at e
      have := ih p (by simpa using e)
      exact ⟨by omega, this.2⟩
    | true =>
      rw [hb, if_pos rfl] at e
      cases hq : lw X Y t k with
      | none =>
        rw [hq] at e
        cases e
        exact ⟨by omega, hb⟩
      | some q =>
        rw [hq] at e
        have e : (if Y k < Y q ∨ (Y k = Y q ∧ X k < X q) then some k else some q) = some p := e
        by_cases c : Y k < Y q ∨ (Y k = Y q ∧ X k < X q)
        · rw [if_pos c] at e
          cases e
          exact ⟨by omega, hb⟩
        · rw [if_neg c] at e
          have e : q = p := Option.some.inj e
          subst e
          have := ih q hq
          exact ⟨by omega, this.2⟩
theorem lw_some {t i : Nat} (hb : t.testBit i = true) : ∀ k, i < k → ∃ p, lw X Y t k = some p := by
  intro k
  induction k with
  | zero => intro hi; omega
  | succ k ih =>
    intro hi
    unfold lw
    by_cases e : i = k
    · subst e
      rw [if_pos hb]
      cases lw X Y t i with
      | none => exact ⟨_, rfl⟩
      | some q =>
        show ∃ p, (if Y i < Y q ∨ (Y i = Y q ∧ X i < X q) then some i else some q) = some p
        split <;> exact ⟨_, rfl⟩
    · obtain ⟨p, hp⟩ := ih (by omega)
      rw [hp]
      cases t.testBit k with
      | false => exact ⟨p, rfl⟩
      | true =>
        show ∃ p', (if Y k < Y p ∨ (Y k = Y p ∧ X k < X p) then some k else some p) = some p'
        split <;> exact ⟨_, rfl⟩
theorem m1_ne {p : Nat} (hp : p ≤ 100000) : ¬ nI p = -1 := by
  rw [nI_iI, show (-1 : Int32) = iI (-1) from rfl, iI_eq (by unfold InR; omega) (by unfold InR; omega)]
  omega
theorem lowestOf_ok (C : CC h o n g X Y) (G : GC n g X Y) {t : Nat} (ht : t < 4096) : f_Hulls_lowestOf o (nI t) h = some (oI (lw X Y t n)) := by
  have hn := G.1
  unfold f_Hulls_lowestOf
  refine lp_run (f := fun s => f_Hulls_lowestOf_L1 o (nI t) h s.1 s.2) (fun k => (oI (lw X Y t k), nI k)) n (fun k hk => ?_) (by
    show f_Hulls_lowestOf_L1 o (nI t) h _ (nI n) = _
    unfold f_Hulls_lowestOf_L1
    rw [C.1, if_pos (ge_yes (Nat.le_refl _) (by omega))]) (n := lpN) (by unfold lpN; omega)
  show f_Hulls_lowestOf_L1 o (nI t) h (oI (lw X Y t k)) (nI k) = some (.inl (oI (lw X Y t (k + 1)), nI (k + 1)))
  unfold f_Hulls_lowestOf_L1
  rw [C.1, if_neg (lt_no hk (by omega)), bit_ok (by omega) (by omega), nI_1]
  rw [show lw X Y t (k + 1) = if t.testBit k then (match lw X Y t k with
    | none => some k
    | some p => if Y k < Y p ∨ (Y k = Y p ∧ X k < X p) then some k else some p) else lw X Y t k from rfl]
  cases t.testBit k with
  | false => rfl
  | true =>
    rw [if_pos rfl, if_pos rfl]
    cases hq : lw X Y t k with
    | none => rfl
    | some q =>
      have hqk := (lw_lt k q hq).1
      obtain ⟨-, -, B, -⟩ := G
      have b1 := B k hk
      have b2 := B q (by omega)
      show (if nI q = -1 then _ else _) = some (Sum.inl (oI (if Y k < Y q ∨ (Y k = Y q ∧ X k < X q) then some k else some q), nI (k + 1)))
      rw [if_neg (m1_ne (by omega)), if_neg (gd (by omega) (by omega)), show oI (some q) = nI q from rfl, if_neg (gd (by omega) (by omega)), cla (by omega), cla (by omega), (C.2.2 k hk).1, (C.2.2 k hk).2, (C.2.2 q (by omega)).1, (C.2.2 q (by omega)).2]
      simp only [iI_lt (show InR (Y k) by unfold InR; omega) (show InR (Y q) by unfold InR; omega), iI_eq (show InR (Y k) by unfold InR; omega) (show InR (Y q) by unfold InR; omega), iI_le (show InR (X q) by unfold InR; omega) (show InR (X k) by unfold InR; omega)]
      by_cases c1 : Y k < Y q
      · rw [if_pos c1, if_pos (Or.inl c1)]; rfl
      · rw [if_neg c1]
        by_cases c2 : Y k = Y q
        · rw [if_pos c2]
          by_cases c3 : X q ≤ X k
          · rw [if_pos c3, if_neg (by omega)]; rfl
          · rw [if_neg c3, if_pos (by omega)]; rfl
        · rw [if_neg c2, if_neg (by omega)]; rfl
/-- the next corner: the last that has none right -/
def nxl (n : Nat) (X Y : Nat → Int) (t a : Nat) : Nat → Nat
  | 0 => a
  | k + 1 => if nxB n X Y t a k then k else nxl n X Y t a k
theorem nxl_in {t a : Nat} (ha : a < n) (hb : t.testBit a = true) : ∀ k, k ≤ n → nxl n X Y t a k < n ∧ t.testBit (nxl n X Y t a k) = true := by
  intro k
  induction k with
  | zero => intro _; exact ⟨ha, hb⟩
  | succ k ih =>
    intro hk
    unfold nxl
    by_cases c : nxB n X Y t a k = true
    · rw [if_pos c]
      unfold nxB at c
      simp only [Bool.and_eq_true] at c
      exact ⟨by omega, c.1.2⟩
    · rw [if_neg c]
      exact ih (by omega)
theorem nxl_no {t a : Nat} : ∀ k, (∀ j, j < k → nxB n X Y t a j = false) → nxl n X Y t a k = a := by
  intro k
  induction k with
  | zero => intro _; rfl
  | succ k ih =>
    intro H
    unfold nxl
    rw [H k (by omega)]
    exact ih (fun j hj => H j (by omega))
theorem nxl_of {t a q : Nat} (hq : nxB n X Y t a q = true) (hu : ∀ j, j < n → nxB n X Y t a j = true → j = q) : ∀ k, k ≤ n → q < k → nxl n X Y t a k = q := by
  intro k
  induction k with
  | zero => intro _ hk; omega
  | succ k ih =>
    intro hk hqk
    unfold nxl
    by_cases c : nxB n X Y t a k = true
    · rw [if_pos c]
      exact hu k (by omega) c
    · rw [if_neg c]
      refine ih (by omega) ?_
      by_cases e : q = k
      · subst e; exact absurd hq c
      · omega
/-- two that have none right are one -/
theorem nx_uniq (G : GC n g X Y) {s a q r : Nat} (ha : a < n) (hq : q < n) (hr : r < n) (hab : (co n X Y s).testBit a = true) (h1 : nxB n X Y (co n X Y s) a q = true) (h2 : nxB n X Y (co n X Y s) a r = true) : q = r := by
  unfold nxB at h1 h2
  simp only [Bool.and_eq_true, decide_eq_true_eq] at h1 h2
  have t1 := noB_r.mp h1.2 r hr h2.1.2
  have t2 := noB_r.mp h2.2 q hq h1.1.2
  have t3 := T3_swap (X := X) (Y := Y) a q r
  have t0 : T3 X Y a q r = 0 := by omega
  have cb := fun p (hp : p < n) (hb : (co n X Y s).testBit p = true) => (show (hl n X Y s).testBit p = true ∧ btB n X Y (hl n X Y s) p = false by
    rw [co_bit hp, Bool.and_eq_true, Bool.not_eq_true'] at hb
    exact hb)
  have ca := cb a ha hab
  have cq := cb q hq h1.1.2
  have cr := cb r hr h2.1.2
  have nb : ∀ p i j, p < n → i < n → j < n → i ≠ p → j ≠ p → btB n X Y (hl n X Y s) p = false → (hl n X Y s).testBit i = true → (hl n X Y s).testBit j = true → T3 X Y p i j = 0 → 0 ≤ DT3 X Y p i j := by
    intro p i j hp hi hj ni nj hf bi bj ht
    by_cases c : DT3 X Y p i j < 0
    · have : btB n X Y (hl n X Y s) p = true := btB_iff.mpr ⟨i, j, hi, hj, by unfold bt2; simp [ni, nj, bi, bj, ht, c]⟩
      rw [hf] at this
      exact absurd this (by decide)
    · omega
  by_cases e : q = r
  · exact e
  · exfalso
    have u1 := nb a q r ha hq hr h1.1.1 h2.1.1 ca.2 cq.1 cr.1 t0
    have v2 : T3 X Y q a r = 0 := by
      have : T3 X Y q a r = - T3 X Y a q r := by unfold T3 TR; grind
      omega
    have v3 : T3 X Y r a q = 0 := by
      have : T3 X Y r a q = T3 X Y a q r := by unfold T3 TR; grind
      omega
    have u2 := nb q a r hq ha hr (fun x => h1.1.1 x.symm) (fun x => e x.symm) cq.2 ca.1 cr.1 v2
    have u3 := nb r a q hr ha hq (fun x => h2.1.1 x.symm) e cr.2 ca.1 cq.1 v3
    have hU : 0 < (X q - X a) * (X q - X a) + (Y q - Y a) * (Y q - Y a) := sq_pos (by
      by_cases x : X q = X a
      · by_cases y : Y q = Y a
        · exact absurd (G.2.2.2 q a hq ha x y) h1.1.1
        · omega
      · omega)
    have hV : 0 < (X r - X a) * (X r - X a) + (Y r - Y a) * (Y r - Y a) := sq_pos (by
      by_cases x : X r = X a
      · by_cases y : Y r = Y a
        · exact absurd (G.2.2.2 r a hr ha x y) h2.1.1
        · omega
      · omega)
    have hW : 0 < (X q - X r) * (X q - X r) + (Y q - Y r) * (Y q - Y r) := sq_pos (by
      by_cases x : X q = X r
      · by_cases y : Y q = Y r
        · exact absurd (G.2.2.2 q r hq hr x y) e
        · omega
      · omega)
    unfold DT3 at u1 u2 u3
    unfold T3 TR at t0
    refine line3 (u1 := X q - X a) (u2 := Y q - Y a) (v1 := X r - X a) (v2 := Y r - Y a) (by omega) ?_ ?_ ?_ hU hV ?_
    · grind
    · grind
    · grind
    · grind
theorem nextCorner_ok (C : CC h o n g X Y) (G : GC n g X Y) {s a : Nat} (ha : a < n) (hab : (co n X Y s).testBit a = true) : f_Hulls_nextCorner o (nI (co n X Y s)) (nI a) h = some (nI (nxl n X Y (co n X Y s) a n)) := by
  have hn := G.1
  have h4 : co n X Y s < 4096 := Nat.lt_of_lt_of_le (co_lt s) (p12 hn)
  unfold f_Hulls_nextCorner
  have st : ∀ q, q < n → f_Hulls_nextCorner_L1 o (nI (co n X Y s)) (nI a) h (nI q) = some (if nxB n X Y (co n X Y s) a q then .inr (nI q) else .inl (nI (q + 1))) := by
    intro q hq
    unfold f_Hulls_nextCorner_L1 nxB noB
    rw [C.1, if_neg (lt_no hq (by omega)), nI_1, sbM C G ha hq, bit_ok (by omega) (by omega)]
    simp only [Option.bind_some]
    rw [nI_and]
    have hl : sdS n X Y a q (-1) &&& co n X Y s < 4096 := and_lt4 h4
    by_cases e1 : q = a
    · rw [if_pos (by rw [e1])]
      simp [e1]
    · rw [if_neg (fun x => e1 ((nI_eqI (by omega) (by omega)).mp x))]
      cases (co n X Y s).testBit q
      · simp
      · by_cases e2 : sdS n X Y a q (-1) &&& co n X Y s = 0
        · rw [e2]
          simp [e1]
          rfl
        · simp [e1, e2, nI_z hl]
  obtain ⟨r, e1, e2⟩ := lp_find (f := fun t => f_Hulls_nextCorner_L1 o (nI (co n X Y s)) (nI a) h t) (fun k => nI k) (nxB n X Y (co n X Y s) a) n (fun r => r = nI (nxl n X Y (co n X Y s) a n)) (fun q hq hb => by
    show f_Hulls_nextCorner_L1 o (nI (co n X Y s)) (nI a) h (nI q) = _
    rw [st q hq, hb]
    rfl) (fun q hq hb _ => ⟨nI q, by
    show f_Hulls_nextCorner_L1 o (nI (co n X Y s)) (nI a) h (nI q) = _
    rw [st q hq, hb]
    rfl, by rw [nxl_of hb (fun j hj hjb => nx_uniq G ha hj hq hab hjb hb) n (Nat.le_refl _) hq]⟩) (fun H => ⟨nI a, by
    show f_Hulls_nextCorner_L1 o (nI (co n X Y s)) (nI a) h (nI n) = _
    unfold f_Hulls_nextCorner_L1
    rw [C.1, if_pos (ge_yes (Nat.le_refl _) (by omega))], by rw [nxl_no n H]⟩) (by unfold lpN; omega)
  rw [show lp (fun t => f_Hulls_nextCorner_L1 o (nI (co n X Y s)) (nI a) h t) lpN 0 = some r from e1, e2]
/-- the walk -/
def wk (n : Nat) (X Y : Nat → Int) (t : Nat) : Nat → Nat
  | 0 => (lw X Y t n).getD 0
  | k + 1 => nxl n X Y t (wk n X Y t k) n
theorem wk_in {t : Nat} (ht : t < 2 ^ n) (h0 : t ≠ 0) : lw X Y t n = some (wk n X Y t 0) ∧ ∀ k, wk n X Y t k < n ∧ t.testBit (wk n X Y t k) = true := by
  have hex : ∃ i, i < n ∧ t.testBit i = true := by
    by_cases q : ∃ i, i < n ∧ t.testBit i = true
    · exact q
    · exact absurd (set_eq ht (Nat.two_pow_pos n) (fun i hi => by
        rw [Nat.zero_testBit]
        cases hb : t.testBit i with
        | false => rfl
        | true => exact absurd ⟨i, hi, hb⟩ q)) h0
  obtain ⟨i, hi, hb⟩ := hex
  obtain ⟨p, hp⟩ := lw_some (X := X) (Y := Y) hb n hi
  have e : wk n X Y t 0 = p := by
    show (lw X Y t n).getD 0 = p
    rw [hp]
    rfl
  refine ⟨by rw [hp, e], fun k => ?_⟩
  induction k with
  | zero =>
    rw [e]
    exact lw_lt n p hp
  | succ k ih => exact nxl_in ih.1 ih.2 n (Nat.le_refl _)
theorem pct_0 : pct 0 = 0 := by decide
/-- how many corners all have -/
def cm (n : Nat) (X Y : Nat → Int) : Nat := pct (co n X Y (2 ^ n - 1))
def wc (n : Nat) (X Y : Nat → Int) (i : Nat) : Nat := wk n X Y (co n X Y (2 ^ n - 1)) i
theorem walk_ok (C : CC h o n g X Y) (G : GC n g X Y) (ho : o ∉ [14, 16]) (ho0 : rf o 0 ∉ [14, 16]) (ho1 : rf o 1 ∉ [14, 16]) : ∃ h', f_Hulls_walk o h = some h' ∧ Fs [14, 16] h h' ∧ hI h' 14 3 = nI (cm n X Y) ∧ ∀ i, i < cm n X Y → hI h' 16 i = nI (wc n X Y i) := by
  have hn := G.1
  have h4 : co n X Y (2 ^ n - 1) < 4096 := Nat.lt_of_lt_of_le (co_lt _) (p12 hn)
  have hc : cm n X Y ≤ 12 := pct_le _
  unfold f_Hulls_walk
  rw [every_ok C hn, cornersOf_ok C G (full_lt hn)]
  simp only [Option.bind_some]
  rw [lowestOf_ok C G h4, bitCount_ok h4]
  simp only [Option.bind_some]
  have hin : 0 < cm n X Y → lw X Y (co n X Y (2 ^ n - 1)) n = some (wc n X Y 0) ∧ ∀ k, wc n X Y k < n ∧ (co n X Y (2 ^ n - 1)).testBit (wc n X Y k) = true := fun hp => by
    refine wk_in (co_lt _) (fun e => ?_)
    unfold cm at hp
    rw [e, pct_0] at hp
    omega
  refine lp_inv (f := fun s => f_Hulls_walk_L1 o (nI (co n X Y (2 ^ n - 1))) (nI (pct (co n X Y (2 ^ n - 1)))) s.1 s.2.1 s.2.2) (fun k s => (0 < cm n X Y → s.1 = nI (wc n X Y k)) ∧ s.2.1 = nI k ∧ Fs [14, 16] h s.2.2 ∧ hI s.2.2 14 3 = nI k ∧ ∀ i, i < k → hI s.2.2 16 i = nI (wc n X Y i)) _ (cm n X Y) ?_ ?_ ⟨fun hp => by rw [(hin hp).1]; rfl, rfl, Fs.rfl'.set (by decide), by rw [hI_s]; rfl, fun i hi => by omega⟩ (by unfold lpN; omega)
  · rintro k ⟨a, b, h'⟩ hk ⟨d0, rfl, d1, d2, d3⟩
    have d0 : a = nI (wc n X Y k) := d0 (by omega)
    subst d0
    have d1 : Fs [14, 16] h h' := d1
    have d2 : hI h' 14 3 = nI k := d2
    have d3 : ∀ i, i < k → hI h' 16 i = nI (wc n X Y i) := d3
    have hw := (hin (by omega)).2 k
    show ∃ s', f_Hulls_walk_L1 o (nI (co n X Y (2 ^ n - 1))) (nI (cm n X Y)) (nI (wc n X Y k)) (nI k) h' = some (.inl s') ∧ _
    unfold f_Hulls_walk_L1
    rw [if_neg (lt_no hk (by omega)), show (12 : Int32) = nI 12 from rfl, if_neg (lt_no (by omega) (by omega)), if_neg (gd (by omega) (by omega)), cla (by omega), hI_n (h := h') (by omega), d2, nI_1]
    have F : Fs [14, 16] h (sI (sI h' 16 k (nI (wc n X Y k))) 14 3 (nI (k + 1))) := (d1.set (by decide)).set (by decide)
    have C' := C.fs F ho ho0 ho1
    rw [nextCorner_ok C' G hw.1 hw.2]
    simp only [Option.bind_some]
    refine ⟨_, rfl, fun _ => rfl, rfl, F, ?_, ?_⟩
    · show hI (sI (sI h' 16 k _) 14 3 _) 14 3 = _
      rw [hI_s]
    · intro i hi
      show hI (sI (sI h' 16 k _) 14 3 _) 16 i = _
      rw [hI_n (by omega)]
      by_cases e : i = k
      · subst e; rw [hI_s]
      · rw [hI_n (by omega)]
        exact d3 i (by omega)
  · rintro ⟨a, b, h'⟩ ⟨d0, rfl, d1, d2, d3⟩
    have d1 : Fs [14, 16] h h' := d1
    have d2 : hI h' 14 3 = nI (cm n X Y) := d2
    have d3 : ∀ i, i < cm n X Y → hI h' 16 i = nI (wc n X Y i) := d3
    show ∃ r, f_Hulls_walk_L1 o (nI (co n X Y (2 ^ n - 1))) (nI (cm n X Y)) a (nI (cm n X Y)) h' = some (.inr r) ∧ _
    unfold f_Hulls_walk_L1
    rw [if_pos (ge_yes (Nat.le_refl _) (by omega))]
    exact ⟨_, rfl, d1, d2, d3⟩
theorem R_next_ok (C : RR h n g X Y) (G : GC n g X Y) {t a : Nat} (h4 : t < 4096) (ha : a < n) (m i : Int32) : lp (fun s => f_R_laysCorners_L3 (nI t) m (nI a) i h s.1 s.2) lpN (nI a, 0) = some (.inl (nI (nxl n X Y t a n), i + 1, h)) := by
  have hn := G.1
  refine lp_run (f := fun s => f_R_laysCorners_L3 (nI t) m (nI a) i h s.1 s.2) (fun k => (nI (nxl n X Y t a k), nI k)) n (fun q hq => ?_) (by
    show f_R_laysCorners_L3 (nI t) m (nI a) i h _ (nI n) = _
    unfold f_R_laysCorners_L3 f_R_all
    rw [C.1, if_pos (ge_yes (Nat.le_refl _) (by omega))]) (n := lpN) (by unfold lpN; omega)
  show f_R_laysCorners_L3 (nI t) m (nI a) i h (nI (nxl n X Y t a q)) (nI q) = some (.inl (nI (if nxB n X Y t a q then q else nxl n X Y t a q), nI (q + 1)))
  unfold f_R_laysCorners_L3 f_R_all nxB noB
  rw [C.1, if_neg (lt_no hq (by omega)), nI_1, onM C G ha hq h4, has_ok (by omega) (by omega)]
  simp only [Option.bind_some]
  have hl : sdS n X Y a q (-1) &&& t < 4096 := and_lt4 h4
  by_cases e1 : q = a
  · rw [if_pos (by rw [e1])]
    simp [e1]
  · rw [if_neg (fun x => e1 ((nI_eqI (by omega) (by omega)).mp x))]
    cases t.testBit q
    · simp
    · by_cases e2 : sdS n X Y a q (-1) &&& t = 0
      · rw [e2]
        simp [e1, nI_z (show 0 < 4096 by omega)]
      · simp [e1, e2, nI_z hl]
theorem laysCorners_ok (C : RR h n g X Y) (G : GC n g X Y) : ∃ h', f_R_laysCorners h = some (nI (cm n X Y), h') ∧ Fs [95] h h' ∧ ∀ i, i < cm n X Y → hI h' 95 i = nI (wc n X Y i) := by
  have hn := G.1
  have h4 : co n X Y (2 ^ n - 1) < 4096 := Nat.lt_of_lt_of_le (co_lt _) (p12 hn)
  have hc : cm n X Y ≤ 12 := pct_le _
  unfold f_R_laysCorners
  rw [full_ok C hn, R_cornersOf_ok C G (full_lt hn)]
  simp only [Option.bind_some]
  rw [bitsOf_ok h4]
  simp only [Option.bind_some]
  have hin : 0 < cm n X Y → lw X Y (co n X Y (2 ^ n - 1)) n = some (wc n X Y 0) ∧ ∀ k, wc n X Y k < n ∧ (co n X Y (2 ^ n - 1)).testBit (wc n X Y k) = true := fun hp => by
    refine wk_in (co_lt _) (fun e => ?_)
    unfold cm at hp
    rw [e, pct_0] at hp
    omega
  obtain ⟨⟨r1, r2⟩, e1, e2, e3, e4⟩ := lp_inv (f := fun s => f_R_laysCorners_L2 (nI (co n X Y (2 ^ n - 1))) (nI (cm n X Y)) s.1 s.2.1 s.2.2) (fun k s => (0 < cm n X Y → s.1 = nI (wc n X Y k)) ∧ s.2.1 = nI k ∧ Fs [95] h s.2.2 ∧ ∀ i, i < k → hI s.2.2 95 i = nI (wc n X Y i)) (fun r => r.1 = nI (cm n X Y) ∧ Fs [95] h r.2 ∧ ∀ i, i < cm n X Y → hI r.2 95 i = nI (wc n X Y i)) (cm n X Y) (by
    rintro k ⟨a, b, h'⟩ hk ⟨d0, rfl, d1, d3⟩
    have d0 : a = nI (wc n X Y k) := d0 (by omega)
    subst d0
    have d1 : Fs [95] h h' := d1
    have d3 : ∀ i, i < k → hI h' 95 i = nI (wc n X Y i) := d3
    have hw := (hin (by omega)).2 k
    show ∃ s', f_R_laysCorners_L2 (nI (co n X Y (2 ^ n - 1))) (nI (cm n X Y)) (nI (wc n X Y k)) (nI k) h' = some (.inl s') ∧ _
    unfold f_R_laysCorners_L2
    have F : Fs [95] h (sI h' 95 k (nI (wc n X Y k))) := d1.set (by decide)
    have C' := C.fs F (by decide)
    rw [if_neg (lt_no hk (by omega)), if_neg (gd (by omega) (by omega)), cla (by omega), R_next_ok C' G h4 hw.1, nI_1]
    refine ⟨_, rfl, fun _ => rfl, rfl, F, ?_⟩
    intro i hi
    show hI (sI h' 95 k _) 95 i = _
    by_cases e : i = k
    · subst e; rw [hI_s]
    · rw [hI_n (by omega)]
      exact d3 i (by omega)) (by
    rintro ⟨a, b, h'⟩ ⟨d0, rfl, d1, d3⟩
    have d1 : Fs [95] h h' := d1
    have d3 : ∀ i, i < cm n X Y → hI h' 95 i = nI (wc n X Y i) := d3
    show ∃ r, f_R_laysCorners_L2 (nI (co n X Y (2 ^ n - 1))) (nI (cm n X Y)) a (nI (cm n X Y)) h' = some (.inr r) ∧ _
    unfold f_R_laysCorners_L2
    rw [if_pos (ge_yes (Nat.le_refl _) (by omega))]
    exact ⟨_, rfl, rfl, d1, d3⟩) (n := lpN) (s := (oI (lw X Y (co n X Y (2 ^ n - 1)) n), 0, h)) ⟨fun hp => by rw [(hin hp).1]; rfl, rfl, Fs.rfl', fun i hi => by omega⟩ (by unfold lpN; omega)
  have e2 : r1 = nI (cm n X Y) := e2
  subst e2
  refine ⟨r2, ?_, e3, e4⟩
  generalize htt : co n X Y (2 ^ n - 1) = t at *
  have hm : pct t = cm n X Y := by rw [← htt]; rfl
  rw [hm]
  refine lp_run (f := fun s => f_R_laysCorners_L1 (nI t) (nI (cm n X Y)) h s.1 s.2) (fun k => (oI (lw X Y t k), nI k)) n (fun k hk => ?_) (by
    show f_R_laysCorners_L1 (nI t) (nI (cm n X Y)) h _ (nI n) = _
    unfold f_R_laysCorners_L1 f_R_all
    rw [C.1, if_pos (ge_yes (Nat.le_refl _) (by omega)), e1]
    rfl) (n := lpN) (by unfold lpN; omega)
  show f_R_laysCorners_L1 (nI t) (nI (cm n X Y)) h (oI (lw X Y t k)) (nI k) = some (.inl (oI (lw X Y t (k + 1)), nI (k + 1)))
  unfold f_R_laysCorners_L1 f_R_all
  rw [C.1, if_neg (lt_no hk (by omega)), has_ok (by omega) (by omega), nI_1, R_x_ok C hn hk, R_y_ok C hn hk]
  rw [show lw X Y t (k + 1) = if t.testBit k then (match lw X Y t k with
    | none => some k
    | some p => if Y k < Y p ∨ (Y k = Y p ∧ X k < X p) then some k else some p) else lw X Y t k from rfl]
  cases t.testBit k with
  | false => rfl
  | true =>
    rw [if_neg (by decide), if_pos rfl]
    cases hq : lw X Y t k with
    | none => rfl
    | some q =>
      have hqk := (lw_lt k q hq).1
      obtain ⟨-, -, B, -⟩ := G
      have b1 := B k hk
      have b2 := B q (by omega)
      have hnn : ¬ (nI q < 0) := by rw [lt0x, nI_iI, iI_toInt (by unfold InR; omega)]; omega
      show (if nI q < 0 then _ else _) = some (Sum.inl (oI (if Y k < Y q ∨ (Y k = Y q ∧ X k < X q) then some k else some q), nI (k + 1)))
      rw [if_neg hnn, show oI (some q) = nI q from rfl, R_x_ok C hn (by omega : q < n), R_y_ok C hn (by omega : q < n)]
      simp only [Option.bind_some]
      simp only [iI_lt (show InR (Y k) by unfold InR; omega) (show InR (Y q) by unfold InR; omega), iI_eq (show InR (Y k) by unfold InR; omega) (show InR (Y q) by unfold InR; omega), iI_le (show InR (X q) by unfold InR; omega) (show InR (X k) by unfold InR; omega)]
      by_cases c1 : Y k < Y q
      · rw [if_pos c1, if_pos (Or.inl c1)]; rfl
      · rw [if_neg c1]
        by_cases c2 : Y k = Y q
        · rw [if_pos c2]
          by_cases c3 : X q ≤ X k
          · rw [if_pos c3, if_neg (by omega)]; rfl
          · rw [if_neg c3, if_pos (by omega)]; rfl
        · rw [if_neg c2, if_neg (by omega)]; rfl
end WK
section WS
variable {KC KD KE : pH → Cfg → Prop}
theorem sc_14 : ∀ o, o ∈ [14, 15, 16] → o < 79 ∧ ∀ k, ¬ Rc o k := by
  intro o ho
  simp only [List.mem_cons, List.not_mem_nil, or_false] at ho
  exact ⟨by omega, fun k hr => by unfold Rc Pl Pu Ps Pt at hr; omega⟩
theorem sr_94 : ∀ o, o ∈ [94, 95] → 79 ≤ o ∧ o ≠ 86 ∧ ∀ k, ¬ Rr o k := by
  intro o ho
  simp only [List.mem_cons, List.not_mem_nil, or_false] at ho
  exact ⟨by omega, by omega, fun k hr => by unfold Rr Qu Qs Qt at hr; omega⟩
theorem sp_corner (hKC : Kst KC) (hKD : Kst KD) (hKE : Kst KE) : Sp_corner (JJ KC KD KE) := by
  intro k h _ H a0
  refine rd_go2 hKC hKD hKE H (f := f_C_corner a0 h) (g := f_R_corner a0) [14, 15, 16] [94, 95] sc_14 sr_94 (fun c G C R => ?_)
  have hc : cm c.1 c.2.2.1 c.2.2.2 ≤ 12 := pct_le _
  obtain ⟨h1, e1, f1, d2, d3⟩ := walk_ok C G (by decide) (by rw [rf8_0]; decide) (by rw [rf8_1]; decide)
  obtain ⟨h2, e2, f2, d4⟩ := laysCorners_ok (RR.fs R f1 (by decide)) G
  have f1 : Fs [14, 15, 16] h h1 := f1.mono (by decide)
  have f2 : Fs [94, 95] h1 h2 := f2.mono (by decide)
  generalize cm c.1 c.2.2.1 c.2.2.2 = K at *
  unfold f_C_corner f_R_corner
  rw [e1]
  simp only [Option.bind_some]
  by_cases q1 : a0 = -1
  · rw [if_pos q1, d2]
    refine ⟨nI K, h1, rfl, f1, h2, ?_, f2⟩
    rw [e2]
    simp only [Option.bind_some]
    rw [if_pos q1]
  · rw [if_neg q1]
    unfold f_Hulls_cornerAt
    rw [d2]
    simp only [lt0x, le_x K (by omega)]
    by_cases q2 : 0 ≤ a0.toInt ∧ a0.toInt < K
    · obtain ⟨i, hi, rfl⟩ := pt_nat q2.1 q2.2
      rw [if_neg (by omega), if_neg (by omega), cla (by omega), if_neg (by omega), d3 i hi]
      refine ⟨_, h1, rfl, f1, h2, ?_, f2⟩
      rw [e2]
      simp only [Option.bind_some]
      rw [if_neg q1, in_idx _ (by omega), if_pos q2, if_neg (by decide), if_neg (by omega), d4 i hi]
    · refine ⟨-1, h1, ?_, f1, h2, ?_, f2⟩
      · by_cases q3 : a0.toInt < 0
        · rw [if_pos q3]
          rfl
        · rw [if_neg q3, if_pos (by omega)]
          rfl
      · rw [e2]
        simp only [Option.bind_some]
        rw [if_neg q1, in_idx _ (by omega), if_neg q2, if_pos rfl]
end WS
