/-! the depth of a place in the reference; the call depth -/
theorem ctn_none {P : Nat → Bool} {n : Nat} (H : ∀ i, i < n → P i = false) : ctn P n = 0 := by
  induction n with
  | zero => rfl
  | succ n ih =>
    unfold ctn
    rw [ih (fun i hi => H i (by omega)), H n (by omega)]
    rfl
theorem ctn_one {P : Nat → Bool} {n j : Nat} (hj : j < n) (hp : P j = true) (H : ∀ i, i < n → P i = true → i = j) : ctn P n = 1 := by
  induction n with
  | zero => omega
  | succ n ih =>
    unfold ctn
    by_cases e : j = n
    · subst e
      rw [ctn_none (fun i hi => by
        cases hq : P i with
        | false => rfl
        | true => have := H i (by omega) hq; omega), hp]
      rfl
    · rw [ih (by omega) (fun i hi => H i (by omega))]
      cases hq : P n with
      | false => rfl
      | true => have := H n (by omega) hq; omega
section DR
variable {h : pH} {c : Cfg}
theorem R_depthIn (C : RRc h c) (G : GCc c) {x y : Int} (hx : -200 ≤ x ∧ x ≤ 200) (hy : -200 ≤ y ∧ y ≤ 200) {p : Nat} (hp : p < c.1) {a b : Nat} (ha : a ≤ 1000) (hb : b ≤ 1000) : f_R_depthOf_J3 (iI x) (iI y) (nI a) (nI b) (nI p) (iI (c.2.2.1 p - x)) (iI (c.2.2.2 p - y)) h = some (.inl (nI (min b (a + few c.1 (fun i => c.2.2.1 i - x) (fun i => c.2.2.2 i - y) p)), nI (p + 1))) := by
  obtain ⟨n, g, X, Y⟩ := c
  have hn : n ≤ 12 := G.1
  have B := G.2.2.1
  have hp : p < n := hp
  show f_R_depthOf_J3 (iI x) (iI y) (nI a) (nI b) (nI p) (iI (X p - x)) (iI (Y p - y)) h = some (.inl (nI (min b (a + few n (fun i => X i - x) (fun i => Y i - y) p)), nI (p + 1)))
  have hU : ∀ q, q < n → -250 ≤ X q - x ∧ X q - x ≤ 250 ∧ -250 ≤ Y q - y ∧ Y q - y ≤ 250 := fun q hq => by
    have b : -50 ≤ X q ∧ X q ≤ 50 ∧ -50 ≤ Y q ∧ Y q ≤ 50 := B q hq
    omega
  unfold f_R_depthOf_J3
  generalize hUU : (fun i => X i - x) = U at *
  generalize hVV : (fun i => Y i - y) = V at *
  have eU : ∀ q, X q - x = U q := fun q => congrFun hUU q
  have eV : ∀ q, Y q - y = V q := fun q => congrFun hVV q
  have hU : ∀ q, q < n → -250 ≤ U q ∧ U q ≤ 250 ∧ -250 ≤ V q ∧ V q ≤ 250 := fun q hq => by rw [← eU, ← eV]; exact hU q hq
  rw [eU, eV]
  refine lp_run (f := fun s => f_R_depthOf_L4 (iI x) (iI y) (nI a) (nI b) (nI p) (iI (U p)) (iI (V p)) h s.1 s.2.1 s.2.2.1 s.2.2.2.1 s.2.2.2.2) (fun k => (nI (ctn (dpL U V p) k), nI (ctn (dpR U V p) k), nI (ctn (dpF U V p) k), nI (ctn (dpB U V p) k), nI k)) n (fun q hq => ?_) ?_ (n := lpN) (by unfold lpN; omega)
  · rw [four_ct]
    show f_R_depthOf_L4 (iI x) (iI y) (nI a) (nI b) (nI p) (iI (U p)) (iI (V p)) h (nI (ctn (dpL U V p) q)) (nI (ctn (dpR U V p) q)) (nI (ctn (dpF U V p) q)) (nI (ctn (dpB U V p) q)) (nI q) = _
    unfold f_R_depthOf_L4 f_R_all
    obtain ⟨i1, i2⟩ := uv_in hU hp hq
    rw [C.1, if_neg (lt_no hq (by omega)), R_x_ok C hn hq, R_y_ok C hn hq]
    simp only [Option.bind_some]
    rw [iI_sub, iI_sub, show (n, g, X, Y).2.2.1 q - x = U q from eU q, show (n, g, X, Y).2.2.2 q - y = V q from eV q, iI_mul, iI_mul, iI_mul, iI_mul, iI_sub, iI_add, show U p * V q - V p * U q = cr U V p q from rfl, show U p * U q + V p * V q = dt U V p q from rfl, four_if i1 i2, nI_1 q]
    split
    · rfl
    · split
      · rfl
      · split
        · rfl
        · split <;> rfl
  · show f_R_depthOf_L4 (iI x) (iI y) (nI a) (nI b) (nI p) (iI (U p)) (iI (V p)) h (nI (ctn (dpL U V p) n)) (nI (ctn (dpR U V p) n)) (nI (ctn (dpF U V p) n)) (nI (ctn (dpB U V p) n)) (nI n) = _
    unfold f_R_depthOf_L4 f_R_all few
    have l1 := ctn_le (dpL U V p) n
    have l2 := ctn_le (dpR U V p) n
    have l3 := ctn_le (dpF U V p) n
    have l4 := ctn_le (dpB U V p) n
    generalize ctn (dpL U V p) n = q1 at *
    generalize ctn (dpR U V p) n = q2 at *
    generalize ctn (dpF U V p) n = q3 at *
    generalize ctn (dpB U V p) n = q4 at *
    rw [C.1, if_pos (ge_yes (Nat.le_refl _) (by show n ≤ 100000; omega)), nI_add, nI_add, nI_add, nI_add, min_ok (by omega) (by omega), min_ok (by omega) (by omega), min_ok (by omega) (by omega), nI_add, min_ok (by omega) (by omega), nI_1, show min (min (q1 + q4) (q2 + q3)) (min (q1 + q3) (q2 + q4)) = min q1 q2 + min q3 q4 by omega]
theorem R_depthOf_ok (C : RRc h c) (G : GCc c) {x y : Int} (hx : -200 ≤ x ∧ x ≤ 200) (hy : -200 ≤ y ∧ y ≤ 200) : f_R_depthOf (iI x) (iI y) h = some (nI (dp c.1 c.2.2.1 c.2.2.2 x y)) := by
  have hn : c.1 ≤ 12 := G.1
  have B := G.2.2.1
  have hh := ctn_le (fun i => decide (c.2.2.1 i - x = 0 ∧ c.2.2.2 i - y = 0)) c.1
  have J1 : f_R_depthOf_J1 (iI x) (iI y) (nI (ctn (fun i => decide (c.2.2.1 i - x = 0 ∧ c.2.2.2 i - y = 0)) c.1)) h = some (nI (dp c.1 c.2.2.1 c.2.2.2 x y)) := by
    unfold f_R_depthOf_J1 f_R_all
    rw [C.1]
    refine lp_run (f := fun s => f_R_depthOf_L2 (iI x) (iI y) (nI (ctn (fun i => decide (c.2.2.1 i - x = 0 ∧ c.2.2.2 i - y = 0)) c.1)) h s.1 s.2) (fun k => (nI (dpk c.1 c.2.2.1 c.2.2.2 x y k), nI k)) c.1 (fun k hk => ?_) ?_ (n := lpN) (by unfold lpN; omega)
    · show f_R_depthOf_L2 (iI x) (iI y) (nI (ctn (fun i => decide (c.2.2.1 i - x = 0 ∧ c.2.2.2 i - y = 0)) c.1)) h (nI (dpk c.1 c.2.2.1 c.2.2.2 x y k)) (nI k) = some (.inl (nI (if c.2.2.1 k - x = 0 ∧ c.2.2.2 k - y = 0 then dpk c.1 c.2.2.1 c.2.2.2 x y k else min (dpk c.1 c.2.2.1 c.2.2.2 x y k) (ctn (fun i => decide (c.2.2.1 i - x = 0 ∧ c.2.2.2 i - y = 0)) c.1 + few c.1 (fun i => c.2.2.1 i - x) (fun i => c.2.2.2 i - y) k)), nI (k + 1)))
      unfold f_R_depthOf_L2 f_R_all
      have hl := (dpk_le (n := c.1) (X := c.2.2.1) (Y := c.2.2.2) x y k).1
      have b1 : -50 ≤ c.2.2.1 k ∧ c.2.2.1 k ≤ 50 ∧ -50 ≤ c.2.2.2 k ∧ c.2.2.2 k ≤ 50 := B k hk
      rw [C.1, if_neg (lt_no hk (by omega)), R_x_ok C hn hk, R_y_ok C hn hk]
      simp only [Option.bind_some]
      rw [iI_sub, iI_sub, R_depthIn C G hx hy hk (by omega) (by omega), nI_1]
      simp only [e0 (show InR (c.2.2.1 k - x) by unfold InR; omega), e0 (show InR (c.2.2.2 k - y) by unfold InR; omega)]
      by_cases c1 : c.2.2.1 k - x = 0
      · rw [if_pos c1]
        by_cases c2 : c.2.2.2 k - y = 0
        · rw [if_pos c2, if_pos ⟨c1, c2⟩]
        · rw [if_neg c2, if_neg (fun e => c2 e.2)]
      · rw [if_neg c1, if_neg (fun e => c1 e.1)]
    · show f_R_depthOf_L2 (iI x) (iI y) (nI (ctn (fun i => decide (c.2.2.1 i - x = 0 ∧ c.2.2.2 i - y = 0)) c.1)) h (nI (dpk c.1 c.2.2.1 c.2.2.2 x y c.1)) (nI c.1) = _
      unfold f_R_depthOf_L2 f_R_all
      rw [C.1, if_pos (ge_yes (Nat.le_refl _) (by omega))]
      rfl
  unfold f_R_depthOf
  have tx : (iI x).toInt = x := iI_toInt (by unfold InR; omega)
  have ty : (iI y).toInt = y := iI_toInt (by unfold InR; omega)
  rcases pointAt_ok C G (iI x) (iI y) with ⟨j, hj, hb, e⟩ | ⟨hb, e⟩
  · rw [e]
    simp only [Option.bind_some]
    rw [tx, ty] at hb
    have hb : c.2.2.1 j = x ∧ c.2.2.2 j = y := by simpa [isAt] using hb
    have e1 : ctn (fun i => decide (c.2.2.1 i - x = 0 ∧ c.2.2.2 i - y = 0)) c.1 = 1 := ctn_one hj (by simp; omega) (fun i hi hp => by
      simp only [decide_eq_true_eq] at hp
      exact G.2.2.2 i j hi hj (by omega) (by omega))
    rw [e1] at J1
    rw [if_neg (by rw [lt0x, nI_iI, iI_toInt (by unfold InR; omega)]; omega)]
    exact J1
  · rw [e]
    simp only [Option.bind_some]
    rw [tx, ty] at hb
    have e1 : ctn (fun i => decide (c.2.2.1 i - x = 0 ∧ c.2.2.2 i - y = 0)) c.1 = 0 := ctn_none (fun i hi => by
      have := ex_no.mp hb i hi
      simp only [isAt, decide_eq_false_iff_not] at this ⊢
      omega)
    rw [e1] at J1
    rw [if_pos (by decide)]
    exact J1
end DR
