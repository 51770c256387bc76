/-! keeping, shares: places of the grid counted -/
theorem lp_any2up {ρ : Type} {f1 : Int32 → Option (Int32 ⊕ ρ)} {f2 : Nat → Int32 → Option (Int32 ⊕ (Int32 ⊕ ρ))} (n : Nat) (hn : n ≤ 12) (B : Nat → Nat → Bool) {r1 r0 : ρ} (h2 : ∀ q r, q < r → r < n → f2 q (nI r) = some (if B q r then .inr (.inr r1) else .inl (nI (r + 1)))) (h2x : ∀ q, q < n → f2 q (nI n) = some (.inr (.inl (nI (q + 1))))) (h1 : ∀ q, q < n → f1 (nI q) = lp (f2 q) lpN (nI (q + 1))) (h1x : f1 (nI n) = some (.inr r0)) : lp f1 lpN 0 = some (if ex (fun q => ex (fun i => B q (q + 1 + i)) (n - (q + 1))) n then r1 else r0) := by
  refine lp_any (f := f1) (fun k => nI k) (fun q => ex (fun i => B q (q + 1 + i)) (n - (q + 1))) n (fun q hq => ?_) h1x (by unfold lpN; omega)
  have e := lp_any (f := f2 q) (fun i => nI (q + 1 + i)) (fun i => B q (q + 1 + i)) (n - (q + 1)) (r1 := .inr r1) (r0 := .inl (nI (q + 1))) (fun i hi => h2 q (q + 1 + i) (by omega) (by omega)) (by
    show f2 q (nI (q + 1 + (n - (q + 1)))) = _
    rw [show q + 1 + (n - (q + 1)) = n by omega]
    exact h2x q hq) (by unfold lpN; omega)
  rw [h1 q hq, show lp (f2 q) lpN (nI (q + 1)) = _ from e]
theorem lp_any2dn {ρ : Type} {f1 : Int32 → Option (Int32 ⊕ ρ)} {f2 : Nat → Int32 → Option (Int32 ⊕ (Int32 ⊕ ρ))} (n : Nat) (hn : n ≤ 12) (B : Nat → Nat → Bool) {r1 r0 : ρ} (h2 : ∀ q r, r < q → q < n → f2 q (nI r) = some (if B q r then .inr (.inr r1) else .inl (nI (r + 1)))) (h2x : ∀ q, q < n → f2 q (nI q) = some (.inr (.inl (nI (q + 1))))) (h1 : ∀ q, q < n → f1 (nI q) = lp (f2 q) lpN 0) (h1x : f1 (nI n) = some (.inr r0)) : lp f1 lpN 0 = some (if ex (fun q => ex (fun r => B q r) q) n then r1 else r0) := by
  refine lp_any (f := f1) (fun k => nI k) (fun q => ex (fun r => B q r) q) n (fun q hq => ?_) h1x (by unfold lpN; omega)
  have e := lp_any (f := f2 q) (fun i => nI i) (fun r => B q r) q (r1 := .inr r1) (r0 := .inl (nI (q + 1))) (fun i hi => h2 q i hi hq) (h2x q hq) (by unfold lpN; omega)
  rw [h1 q hq, show lp (f2 q) lpN 0 = _ from e]
theorem ex_ud (n : Nat) (B : Nat → Nat → Bool) (sym : ∀ q r, B q r = B r q) (irr : ∀ q, B q q = false) : ex (fun q => ex (fun i => B q (q + 1 + i)) (n - (q + 1))) n = ex (fun q => ex (fun r => B q r) q) n := by
  apply Bool.eq_iff_iff.mpr
  rw [ex_iff, ex_iff]
  constructor
  · rintro ⟨q, hq, e⟩
    obtain ⟨i, hi, e⟩ := ex_iff.mp e
    exact ⟨q + 1 + i, by omega, ex_iff.mpr ⟨q, by omega, by rw [sym]; exact e⟩⟩
  · rintro ⟨q, hq, e⟩
    obtain ⟨r, hr, e⟩ := ex_iff.mp e
    exact ⟨r, by omega, ex_iff.mpr ⟨q - (r + 1), by omega, by rw [show r + 1 + (q - (r + 1)) = q by omega, sym]; exact e⟩⟩
/-- places of the grid counted -/
theorem lp_gct {f1 : Int32 × Int32 → Option ((Int32 × Int32) ⊕ Int32)} (f2 : Nat → Int32 × Int32 → Option ((Int32 × Int32) ⊕ ((Int32 × Int32) ⊕ Int32))) (g : Nat) (hg : g ≤ 20) (P : Nat → Bool)
    (ho : ∀ j a, j < wd g → f1 (a, iI (-(g : Int) + (j : Int))) = lp (f2 j) lpN (a, -(nI g)))
    (hox : ∀ a, f1 (a, iI (-(g : Int) + (wd g : Int))) = some (.inr a))
    (hi : ∀ j i (a : Nat), j < wd g → i < wd g → f2 j (nI a, iI (-(g : Int) + (i : Int))) = some (.inl (nI (a + if P (wd g * j + i) then 1 else 0), iI (-(g : Int) + ((i + 1 : Nat) : Int)))))
    (hix : ∀ j a, j < wd g → f2 j (a, iI (-(g : Int) + (wd g : Int))) = some (.inr (.inl (a, iI (-(g : Int) + ((j + 1 : Nat) : Int)))))) : lp f1 lpN (0, -(nI g)) = some (nI (ctn P (wd g * wd g))) := by
  have hw : wd g ≤ 41 := by unfold wd; omega
  obtain ⟨r, e1, e2⟩ := lp_grid (f1 := f1) f2 (wd g) (fun j s => s = (nI (ctn P (wd g * j)), iI (-(g : Int) + (j : Int)))) (fun j i s => s = (nI (ctn P (wd g * j + i)), iI (-(g : Int) + (i : Int)))) (fun r => r = nI (ctn P (wd g * wd g))) hw (by
    rintro j s hj rfl
    exact ⟨_, ho j _ hj, by rw [ng0]; rfl⟩) (by
    rintro s rfl
    exact ⟨_, hox _, rfl⟩) (by
    rintro j i s hj hi' rfl
    exact ⟨_, hi j i _ hj hi', rfl⟩) (by
    rintro j s hj rfl
    exact ⟨_, hix j _ hj, by rw [Nat.mul_add, Nat.mul_one]⟩) (s := (0, -(nI g))) (by rw [Nat.mul_zero, ng0]; rfl)
  rw [e1, e2]
section KP
variable {n g : Nat} {X Y : Nat → Int} {h : pH} {o : Nat}
def kpb (X Y : Nat → Int) (p : Nat) (x y : Int) (q r : Nat) : Bool := decide (q ≠ p ∧ r ≠ p ∧ sgn (TR X Y q r x y) ≠ sgn (T3 X Y q r p))
def kpB (n : Nat) (X Y : Nat → Int) (p : Nat) (x y : Int) : Bool := !ex (fun q => ex (fun r => kpb X Y p x y q r) q) n
theorem kpb_sym (p : Nat) (x y : Int) (q r : Nat) : kpb X Y p x y q r = kpb X Y p x y r q := by
  unfold kpb
  have e1 : TR X Y r q x y = - TR X Y q r x y := by unfold TR; grind
  have e2 : T3 X Y r q p = - T3 X Y q r p := by unfold T3 TR; grind
  rw [e1, e2, sgn_neg, sgn_neg, decide_eq_decide]
  constructor
  · exact fun z => ⟨z.2.1, z.1, fun e => z.2.2 (by omega)⟩
  · exact fun z => ⟨z.2.1, z.1, fun e => z.2.2 (by omega)⟩
theorem kpb_irr (p : Nat) (x y : Int) (q : Nat) : kpb X Y p x y q q = false := by
  unfold kpb
  have e1 : TR X Y q q x y = 0 := by unfold TR; grind
  have e2 : T3 X Y q q p = 0 := by unfold T3 TR; grind
  rw [e1, e2, decide_eq_false_iff_not]
  exact fun z => z.2.2 rfl
theorem kp_own (p : Nat) : kpB n X Y p (X p) (Y p) = true := by
  unfold kpB
  rw [Bool.not_eq_true', ex_no]
  intro q _
  rw [ex_no]
  intro r _
  unfold kpb
  rw [decide_eq_false_iff_not]
  exact fun z => z.2.2 rfl
theorem keepsTurns_ok (C : CC h o n g X Y) (G : GC n g X Y) {p : Nat} (hp : p < n) {x y : Int} (hx : -250 ≤ x ∧ x ≤ 250) (hy : -250 ≤ y ∧ y ≤ 250) : f_Shapes_keepsTurns o (nI p) (iI x) (iI y) h = some (if kpB n X Y p x y then 1 else 0) := by
  have hn := G.1
  unfold f_Shapes_keepsTurns
  have e := lp_any2up (f1 := fun s => f_Shapes_keepsTurns_L1 o (nI p) (iI x) (iI y) h s) (f2 := fun q s => f_Shapes_keepsTurns_L2 o (nI p) (iI x) (iI y) (nI q) h s) n hn (kpb X Y p x y) (r1 := 0) (r0 := 1) (by
    intro q r hqr hr
    show f_Shapes_keepsTurns_L2 o (nI p) (iI x) (iI y) (nI q) h (nI r) = _
    unfold f_Shapes_keepsTurns_L2 kpb
    have hq : q < n := by omega
    rw [C.1, if_neg (lt_no hr (by omega)), turnAt_ok C hn hq hr, turnOf_ok C hn hq hr hp, nI_1]
    simp only [Option.bind_some]
    rw [signOf_ok (InR_100 (TR_in G hq hr hx hy)), signOf_ok (InR_100 (T3_in G hq hr hp))]
    simp only [iI_eq (sg_in _) (sg_in _), nI_eqI (show q ≤ 100000 by omega) (show p ≤ 100000 by omega), nI_eqI (show r ≤ 100000 by omega) (show p ≤ 100000 by omega)]
    by_cases z1 : q = p
    · simp [z1]
    by_cases z2 : r = p
    · simp [z2]
    by_cases z3 : sgn (TR X Y q r x y) = sgn (T3 X Y q r p)
    · simp [z3]
    · simp [z1, z2, z3]) (by
    intro q hq
    show f_Shapes_keepsTurns_L2 o (nI p) (iI x) (iI y) (nI q) h (nI n) = _
    unfold f_Shapes_keepsTurns_L2
    rw [C.1, if_pos (ge_yes (Nat.le_refl _) (by omega)), nI_1]) (by
    intro q hq
    show f_Shapes_keepsTurns_L1 o (nI p) (iI x) (iI y) h (nI q) = _
    unfold f_Shapes_keepsTurns_L1
    rw [C.1, if_neg (lt_no hq (by omega)), nI_1]) (by
    show f_Shapes_keepsTurns_L1 o (nI p) (iI x) (iI y) h (nI n) = _
    unfold f_Shapes_keepsTurns_L1
    rw [C.1, if_pos (ge_yes (Nat.le_refl _) (by omega))])
  rw [e, ex_ud n _ (kpb_sym p x y) (kpb_irr p x y)]
  unfold kpB
  cases ex (fun q => ex (fun r => kpb X Y p x y q r) q) n <;> rfl
theorem R_keepsIn_ok (C : RR h n g X Y) (G : GC n g X Y) {p : Nat} (hp : p < n) {x y : Int} (hx : -250 ≤ x ∧ x ≤ 250) (hy : -250 ≤ y ∧ y ≤ 250) : lp (fun s => f_R_keeps_L1 (nI p) (iI x) (iI y) h s) lpN 0 = some (if kpB n X Y p x y then 1 else 0) := by
  have hn := G.1
  have e := lp_any2dn (f1 := fun s => f_R_keeps_L1 (nI p) (iI x) (iI y) h s) (f2 := fun q s => f_R_keeps_L2 (nI p) (iI x) (iI y) (nI q) h s) n hn (kpb X Y p x y) (r1 := 0) (r0 := 1) (by
    intro q r hrq hq
    show f_R_keeps_L2 (nI p) (iI x) (iI y) (nI q) h (nI r) = _
    unfold f_R_keeps_L2 f_R_keeps_J3 kpb
    have hr : r < n := by omega
    have t1 := InR_100 (TR_in G hq hr hx hy)
    rw [if_neg (lt_no hrq (by omega)), R_turnOf_ok C hn hq hr, R_sideOf_ok C G hq hr hp, nI_1]
    simp only [Option.bind_some]
    rw [sign_if t1]
    simp only [nI_eqI (show q ≤ 100000 by omega) (show p ≤ 100000 by omega), nI_eqI (show r ≤ 100000 by omega) (show p ≤ 100000 by omega)]
    by_cases z1 : q = p
    · simp [z1]
    by_cases z2 : r = p
    · simp [z2]
    rw [if_neg z1, if_neg z2]
    have c0 : (0 : Int32) = iI (sgn (T3 X Y q r p)) ↔ 0 = sgn (T3 X Y q r p) := iI_eq (a := 0) (by unfold InR; omega) (sg_in _)
    have c1 : (1 : Int32) = iI (sgn (T3 X Y q r p)) ↔ 1 = sgn (T3 X Y q r p) := iI_eq (a := 1) (by unfold InR; omega) (sg_in _)
    have c2 : (-1 : Int32) = iI (sgn (T3 X Y q r p)) ↔ -1 = sgn (T3 X Y q r p) := by
      have := iI_eq (a := -1) (by unfold InR; omega) (sg_in (T3 X Y q r p))
      exact this
    simp only [c0, c1, c2]
    rcases sgn_in (TR X Y q r x y) with e | e | e
    · rw [e, if_neg (by decide), if_neg (by decide)]
      by_cases z3 : 1 = sgn (T3 X Y q r p)
      · simp [z3]
      · simp [z1, z2, z3]
    · rw [e, if_neg (by decide), if_pos rfl]
      by_cases z3 : -1 = sgn (T3 X Y q r p)
      · simp [z3]
      · simp [z1, z2, z3]
    · rw [e, if_pos rfl]
      by_cases z3 : 0 = sgn (T3 X Y q r p)
      · simp [z3]
      · simp [z1, z2, z3]) (by
    intro q hq
    show f_R_keeps_L2 (nI p) (iI x) (iI y) (nI q) h (nI q) = _
    unfold f_R_keeps_L2
    rw [if_pos (ge_yes (Nat.le_refl _) (by omega)), nI_1]) (by
    intro q hq
    show f_R_keeps_L1 (nI p) (iI x) (iI y) h (nI q) = _
    unfold f_R_keeps_L1 f_R_all
    rw [C.1, if_neg (lt_no hq (by omega))]) (by
    show f_R_keeps_L1 (nI p) (iI x) (iI y) h (nI n) = _
    unfold f_R_keeps_L1 f_R_all
    rw [C.1, if_pos (ge_yes (Nat.le_refl _) (by omega))])
  rw [e]
  unfold kpB
  cases ex (fun q => ex (fun r => kpb X Y p x y q r) q) n <;> rfl
end KP
section KS
variable {h : pH} {c : Cfg}
/-- a place that keeps the turns of p -/
def keB (c : Cfg) (p : Nat) (x y : Int) : Bool := isAt c x y p || (!tkn c x y && kpB c.1 c.2.2.1 c.2.2.2 p x y)
theorem R_keeps_ok (C : RRc h c) (G : GCc c) {p : Nat} (hp : p < c.1) {x y : Int} (hx : -250 ≤ x ∧ x ≤ 250) (hy : -250 ≤ y ∧ y ≤ 250) : f_R_keeps (nI p) (iI x) (iI y) h = some (if keB c p x y then 1 else 0) := by
  have hn := G.1
  unfold f_R_keeps keB
  have tx : (iI x).toInt = x := iI_toInt (by unfold InR; omega)
  have ty : (iI y).toInt = y := iI_toInt (by unfold InR; omega)
  have e2 := R_keepsIn_ok C G hp hx hy
  rcases pointAt_ok C G (iI x) (iI y) with ⟨j, hj, hb, e⟩ | ⟨hb, e⟩
  · rw [e]
    simp only [Option.bind_some]
    rw [tx, ty] at hb
    have hb' : c.2.2.1 j = x ∧ c.2.2.2 j = y := by simpa [isAt] using hb
    rw [if_neg (by rw [lt0x, nI_iI, iI_toInt (by unfold InR; omega)]; omega)]
    by_cases z : j = p
    · subst z
      rw [if_pos rfl, e2, hb, ← hb'.1, ← hb'.2, kp_own]
      rfl
    · rw [if_neg (fun x => z ((nI_eqI (by omega) (by omega)).mp x))]
      have n1 : isAt c x y p = false := by
        unfold isAt
        rw [decide_eq_false_iff_not]
        intro q
        exact z (G.2.2.2 j p hj hp (hb'.1.trans q.1.symm) (hb'.2.trans q.2.symm))
      have n2 : tkn c x y = true := ex_iff.mpr ⟨j, hj, hb⟩
      rw [n1, n2]
      rfl
  · rw [e]
    simp only [Option.bind_some]
    rw [tx, ty] at hb
    have n1 : isAt c x y p = false := ex_no.mp hb p hp
    rw [if_pos (by decide), e2, hb, n1]
    simp
theorem keeping_ok {o : Nat} (C : CCc h o c) (G : GCc c) {p : Nat} (hp : p < c.1) : f_Shapes_keepingPlaces o (nI p) h = some (nI (ctn (fun t => keB c p (px c.2.1 t) (py c.2.1 t)) (wd c.2.1 * wd c.2.1))) := by
  have hn := G.1
  have hg : c.2.1 ≤ 20 := G.2.1.2
  have w1 : wd c.2.1 = 2 * c.2.1 + 1 := rfl
  unfold f_Shapes_keepingPlaces
  rw [C.2.1]
  refine lp_gct (f1 := fun s => f_Shapes_keepingPlaces_L1 o (nI p) h s.1 s.2) (fun j s => f_Shapes_keepingPlaces_L2 o (nI p) (iI (-(c.2.1 : Int) + (j : Int))) h s.1 s.2) c.2.1 hg _ ?_ ?_ ?_ ?_
  · intro j a hj
    show f_Shapes_keepingPlaces_L1 o (nI p) h a (iI (-(c.2.1 : Int) + (j : Int))) = _
    unfold f_Shapes_keepingPlaces_L1
    rw [C.2.1, if_neg (fun x => by have := (g_end hg (by omega)).mp x; omega)]
  · intro a
    show f_Shapes_keepingPlaces_L1 o (nI p) h a (iI (-(c.2.1 : Int) + (wd c.2.1 : Int))) = _
    unfold f_Shapes_keepingPlaces_L1
    rw [C.2.1, if_pos ((g_end hg (Nat.le_refl _)).mpr rfl)]
  · intro j i a hj hi
    show f_Shapes_keepingPlaces_L2 o (nI p) (iI (-(c.2.1 : Int) + (j : Int))) h (nI a) (iI (-(c.2.1 : Int) + (i : Int))) = _
    unfold f_Shapes_keepingPlaces_L2 f_Shapes_keepingPlaces_J3
    rw [C.2.1, if_neg (fun x => by have := (g_end hg (by omega)).mp x; omega), if_neg (gd (by omega) (by omega)), cla (by omega), (C.2.2 p hp).1, (C.2.2 p hp).2, keepsTurns_ok C G hp (by omega) (by omega), isTaken_ok C G, iI_toInt (show InR (-(c.2.1 : Int) + (i : Int)) by unfold InR; omega), iI_toInt (show InR (-(c.2.1 : Int) + (j : Int)) by unfold InR; omega), nx1, nI_1, px_at _ _ hi, py_at _ _ hi]
    simp only [Option.bind_some]
    have pi := pt_in G hp
    simp only [iI_eq pi.1 (show InR (-(c.2.1 : Int) + (i : Int)) by unfold InR; omega), iI_eq pi.2 (show InR (-(c.2.1 : Int) + (j : Int)) by unfold InR; omega)]
    unfold keB isAt
    generalize -(c.2.1 : Int) + (i : Int) = x
    generalize -(c.2.1 : Int) + (j : Int) = y
    by_cases z1 : c.2.2.1 p = x
    · by_cases z2 : c.2.2.2 p = y
      · simp [z1, z2]
      · rw [if_pos z1, if_neg z2]
        cases tkn c x y <;> cases kpB c.1 c.2.2.1 c.2.2.2 p x y <;> simp [z2]
    · rw [if_neg z1]
      cases tkn c x y <;> cases kpB c.1 c.2.2.1 c.2.2.2 p x y <;> simp [z1]
  · intro j a hj
    show f_Shapes_keepingPlaces_L2 o (nI p) (iI (-(c.2.1 : Int) + (j : Int))) h a (iI (-(c.2.1 : Int) + (wd c.2.1 : Int))) = _
    unfold f_Shapes_keepingPlaces_L2
    rw [C.2.1, if_pos ((g_end hg (Nat.le_refl _)).mpr rfl), nx1]
theorem R_keeping_ok (C : RRc h c) (G : GCc c) {p : Nat} (hp : p < c.1) : lp (fun s => f_R_keeping_L1 (nI p) (nI c.2.1) h s.1 s.2) lpN (0, -(nI c.2.1)) = some (nI (ctn (fun t => keB c p (px c.2.1 t) (py c.2.1 t)) (wd c.2.1 * wd c.2.1))) := by
  have hn := G.1
  have hg : c.2.1 ≤ 20 := G.2.1.2
  have w1 : wd c.2.1 = 2 * c.2.1 + 1 := rfl
  refine lp_gct (f1 := fun s => f_R_keeping_L1 (nI p) (nI c.2.1) h s.1 s.2) (fun j s => f_R_keeping_L2 (nI p) (nI c.2.1) (iI (-(c.2.1 : Int) + (j : Int))) h s.1 s.2) c.2.1 hg _ ?_ ?_ ?_ ?_
  · intro j a hj
    show f_R_keeping_L1 (nI p) (nI c.2.1) h a (iI (-(c.2.1 : Int) + (j : Int))) = _
    unfold f_R_keeping_L1
    rw [if_neg (fun x => by have := (g_end hg (by omega)).mp x; omega)]
  · intro a
    show f_R_keeping_L1 (nI p) (nI c.2.1) h a (iI (-(c.2.1 : Int) + (wd c.2.1 : Int))) = _
    unfold f_R_keeping_L1
    rw [if_pos ((g_end hg (Nat.le_refl _)).mpr rfl)]
  · intro j i a hj hi
    show f_R_keeping_L2 (nI p) (nI c.2.1) (iI (-(c.2.1 : Int) + (j : Int))) h (nI a) (iI (-(c.2.1 : Int) + (i : Int))) = _
    unfold f_R_keeping_L2
    rw [if_neg (fun x => by have := (g_end hg (by omega)).mp x; omega), R_keeps_ok C G hp (by omega) (by omega), nx1, nI_1, px_at _ _ hi, py_at _ _ hi]
    simp only [Option.bind_some]
    cases keB c p (-(c.2.1 : Int) + (i : Int)) (-(c.2.1 : Int) + (j : Int)) <;> rfl
  · intro j a hj
    show f_R_keeping_L2 (nI p) (nI c.2.1) (iI (-(c.2.1 : Int) + (j : Int))) h a (iI (-(c.2.1 : Int) + (wd c.2.1 : Int))) = _
    unfold f_R_keeping_L2
    rw [if_pos ((g_end hg (Nat.le_refl _)).mpr rfl), nx1]
/-- how far a place is from a point, squared -/
def sqd (X Y : Nat → Int) (p : Nat) (x y : Int) : Int := (X p - x) * (X p - x) + (Y p - y) * (Y p - y)
theorem sqd_in (G : GCc c) {p : Nat} (hp : p < c.1) {x y : Int} (hx : -50 ≤ x ∧ x ≤ 50) (hy : -50 ≤ y ∧ y ≤ 50) : InR (sqd c.2.2.1 c.2.2.2 p x y) := by
  have b : -50 ≤ c.2.2.1 p ∧ c.2.2.1 p ≤ 50 ∧ -50 ≤ c.2.2.2 p ∧ c.2.2.2 p ≤ 50 := G.2.2.1 p hp
  have m1 := mul_b (a := c.2.2.1 p - x) (b := c.2.2.1 p - x) (A := 100) (B := 100) (by omega) (by omega)
  have m2 := mul_b (a := c.2.2.2 p - y) (b := c.2.2.2 p - y) (A := 100) (B := 100) (by omega) (by omega)
  unfold sqd InR
  omega
def nrB (c : Cfg) (p : Nat) (x y : Int) : Bool := !ex (fun q => decide (q ≠ p ∧ sqd c.2.2.1 c.2.2.2 q x y ≤ sqd c.2.2.1 c.2.2.2 p x y)) c.1
theorem sqA_ok {o : Nat} (C : CCc h o c) (hn : c.1 ≤ 12) {p : Nat} (hp : p < c.1) (x y : Int) : f_Shapes_squareApart o (nI p) (iI x) (iI y) h = some (iI (sqd c.2.2.1 c.2.2.2 p x y)) := by
  unfold f_Shapes_squareApart
  rw [if_neg (gd (by omega) (by omega)), cla (by omega), (C.2.2 p hp).1, (C.2.2 p hp).2, iI_sub, iI_sub, iI_mul, iI_mul, iI_add]
  rfl
theorem R_apart_ok (C : RRc h c) (hn : c.1 ≤ 12) {p : Nat} (hp : p < c.1) (x y : Int) : f_R_apart (nI p) (iI x) (iI y) h = some (iI (sqd c.2.2.1 c.2.2.2 p x y)) := by
  unfold f_R_apart
  rw [R_x_ok C hn hp, R_y_ok C hn hp]
  simp only [Option.bind_some]
  rw [iI_sub, iI_sub, iI_mul, iI_mul, iI_add]
  rfl
theorem isNearest_ok {o : Nat} (C : CCc h o c) (G : GCc c) {p : Nat} (hp : p < c.1) {x y : Int} (hx : -50 ≤ x ∧ x ≤ 50) (hy : -50 ≤ y ∧ y ≤ 50) : f_Shapes_isNearest o (nI p) (iI x) (iI y) h = some (if nrB c p x y then 1 else 0) := by
  have hn := G.1
  unfold f_Shapes_isNearest
  rw [sqA_ok C hn hp]
  simp only [Option.bind_some]
  have e := lp_any (f := fun s => f_Shapes_isNearest_L1 o (nI p) (iI x) (iI y) (iI (sqd c.2.2.1 c.2.2.2 p x y)) h s) (fun k => nI k) (fun q => decide (q ≠ p ∧ sqd c.2.2.1 c.2.2.2 q x y ≤ sqd c.2.2.1 c.2.2.2 p x y)) c.1 (r1 := 0) (r0 := 1) (fun q hq => by
    show f_Shapes_isNearest_L1 o (nI p) (iI x) (iI y) (iI (sqd c.2.2.1 c.2.2.2 p x y)) h (nI q) = _
    unfold f_Shapes_isNearest_L1
    rw [C.1, if_neg (lt_no hq (by omega)), sqA_ok C hn hq, nI_1]
    simp only [Option.bind_some, iI_lt (sqd_in G hp hx hy) (sqd_in G hq hx hy), nI_eqI (show q ≤ 100000 by omega) (show p ≤ 100000 by omega)]
    by_cases z1 : q = p
    · simp [z1]
    rw [if_neg z1]
    by_cases z2 : sqd c.2.2.1 c.2.2.2 p x y < sqd c.2.2.1 c.2.2.2 q x y
    · rw [if_pos z2, if_neg (by simp; omega)]
    · rw [if_neg z2, if_pos (by simp; omega)]) (by
    show f_Shapes_isNearest_L1 o (nI p) (iI x) (iI y) (iI (sqd c.2.2.1 c.2.2.2 p x y)) h (nI c.1) = _
    unfold f_Shapes_isNearest_L1
    rw [C.1, if_pos (ge_yes (Nat.le_refl _) (by omega))]) (by unfold lpN; omega)
  rw [show lp (fun s => f_Shapes_isNearest_L1 o (nI p) (iI x) (iI y) (iI (sqd c.2.2.1 c.2.2.2 p x y)) h s) lpN 0 = _ from e]
  unfold nrB
  cases ex (fun q => decide (q ≠ p ∧ sqd c.2.2.1 c.2.2.2 q x y ≤ sqd c.2.2.1 c.2.2.2 p x y)) c.1 <;> rfl
theorem shareOf_ok {o : Nat} (C : CCc h o c) (G : GCc c) {p : Nat} (hp : p < c.1) : f_Shapes_shareOf o (nI p) h = some (nI (ctn (fun t => nrB c p (px c.2.1 t) (py c.2.1 t)) (wd c.2.1 * wd c.2.1))) := by
  have hn := G.1
  have hg : c.2.1 ≤ 20 := G.2.1.2
  have w1 : wd c.2.1 = 2 * c.2.1 + 1 := rfl
  unfold f_Shapes_shareOf
  rw [C.2.1]
  refine lp_gct (f1 := fun s => f_Shapes_shareOf_L1 o (nI p) h s.1 s.2) (fun j s => f_Shapes_shareOf_L2 o (nI p) (iI (-(c.2.1 : Int) + (j : Int))) h s.1 s.2) c.2.1 hg _ ?_ ?_ ?_ ?_
  · intro j a hj
    show f_Shapes_shareOf_L1 o (nI p) h a (iI (-(c.2.1 : Int) + (j : Int))) = _
    unfold f_Shapes_shareOf_L1
    rw [C.2.1, if_neg (fun x => by have := (g_end hg (by omega)).mp x; omega)]
  · intro a
    show f_Shapes_shareOf_L1 o (nI p) h a (iI (-(c.2.1 : Int) + (wd c.2.1 : Int))) = _
    unfold f_Shapes_shareOf_L1
    rw [C.2.1, if_pos ((g_end hg (Nat.le_refl _)).mpr rfl)]
  · intro j i a hj hi
    show f_Shapes_shareOf_L2 o (nI p) (iI (-(c.2.1 : Int) + (j : Int))) h (nI a) (iI (-(c.2.1 : Int) + (i : Int))) = _
    unfold f_Shapes_shareOf_L2
    rw [C.2.1, if_neg (fun x => by have := (g_end hg (by omega)).mp x; omega), isNearest_ok C G hp (by omega) (by omega), nx1, nI_1, px_at _ _ hi, py_at _ _ hi]
    simp only [Option.bind_some]
    cases nrB c p (-(c.2.1 : Int) + (i : Int)) (-(c.2.1 : Int) + (j : Int)) <;> rfl
  · intro j a hj
    show f_Shapes_shareOf_L2 o (nI p) (iI (-(c.2.1 : Int) + (j : Int))) h a (iI (-(c.2.1 : Int) + (wd c.2.1 : Int))) = _
    unfold f_Shapes_shareOf_L2
    rw [C.2.1, if_pos ((g_end hg (Nat.le_refl _)).mpr rfl), nx1]
theorem R_shareIn_ok (C : RRc h c) (G : GCc c) {p : Nat} (hp : p < c.1) {x y : Int} (hx : -50 ≤ x ∧ x ≤ 50) (hy : -50 ≤ y ∧ y ≤ 50) (z a b : Int32) (hb : b = iI y) : lp (fun s => f_R_shareOf_L3 (nI p) z a b (iI x) h s.1 s.2) lpN (1, 0) = some (if nrB c p x y then .inl (a + 1, iI x + 1) else .inl (a, iI x + 1)) := by
  subst hb
  have hn := G.1
  have st : ∀ q, q < c.1 → f_R_shareOf_L3 (nI p) z a (iI y) (iI x) h 1 (nI q) = some (.inl (if decide (q ≠ p ∧ sqd c.2.2.1 c.2.2.2 q x y ≤ sqd c.2.2.1 c.2.2.2 p x y) then 0 else 1, nI (q + 1))) := by
    intro q hq
    unfold f_R_shareOf_L3 f_R_all
    rw [C.1, if_neg (lt_no hq (by omega)), if_neg (by decide), R_apart_ok C hn hp, R_apart_ok C hn hq, nI_1]
    simp only [Option.bind_some, iI_le (sqd_in G hq hx hy) (sqd_in G hp hx hy), nI_eqI (show q ≤ 100000 by omega) (show p ≤ 100000 by omega)]
    by_cases z1 : q = p
    · simp [z1]
    rw [if_neg z1]
    by_cases z2 : sqd c.2.2.1 c.2.2.2 q x y ≤ sqd c.2.2.1 c.2.2.2 p x y
    · rw [if_pos z2, if_pos (by simp [z1, z2])]
    · rw [if_neg z2, if_neg (by simp [z2])]
  unfold nrB
  cases hx : ex (fun q => decide (q ≠ p ∧ sqd c.2.2.1 c.2.2.2 q x y ≤ sqd c.2.2.1 c.2.2.2 p x y)) c.1 with
  | false =>
    have hno := ex_no.mp hx
    refine lp_run (f := fun s => f_R_shareOf_L3 (nI p) z a (iI y) (iI x) h s.1 s.2) (fun k => (1, nI k)) c.1 (fun k hk => ?_) ?_ (n := lpN) (by unfold lpN; omega)
    · show f_R_shareOf_L3 (nI p) z a (iI y) (iI x) h 1 (nI k) = _
      rw [st k hk, hno k hk]
      rfl
    · show f_R_shareOf_L3 (nI p) z a (iI y) (iI x) h 1 (nI c.1) = _
      unfold f_R_shareOf_L3 f_R_all f_R_shareOf_J4
      rw [C.1, if_pos (ge_yes (Nat.le_refl _) (by omega)), if_neg (by decide)]
      rfl
  | true =>
    obtain ⟨K, ⟨h1, h2⟩, h3⟩ := pk_least (fun k => k < c.1 ∧ decide (k ≠ p ∧ sqd c.2.2.1 c.2.2.2 k x y ≤ sqd c.2.2.1 c.2.2.2 p x y) = true) (ex_iff.mp hx)
    have hf : ∀ k, k < K → decide (k ≠ p ∧ sqd c.2.2.1 c.2.2.2 k x y ≤ sqd c.2.2.1 c.2.2.2 p x y) = false := fun k hk => by
      cases q : decide (k ≠ p ∧ sqd c.2.2.1 c.2.2.2 k x y ≤ sqd c.2.2.1 c.2.2.2 p x y) with
      | false => rfl
      | true => exact absurd ⟨by omega, q⟩ (h3 k hk)
    refine lp_run (f := fun s => f_R_shareOf_L3 (nI p) z a (iI y) (iI x) h s.1 s.2) (fun k => (if k ≤ K then 1 else 0, nI k)) (K + 1) (fun k hk => ?_) ?_ (n := lpN) (by unfold lpN; omega)
    · show f_R_shareOf_L3 (nI p) z a (iI y) (iI x) h (if k ≤ K then 1 else 0) (nI k) = some (.inl (if k + 1 ≤ K then 1 else 0, nI (k + 1)))
      rw [if_pos (by omega), st k (by omega)]
      by_cases e : k = K
      · subst e
        rw [h2, if_neg (show ¬ k + 1 ≤ k by omega)]
        rfl
      · rw [hf k (by omega), if_pos (show k + 1 ≤ K by omega)]
        rfl
    · show f_R_shareOf_L3 (nI p) z a (iI y) (iI x) h (if K + 1 ≤ K then 1 else 0) (nI (K + 1)) = _
      rw [if_neg (by omega)]
      unfold f_R_shareOf_L3 f_R_shareOf_J4
      by_cases e : f_R_all h ≤ nI (K + 1)
      · rw [if_pos e, if_pos rfl]
        rfl
      · rw [if_neg e, if_pos rfl, if_pos rfl]
        rfl
theorem R_shareOf_ok (C : RRc h c) (G : GCc c) {p : Nat} (hp : p < c.1) : f_R_shareOf (nI p) h = some (nI (ctn (fun t => nrB c p (px c.2.1 t) (py c.2.1 t)) (wd c.2.1 * wd c.2.1))) := by
  have hn := G.1
  have hg : c.2.1 ≤ 20 := G.2.1.2
  have w1 : wd c.2.1 = 2 * c.2.1 + 1 := rfl
  unfold f_R_shareOf
  rw [C.2.1]
  refine lp_gct (f1 := fun s => f_R_shareOf_L1 (nI p) (nI c.2.1) h s.1 s.2) (fun j s => f_R_shareOf_L2 (nI p) (nI c.2.1) (iI (-(c.2.1 : Int) + (j : Int))) h s.1 s.2) c.2.1 hg _ ?_ ?_ ?_ ?_
  · intro j a hj
    show f_R_shareOf_L1 (nI p) (nI c.2.1) h a (iI (-(c.2.1 : Int) + (j : Int))) = _
    unfold f_R_shareOf_L1
    rw [if_neg (fun x => by have := (g_end hg (by omega)).mp x; omega)]
  · intro a
    show f_R_shareOf_L1 (nI p) (nI c.2.1) h a (iI (-(c.2.1 : Int) + (wd c.2.1 : Int))) = _
    unfold f_R_shareOf_L1
    rw [if_pos ((g_end hg (Nat.le_refl _)).mpr rfl)]
  · intro j i a hj hi
    show f_R_shareOf_L2 (nI p) (nI c.2.1) (iI (-(c.2.1 : Int) + (j : Int))) h (nI a) (iI (-(c.2.1 : Int) + (i : Int))) = _
    unfold f_R_shareOf_L2
    rw [if_neg (fun x => by have := (g_end hg (by omega)).mp x; omega), R_shareIn_ok C G hp (x := -(c.2.1 : Int) + (i : Int)) (y := -(c.2.1 : Int) + (j : Int)) (by omega) (by omega) _ _ _ rfl, nx1, nI_1, px_at _ _ hi, py_at _ _ hi]
    cases nrB c p (-(c.2.1 : Int) + (i : Int)) (-(c.2.1 : Int) + (j : Int)) <;> rfl
  · intro j a hj
    show f_R_shareOf_L2 (nI p) (nI c.2.1) (iI (-(c.2.1 : Int) + (j : Int))) h a (iI (-(c.2.1 : Int) + (wd c.2.1 : Int))) = _
    unfold f_R_shareOf_L2
    rw [if_pos ((g_end hg (Nat.le_refl _)).mpr rfl), nx1]
end KS
section KK
variable {KC KD KE : pH → Cfg → Prop}
theorem sp_keeping (hKC : Kst KC) (hKD : Kst KD) (hKE : Kst KE) : Sp_keeping (JJ KC KD KE) := by
  intro k h _ H a0
  refine rd_go hKC hKD hKE H fun c G C R => ?_
  have hn := G.1
  unfold f_C_keeping f_R_keeping
  rw [has_in C hn, isPoint_ok R hn]
  by_cases z : 0 ≤ a0.toInt ∧ a0.toInt < c.1
  · obtain ⟨p, hp, rfl⟩ := pt_nat z.1 z.2
    rw [if_pos z, if_neg (by decide), if_neg (by decide), keeping_ok C G hp, R.2.1, R_keeping_ok R G hp]
    exact ⟨_, rfl, rfl⟩
  · rw [if_neg z, if_pos rfl, if_pos rfl]
    exact ⟨_, rfl, rfl⟩
end KK
