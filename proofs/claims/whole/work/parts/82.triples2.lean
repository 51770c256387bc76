/-! triangles; three on one line; empty triangles -/
section T2
variable {n g : Nat} {X Y : Nat → Int} {h : pH} {o : Nat}
theorem triAbout_ok (C : CC h o n g X Y) (G : GC n g X Y) {x y : Int} (hx : -250 ≤ x ∧ x ≤ 250) (hy : -250 ≤ y ∧ y ≤ 250) : f_Shapes_trianglesAbout o (iI x) (iI y) h = some (nI (S3 n (fun p q r => b1 (p < q ∧ q < r ∧ insB X Y p q r x y = true)))) := by
  have hn := G.1
  unfold f_Shapes_trianglesAbout
  refine lp_up3 (f1 := fun s => f_Shapes_trianglesAbout_L1 o (iI x) (iI y) h s.1 s.2) (f2 := fun p s => f_Shapes_trianglesAbout_L2 o (iI x) (iI y) (nI p) h s.1 s.2) (f3 := fun p q s => f_Shapes_trianglesAbout_L3 o (iI x) (iI y) (nI p) (nI q) h s.1 s.2) n hn (fun p q r => insB X Y p q r x y) ?_ ?_ ?_ ?_ ?_ ?_
  · intro p q r a hpq hqr hr
    show f_Shapes_trianglesAbout_L3 o (iI x) (iI y) (nI p) (nI q) h (nI a) (nI r) = _
    unfold f_Shapes_trianglesAbout_L3
    have hq : q < n := by omega
    have hp : p < n := by omega
    have t := InR_100 (T3_in G hp hq hr)
    rw [C.1, if_neg (lt_no hr (by omega)), turnOf_ok C hn hp hq hr, jshl_ok p (by omega), jshl_ok q (by omega), jshl_ok r (by omega), nI_or, nI_or, covers_ok C G (three_lt hn hp hq hr) (fun i => b3 i) hpq hqr hr hx hy, nI_1, nI_1]
    simp only [Option.bind_some, e0 t]
    by_cases z : T3 X Y p q r = 0
    · rw [if_pos z, ins_0 z]
      rfl
    · rw [if_neg z, cv_ins z]
      cases insB X Y p q r x y <;> rfl
  · intro p q a hq
    show f_Shapes_trianglesAbout_L3 o (iI x) (iI y) (nI p) (nI q) h a (nI n) = _
    unfold f_Shapes_trianglesAbout_L3
    rw [C.1, if_pos (ge_yes (Nat.le_refl _) (by omega)), nI_1]
  · intro p q a hq
    show f_Shapes_trianglesAbout_L2 o (iI x) (iI y) (nI p) h a (nI q) = _
    unfold f_Shapes_trianglesAbout_L2
    rw [C.1, if_neg (lt_no hq (by omega)), nI_1]
  · intro p a hp
    show f_Shapes_trianglesAbout_L2 o (iI x) (iI y) (nI p) h a (nI n) = _
    unfold f_Shapes_trianglesAbout_L2
    rw [C.1, if_pos (ge_yes (Nat.le_refl _) (by omega)), nI_1]
  · intro p a hp
    show f_Shapes_trianglesAbout_L1 o (iI x) (iI y) h a (nI p) = _
    unfold f_Shapes_trianglesAbout_L1
    rw [C.1, if_neg (lt_no hp (by omega)), nI_1]
  · intro a
    show f_Shapes_trianglesAbout_L1 o (iI x) (iI y) h a (nI n) = _
    unfold f_Shapes_trianglesAbout_L1
    rw [C.1, if_pos (ge_yes (Nat.le_refl _) (by omega))]
theorem R_tri_ok (C : RR h n g X Y) (G : GC n g X Y) {x y : Int} (hx : -250 ≤ x ∧ x ≤ 250) (hy : -250 ≤ y ∧ y ≤ 250) : lp (fun s => f_R_triangles_L1 (iI x) (iI y) h s.1 s.2) lpN (0, 0) = some (nI (S3 n (fun p q r => b1 (p < q ∧ q < r ∧ insB X Y p q r x y = true)))) := by
  have hn := G.1
  rw [S3_ud n (P := fun p q r => insB X Y p q r x y) (Q := fun p q r => insB X Y p q r x y) (fun a b c _ _ _ => ins_rev a b c x y)]
  refine lp_dn3 (f1 := fun s => f_R_triangles_L1 (iI x) (iI y) h s.1 s.2) (f2 := fun p s => f_R_triangles_L2 (iI x) (iI y) (nI p) h s.1 s.2) (f3 := fun p q s => f_R_triangles_L3 (iI x) (iI y) (nI p) (nI q) h s.1 s.2) n hn (fun p q r => insB X Y p q r x y) ?_ ?_ ?_ ?_ ?_ ?_
  · intro p q r a hr hq hp
    show f_R_triangles_L3 (iI x) (iI y) (nI p) (nI q) h (nI a) (nI r) = _
    unfold f_R_triangles_L3
    rw [if_neg (lt_no hr (by omega)), R_isInside_ok C G hp (by omega : q < n) (by omega : r < n) hx hy, nI_1, nI_1]
    simp only [Option.bind_some]
    cases insB X Y p q r x y <;> rfl
  · intro p q a hq hp
    show f_R_triangles_L3 (iI x) (iI y) (nI p) (nI q) h a (nI q) = _
    unfold f_R_triangles_L3
    rw [if_pos (ge_yes (Nat.le_refl _) (by omega)), nI_1]
  · intro p q a hq hp
    show f_R_triangles_L2 (iI x) (iI y) (nI p) h a (nI q) = _
    unfold f_R_triangles_L2
    rw [if_neg (lt_no hq (by omega))]
  · intro p a hp
    show f_R_triangles_L2 (iI x) (iI y) (nI p) h a (nI p) = _
    unfold f_R_triangles_L2
    rw [if_pos (ge_yes (Nat.le_refl _) (by omega)), nI_1]
  · intro p a hp
    show f_R_triangles_L1 (iI x) (iI y) h a (nI p) = _
    unfold f_R_triangles_L1 f_R_all
    rw [C.1, if_neg (lt_no hp (by omega))]
  · intro a
    show f_R_triangles_L1 (iI x) (iI y) h a (nI n) = _
    unfold f_R_triangles_L1 f_R_all
    rw [C.1, if_pos (ge_yes (Nat.le_refl _) (by omega))]
theorem onLine_ok (C : CC h o n g X Y) (G : GC n g X Y) : f_Shapes_triplesOnOneLine o h = some (nI (S3 n (fun p q r => b1 (p < q ∧ q < r ∧ decide (T3 X Y p q r = 0) = true)))) := by
  have hn := G.1
  unfold f_Shapes_triplesOnOneLine
  refine lp_up3 (f1 := fun s => f_Shapes_triplesOnOneLine_L1 o h s.1 s.2) (f2 := fun p s => f_Shapes_triplesOnOneLine_L2 o (nI p) h s.1 s.2) (f3 := fun p q s => f_Shapes_triplesOnOneLine_L3 o (nI p) (nI q) h s.1 s.2) n hn (fun p q r => decide (T3 X Y p q r = 0)) ?_ ?_ ?_ ?_ ?_ ?_
  · intro p q r a hpq hqr hr
    show f_Shapes_triplesOnOneLine_L3 o (nI p) (nI q) h (nI a) (nI r) = _
    unfold f_Shapes_triplesOnOneLine_L3
    have hq : q < n := by omega
    have hp : p < n := by omega
    have t := InR_100 (T3_in G hp hq hr)
    rw [C.1, if_neg (lt_no hr (by omega)), turnOf_ok C hn hp hq hr, nI_1, nI_1]
    simp only [Option.bind_some, e0 t]
    by_cases z : T3 X Y p q r = 0
    · simp [z]
    · simp [z]
  · intro p q a hq
    show f_Shapes_triplesOnOneLine_L3 o (nI p) (nI q) h a (nI n) = _
    unfold f_Shapes_triplesOnOneLine_L3
    rw [C.1, if_pos (ge_yes (Nat.le_refl _) (by omega)), nI_1]
  · intro p q a hq
    show f_Shapes_triplesOnOneLine_L2 o (nI p) h a (nI q) = _
    unfold f_Shapes_triplesOnOneLine_L2
    rw [C.1, if_neg (lt_no hq (by omega)), nI_1]
  · intro p a hp
    show f_Shapes_triplesOnOneLine_L2 o (nI p) h a (nI n) = _
    unfold f_Shapes_triplesOnOneLine_L2
    rw [C.1, if_pos (ge_yes (Nat.le_refl _) (by omega)), nI_1]
  · intro p a hp
    show f_Shapes_triplesOnOneLine_L1 o h a (nI p) = _
    unfold f_Shapes_triplesOnOneLine_L1
    rw [C.1, if_neg (lt_no hp (by omega)), nI_1]
  · intro a
    show f_Shapes_triplesOnOneLine_L1 o h a (nI n) = _
    unfold f_Shapes_triplesOnOneLine_L1
    rw [C.1, if_pos (ge_yes (Nat.le_refl _) (by omega))]
theorem R_onLine_ok (C : RR h n g X Y) (G : GC n g X Y) : f_R_onLine h = some (nI (S3 n (fun p q r => b1 (p < q ∧ q < r ∧ decide (T3 X Y p q r = 0) = true)))) := by
  have hn := G.1
  unfold f_R_onLine
  rw [S3_ud n (P := fun p q r => decide (T3 X Y p q r = 0)) (Q := fun p q r => decide (T3 X Y p q r = 0)) (fun a b c _ _ _ => by
    have := (T3_p (X := X) (Y := Y) a b c).2.2.2.2
    rw [decide_eq_decide]; omega)]
  refine lp_dn3 (f1 := fun s => f_R_onLine_L1 h s.1 s.2) (f2 := fun p s => f_R_onLine_L2 (nI p) h s.1 s.2) (f3 := fun p q s => f_R_onLine_L3 (nI p) (nI q) h s.1 s.2) n hn (fun p q r => decide (T3 X Y p q r = 0)) ?_ ?_ ?_ ?_ ?_ ?_
  · intro p q r a hr hq hp
    show f_R_onLine_L3 (nI p) (nI q) h (nI a) (nI r) = _
    unfold f_R_onLine_L3
    rw [if_neg (lt_no hr (by omega)), R_sideOf_ok C G hp (by omega : q < n) (by omega : r < n), nI_1, nI_1]
    simp only [Option.bind_some, e0 (sg_in _), sgn_0]
    by_cases z : T3 X Y p q r = 0
    · simp [z]
    · simp [z]
  · intro p q a hq hp
    show f_R_onLine_L3 (nI p) (nI q) h a (nI q) = _
    unfold f_R_onLine_L3
    rw [if_pos (ge_yes (Nat.le_refl _) (by omega)), nI_1]
  · intro p q a hq hp
    show f_R_onLine_L2 (nI p) h a (nI q) = _
    unfold f_R_onLine_L2
    rw [if_neg (lt_no hq (by omega))]
  · intro p a hp
    show f_R_onLine_L2 (nI p) h a (nI p) = _
    unfold f_R_onLine_L2
    rw [if_pos (ge_yes (Nat.le_refl _) (by omega)), nI_1]
  · intro p a hp
    show f_R_onLine_L1 h a (nI p) = _
    unfold f_R_onLine_L1 f_R_all
    rw [C.1, if_neg (lt_no hp (by omega))]
  · intro a
    show f_R_onLine_L1 h a (nI n) = _
    unfold f_R_onLine_L1 f_R_all
    rw [C.1, if_pos (ge_yes (Nat.le_refl _) (by omega))]
/-- none other inside -/
def emB (n : Nat) (X Y : Nat → Int) (p q r : Nat) : Bool := !ex (fun s => decide (s ≠ p ∧ s ≠ q ∧ s ≠ r) && insB X Y p q r (X s) (Y s)) n
theorem isEmpty_ok (C : CC h o n g X Y) (G : GC n g X Y) {p q r : Nat} (h1 : p < q) (h2 : q < r) (hr : r < n) (hz : T3 X Y p q r ≠ 0) : f_Shapes_isEmpty o (nI (2 ^ p ||| 2 ^ q ||| 2 ^ r)) h = some (if emB n X Y p q r then 1 else 0) := by
  have hn := G.1
  have B := G.2.2.1
  have t4 := three_lt (n := n) (p := p) (q := q) hn (by omega) (by omega) hr
  unfold f_Shapes_isEmpty
  have := lp_any (f := fun s => f_Shapes_isEmpty_L1 o (nI (2 ^ p ||| 2 ^ q ||| 2 ^ r)) h s) (fun k => nI k) (fun s => decide (s ≠ p ∧ s ≠ q ∧ s ≠ r) && insB X Y p q r (X s) (Y s)) n (r1 := 0) (r0 := 1) (fun s hs => by
    show f_Shapes_isEmpty_L1 o (nI (2 ^ p ||| 2 ^ q ||| 2 ^ r)) h (nI s) = _
    unfold f_Shapes_isEmpty_L1
    have b1 := B s hs
    rw [C.1, if_neg (lt_no hs (by omega)), bit_ok (by omega) (by omega), if_neg (gd (by omega) (by omega)), cla (by omega), (C.2.2 s hs).1, (C.2.2 s hs).2, covers_ok C G t4 (fun i => b3 i) h1 h2 hr (by omega) (by omega), cv_ins hz, nI_1, b3]
    simp only [Option.bind_some]
    by_cases z : s ≠ p ∧ s ≠ q ∧ s ≠ r
    · rw [decide_eq_true z, decide_eq_false (fun e => z.1 e.symm), decide_eq_false (fun e => z.2.1 e.symm), decide_eq_false (fun e => z.2.2 e.symm)]
      cases insB X Y p q r (X s) (Y s) <;> rfl
    · have : (decide (p = s) || decide (q = s) || decide (r = s)) = true := by
        simp only [Bool.or_eq_true, decide_eq_true_eq]
        omega
      rw [this, decide_eq_false z]
      rfl) (by
    show f_Shapes_isEmpty_L1 o (nI (2 ^ p ||| 2 ^ q ||| 2 ^ r)) h (nI n) = _
    unfold f_Shapes_isEmpty_L1
    rw [C.1, if_pos (ge_yes (Nat.le_refl _) (by omega))]) (by unfold lpN; omega)
  rw [show lp (fun s => f_Shapes_isEmpty_L1 o (nI (2 ^ p ||| 2 ^ q ||| 2 ^ r)) h s) lpN 0 = _ from this]
  unfold emB
  cases ex (fun s => decide (s ≠ p ∧ s ≠ q ∧ s ≠ r) && insB X Y p q r (X s) (Y s)) n <;> rfl
theorem R_isEmpty_ok (C : RR h n g X Y) (G : GC n g X Y) {p q r : Nat} (hp : p < n) (hq : q < n) (hr : r < n) : f_R_isEmpty (nI p) (nI q) (nI r) h = some (if emB n X Y p q r then 1 else 0) := by
  have hn := G.1
  have B := G.2.2.1
  unfold f_R_isEmpty
  have := lp_any (f := fun s => f_R_isEmpty_L1 (nI p) (nI q) (nI r) h s) (fun k => nI k) (fun s => decide (s ≠ p ∧ s ≠ q ∧ s ≠ r) && insB X Y p q r (X s) (Y s)) n (r1 := 0) (r0 := 1) (fun s hs => by
    show f_R_isEmpty_L1 (nI p) (nI q) (nI r) h (nI s) = _
    unfold f_R_isEmpty_L1 f_R_all
    have b1 := B s hs
    rw [C.1, if_neg (lt_no hs (by omega)), R_x_ok C hn hs, R_y_ok C hn hs, nI_1]
    simp only [Option.bind_some]
    rw [R_isInside_ok C G hp hq hr (by omega) (by omega)]
    simp only [Option.bind_some, nI_eqI (show s ≤ 100000 by omega) (show p ≤ 100000 by omega), nI_eqI (show s ≤ 100000 by omega) (show q ≤ 100000 by omega), nI_eqI (show s ≤ 100000 by omega) (show r ≤ 100000 by omega)]
    by_cases z1 : s = p
    · simp [z1]
    by_cases z2 : s = q
    · simp [z1, z2]
    by_cases z3 : s = r
    · simp [z1, z2, z3]
    rw [if_neg z1, if_neg z2, if_neg z3, decide_eq_true ⟨z1, z2, z3⟩]
    cases insB X Y p q r (X s) (Y s) <;> rfl) (by
    show f_R_isEmpty_L1 (nI p) (nI q) (nI r) h (nI n) = _
    unfold f_R_isEmpty_L1 f_R_all
    rw [C.1, if_pos (ge_yes (Nat.le_refl _) (by omega))]) (by unfold lpN; omega)
  rw [show lp (fun s => f_R_isEmpty_L1 (nI p) (nI q) (nI r) h s) lpN 0 = _ from this]
  unfold emB
  cases ex (fun s => decide (s ≠ p ∧ s ≠ q ∧ s ≠ r) && insB X Y p q r (X s) (Y s)) n <;> rfl
theorem em_rev (p q r : Nat) : emB n X Y p q r = emB n X Y r q p := by
  unfold emB
  congr 1
  refine ex_cong (fun s _ => ?_)
  rw [ins_rev]
  congr 1
  rw [decide_eq_decide]
  omega
theorem empty_ok (C : CC h o n g X Y) (G : GC n g X Y) : f_Shapes_emptyTriangles o h = some (nI (S3 n (fun p q r => b1 (p < q ∧ q < r ∧ (decide (T3 X Y p q r ≠ 0) && emB n X Y p q r) = true)))) := by
  have hn := G.1
  unfold f_Shapes_emptyTriangles
  refine lp_up3 (f1 := fun s => f_Shapes_emptyTriangles_L1 o h s.1 s.2) (f2 := fun p s => f_Shapes_emptyTriangles_L2 o (nI p) h s.1 s.2) (f3 := fun p q s => f_Shapes_emptyTriangles_L3 o (nI p) (nI q) h s.1 s.2) n hn (fun p q r => decide (T3 X Y p q r ≠ 0) && emB n X Y p q r) ?_ ?_ ?_ ?_ ?_ ?_
  · intro p q r a hpq hqr hr
    show f_Shapes_emptyTriangles_L3 o (nI p) (nI q) h (nI a) (nI r) = _
    unfold f_Shapes_emptyTriangles_L3
    have hq : q < n := by omega
    have hp : p < n := by omega
    have t := InR_100 (T3_in G hp hq hr)
    rw [C.1, if_neg (lt_no hr (by omega)), turnOf_ok C hn hp hq hr, jshl_ok p (by omega), jshl_ok q (by omega), jshl_ok r (by omega), nI_or, nI_or, nI_1, nI_1]
    simp only [Option.bind_some, e0 t]
    by_cases z : T3 X Y p q r = 0
    · simp [z]
    · rw [if_neg z, isEmpty_ok C G hpq hqr hr z]
      simp only [Option.bind_some]
      cases emB n X Y p q r <;> simp [z]
  · intro p q a hq
    show f_Shapes_emptyTriangles_L3 o (nI p) (nI q) h a (nI n) = _
    unfold f_Shapes_emptyTriangles_L3
    rw [C.1, if_pos (ge_yes (Nat.le_refl _) (by omega)), nI_1]
  · intro p q a hq
    show f_Shapes_emptyTriangles_L2 o (nI p) h a (nI q) = _
    unfold f_Shapes_emptyTriangles_L2
    rw [C.1, if_neg (lt_no hq (by omega)), nI_1]
  · intro p a hp
    show f_Shapes_emptyTriangles_L2 o (nI p) h a (nI n) = _
    unfold f_Shapes_emptyTriangles_L2
    rw [C.1, if_pos (ge_yes (Nat.le_refl _) (by omega)), nI_1]
  · intro p a hp
    show f_Shapes_emptyTriangles_L1 o h a (nI p) = _
    unfold f_Shapes_emptyTriangles_L1
    rw [C.1, if_neg (lt_no hp (by omega)), nI_1]
  · intro a
    show f_Shapes_emptyTriangles_L1 o h a (nI n) = _
    unfold f_Shapes_emptyTriangles_L1
    rw [C.1, if_pos (ge_yes (Nat.le_refl _) (by omega))]
theorem R_empty_ok (C : RR h n g X Y) (G : GC n g X Y) : f_R_emptyOnes h = some (nI (S3 n (fun p q r => b1 (p < q ∧ q < r ∧ (decide (T3 X Y p q r ≠ 0) && emB n X Y p q r) = true)))) := by
  have hn := G.1
  unfold f_R_emptyOnes
  rw [S3_ud n (P := fun p q r => decide (T3 X Y p q r ≠ 0) && emB n X Y p q r) (Q := fun p q r => decide (T3 X Y p q r ≠ 0) && emB n X Y p q r) (fun a b c _ _ _ => by
    have := (T3_p (X := X) (Y := Y) a b c).2.2.2.2
    rw [em_rev]
    congr 1
    rw [decide_eq_decide]; omega)]
  refine lp_dn3 (f1 := fun s => f_R_emptyOnes_L1 h s.1 s.2) (f2 := fun p s => f_R_emptyOnes_L2 (nI p) h s.1 s.2) (f3 := fun p q s => f_R_emptyOnes_L3 (nI p) (nI q) h s.1 s.2) n hn (fun p q r => decide (T3 X Y p q r ≠ 0) && emB n X Y p q r) ?_ ?_ ?_ ?_ ?_ ?_
  · intro p q r a hr hq hp
    show f_R_emptyOnes_L3 (nI p) (nI q) h (nI a) (nI r) = _
    unfold f_R_emptyOnes_L3
    rw [if_neg (lt_no hr (by omega)), R_sideOf_ok C G hp (by omega : q < n) (by omega : r < n), R_isEmpty_ok C G hp (by omega : q < n) (by omega : r < n), nI_1, nI_1]
    simp only [Option.bind_some, e0 (sg_in _), sgn_0]
    by_cases z : T3 X Y p q r = 0
    · simp [z]
    · rw [if_neg z]
      cases emB n X Y p q r <;> simp [z]
  · intro p q a hq hp
    show f_R_emptyOnes_L3 (nI p) (nI q) h a (nI q) = _
    unfold f_R_emptyOnes_L3
    rw [if_pos (ge_yes (Nat.le_refl _) (by omega)), nI_1]
  · intro p q a hq hp
    show f_R_emptyOnes_L2 (nI p) h a (nI q) = _
    unfold f_R_emptyOnes_L2
    rw [if_neg (lt_no hq (by omega))]
  · intro p a hp
    show f_R_emptyOnes_L2 (nI p) h a (nI p) = _
    unfold f_R_emptyOnes_L2
    rw [if_pos (ge_yes (Nat.le_refl _) (by omega)), nI_1]
  · intro p a hp
    show f_R_emptyOnes_L1 h a (nI p) = _
    unfold f_R_emptyOnes_L1 f_R_all
    rw [C.1, if_neg (lt_no hp (by omega))]
  · intro a
    show f_R_emptyOnes_L1 h a (nI n) = _
    unfold f_R_emptyOnes_L1 f_R_all
    rw [C.1, if_pos (ge_yes (Nat.le_refl _) (by omega))]
end T2
section T3s
variable {KC KD KE : pH → Cfg → Prop}
theorem sp_triangles (hKC : Kst KC) (hKD : Kst KD) (hKE : Kst KE) : Sp_triangles (JJ KC KD KE) := by
  intro k h _ H a0 a1
  refine rd_go hKC hKD hKE H fun c G C R => ?_
  unfold f_C_triangles f_R_triangles
  simp only [place_ok, in200]
  by_cases q : (-200 ≤ a0.toInt ∧ a0.toInt ≤ 200) ∧ (-200 ≤ a1.toInt ∧ a1.toInt ≤ 200)
  · have e1 := triAbout_ok C G (x := a0.toInt) (y := a1.toInt) (by omega) (by omega)
    have e2 := R_tri_ok R G (x := a0.toInt) (y := a1.toInt) (by omega) (by omega)
    rw [← iI_of, ← iI_of] at e1 e2
    rw [if_pos q, if_neg (by decide), e1, if_pos q.1, if_pos q.2, if_neg (by decide), if_neg (by decide), e2]
    exact ⟨_, rfl, rfl⟩
  · rw [if_neg q, if_pos rfl]
    refine ⟨_, rfl, ?_⟩
    by_cases q1 : -200 ≤ a0.toInt ∧ a0.toInt ≤ 200
    · rw [if_pos q1, if_neg (by decide), if_neg (fun x => q ⟨q1, x⟩), if_pos rfl]
    · rw [if_neg q1, if_pos rfl]
end T3s
