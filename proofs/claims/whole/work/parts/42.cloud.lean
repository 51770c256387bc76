/-! the points, as the class and as the reference hold them -/
def GC (n g : Nat) (X Y : Nat → Int) : Prop := n ≤ 12 ∧ (1 ≤ g ∧ g ≤ 20) ∧ (∀ i, i < n → -50 ≤ X i ∧ X i ≤ 50 ∧ -50 ≤ Y i ∧ Y i ≤ 50) ∧ ∀ i j, i < n → j < n → X i = X j → Y i = Y j → i = j
def CC (h : pH) (o n g : Nat) (X Y : Nat → Int) : Prop := hI h o 2 = nI n ∧ hI h o 3 = nI g ∧ ∀ i, i < n → hI h (rf o 0) i = iI (X i) ∧ hI h (rf o 1) i = iI (Y i)
def RR (h : pH) (n g : Nat) (X Y : Nat → Int) : Prop := hI h 87 0 = nI n ∧ hI h 87 1 = nI g ∧ ∀ i, i < n → hI h 87 (2 + 2 * i) = iI (X i) ∧ hI h 87 (3 + 2 * i) = iI (Y i)
/-- TURN -/
def TR (X Y : Nat → Int) (p q : Nat) (x y : Int) : Int := (X q - X p) * (y - Y p) - (Y q - Y p) * (x - X p)
def T3 (X Y : Nat → Int) (p q r : Nat) : Int := TR X Y p q (X r) (Y r)
theorem mul_b {a b : Int} {A B : Int} (ha : -A ≤ a ∧ a ≤ A) (hb : -B ≤ b ∧ b ≤ B) : -(A * B) ≤ a * b ∧ a * b ≤ A * B := by
  have hA : 0 ≤ A := by omega
  have hB : 0 ≤ B := by omega
  have h1 : 0 ≤ (A - a) * (B + b) := Int.mul_nonneg (by omega) (by omega)
  have h2 : 0 ≤ (A + a) * (B - b) := Int.mul_nonneg (by omega) (by omega)
  have h3 : 0 ≤ (A - a) * (B - b) := Int.mul_nonneg (by omega) (by omega)
  have h4 : 0 ≤ (A + a) * (B + b) := Int.mul_nonneg (by omega) (by omega)
  constructor <;> grind
section PT
variable {n g : Nat} {X Y : Nat → Int} {h : pH} {o : Nat}
theorem TR_in (G : GC n g X Y) {p q : Nat} (hp : p < n) (hq : q < n) {x y : Int} (hx : -250 ≤ x ∧ x ≤ 250) (hy : -250 ≤ y ∧ y ≤ 250) : -100000 ≤ TR X Y p q x y ∧ TR X Y p q x y ≤ 100000 := by
  obtain ⟨-, -, hb, -⟩ := G
  have h1 := hb p hp
  have h2 := hb q hq
  unfold TR
  have a := mul_b (a := X q - X p) (b := y - Y p) (A := 100) (B := 300) (by omega) (by omega)
  have b := mul_b (a := Y q - Y p) (b := x - X p) (A := 100) (B := 300) (by omega) (by omega)
  omega
theorem T3_in (G : GC n g X Y) {p q r : Nat} (hp : p < n) (hq : q < n) (hr : r < n) : -100000 ≤ T3 X Y p q r ∧ T3 X Y p q r ≤ 100000 := by
  have h3 := G.2.2.1 r hr
  exact TR_in G hp hq (by omega) (by omega)
theorem InR_100 {t : Int} (h : -100000 ≤ t ∧ t ≤ 100000) : InR t := by unfold InR; omega
/-! the class -/
theorem has_in (C : CC h o n g X Y) (hn : n ≤ 12) (x : Int32) : f_Cloud_has o x h = if 0 ≤ x.toInt ∧ x.toInt < n then 1 else 0 := by
  unfold f_Cloud_has
  have e0 : (0 : Int32) = iI 0 := rfl
  rw [C.1, nI_iI, e0]
  have h0 : InR 0 := by unfold InR; omega
  have hN : InR (n : Int) := by unfold InR; omega
  rw [iI_of x]
  simp only [iI_lt (InR_of x) h0, iI_le hN (InR_of x), iI_toInt (InR_of x)]
  by_cases h1 : x.toInt < 0
  · rw [if_pos h1, if_neg (by omega)]
  · rw [if_neg h1]
    by_cases h2 : (n : Int) ≤ x.toInt
    · rw [if_pos h2, if_neg (by omega)]
    · rw [if_neg h2, if_pos (by omega)]
theorem turnAt_ok (C : CC h o n g X Y) (hn : n ≤ 12) {p q : Nat} (hp : p < n) (hq : q < n) (x y : Int) : f_Cloud_turnAt o (nI p) (nI q) (iI x) (iI y) h = some (iI (TR X Y p q x y)) := by
  unfold f_Cloud_turnAt
  rw [if_neg (gd (by omega) (by omega)), if_neg (gd (by omega) (by omega)), cla (by omega), cla (by omega), (C.2.2 q hq).1, (C.2.2 q hq).2, (C.2.2 p hp).1, (C.2.2 p hp).2]
  simp only [iI_sub, iI_mul]
  rfl
theorem turnOf_ok (C : CC h o n g X Y) (hn : n ≤ 12) {p q r : Nat} (hp : p < n) (hq : q < n) (hr : r < n) : f_Cloud_turnOf o (nI p) (nI q) (nI r) h = some (iI (T3 X Y p q r)) := by
  unfold f_Cloud_turnOf
  rw [if_neg (gd (by omega) (by omega)), cla (by omega), (C.2.2 r hr).1, (C.2.2 r hr).2, turnAt_ok C hn hp hq]
  rfl
/-- who is on a side of two -/
def sdP (X Y : Nat → Int) (p q : Nat) (sd : Int) (r : Nat) : Bool := decide (r ≠ p ∧ r ≠ q ∧ sgn (T3 X Y p q r) = sd)
def sdS (n : Nat) (X Y : Nat → Int) (p q : Nat) (sd : Int) : Nat := bs (sdP X Y p q sd) n
theorem sideBits_ok (C : CC h o n g X Y) (G : GC n g X Y) {p q : Nat} (hp : p < n) (hq : q < n) {sd : Int} (hsd : -1 ≤ sd ∧ sd ≤ 1) : f_Cloud_sideBits o (nI p) (nI q) (iI sd) h = some (nI (sdS n X Y p q sd)) := by
  have hn := G.1
  unfold f_Cloud_sideBits
  refine lp_bs (f := fun s => f_Cloud_sideBits_L1 o (nI p) (nI q) (iI sd) h s.1 s.2) (sdP X Y p q sd) (fun a => a) hn (fun k hk a => ?_) (fun a => ?_)
  · show f_Cloud_sideBits_L1 o (nI p) (nI q) (iI sd) h a (nI k) = _
    unfold f_Cloud_sideBits_L1
    rw [C.1, if_neg (lt_no hk (by omega))]
    by_cases e1 : k = p
    · subst e1; rw [if_pos rfl]; simp [sdP]
    rw [if_neg (by rw [nI_eqI (by omega) (by omega)]; exact e1)]
    by_cases e2 : k = q
    · subst e2; rw [if_pos rfl]; simp [sdP]
    rw [if_neg (by rw [nI_eqI (by omega) (by omega)]; exact e2), if_neg (gd (by omega) (by omega)), cla (by omega), (C.2.2 k hk).1, (C.2.2 k hk).2, turnAt_ok C hn hp hq]
    show (if f_C_signOf (iI (T3 X Y p q k)) = iI sd then _ else _) = _
    have hs := sgn_in (T3 X Y p q k)
    rw [signOf_ok (InR_100 (T3_in G hp hq hk))]
    simp only [iI_eq (a := sgn (T3 X Y p q k)) (b := sd) (by unfold InR; omega) (by unfold InR; omega)]
    by_cases e3 : sgn (T3 X Y p q k) = sd
    · rw [if_pos e3, if_pos (by simp [sdP, e1, e2, e3])]
    · rw [if_neg e3, if_neg (by simp [sdP, e3])]
  · show f_Cloud_sideBits_L1 o (nI p) (nI q) (iI sd) h a (nI n) = _
    unfold f_Cloud_sideBits_L1
    rw [C.1, if_pos (ge_yes (Nat.le_refl n) (by omega))]
/-! the reference -/
theorem R_x_ok (C : RR h n g X Y) (hn : n ≤ 12) {p : Nat} (hp : p < n) : f_R_x (nI p) h = some (iI (X p)) := by
  unfold f_R_x
  have e : (2 : Int32) + 2 * nI p = nI (2 + 2 * p) := by
    rw [show (2 : Int32) = nI 2 from rfl, pk_mul, nI_add]
  rw [e, if_neg (gd (by omega) (by omega)), cla (by omega), (C.2.2 p hp).1]
theorem R_y_ok (C : RR h n g X Y) (hn : n ≤ 12) {p : Nat} (hp : p < n) : f_R_y (nI p) h = some (iI (Y p)) := by
  unfold f_R_y
  have e : (2 : Int32) + 2 * nI p + 1 = nI (3 + 2 * p) := by
    rw [show (2 : Int32) = nI 2 from rfl, pk_mul, nI_add, nI_1]
    congr 1
    omega
  rw [e, if_neg (gd (by omega) (by omega)), cla (by omega), (C.2.2 p hp).2]
theorem R_turnOf_ok (C : RR h n g X Y) (hn : n ≤ 12) {p q : Nat} (hp : p < n) (hq : q < n) (x y : Int) : f_R_turnOf (nI p) (nI q) (iI x) (iI y) h = some (iI (TR X Y p q x y)) := by
  unfold f_R_turnOf
  simp only [R_x_ok C hn hp, R_x_ok C hn hq, R_y_ok C hn hp, R_y_ok C hn hq, Option.bind_some, iI_sub, iI_mul]
  rfl
theorem sign_if {t : Int} (h : InR t) {α : Type} (a b c : α) : (if iI t ≤ 0 then (if 0 ≤ iI t then a else b) else c) = if sgn t = 0 then a else if sgn t = -1 then b else c := by
  have h0 : InR 0 := by unfold InR; omega
  have e0 : (0 : Int32) = iI 0 := rfl
  rw [e0]
  simp only [iI_le h h0, iI_le h0 h]
  by_cases h1 : t ≤ 0
  · rw [if_pos h1]
    by_cases h2 : 0 ≤ t
    · rw [if_pos h2, if_pos (sgn_0.mpr (by omega))]
    · rw [if_neg h2, if_neg (by rw [sgn_0]; omega), if_pos (sgn_m.mpr (by omega))]
  · rw [if_neg h1, if_neg (by rw [sgn_0]; omega), if_neg (by rw [sgn_m]; omega)]
theorem R_sideOf_ok (C : RR h n g X Y) (G : GC n g X Y) {p q r : Nat} (hp : p < n) (hq : q < n) (hr : r < n) : f_R_sideOf (nI p) (nI q) (nI r) h = some (iI (sgn (T3 X Y p q r))) := by
  have hn := G.1
  unfold f_R_sideOf
  simp only [R_x_ok C hn hr, R_y_ok C hn hr, Option.bind_some, R_turnOf_ok C hn hp hq]
  show (if iI (T3 X Y p q r) ≤ 0 then (if 0 ≤ iI (T3 X Y p q r) then some 0 else some (-1)) else some 1) = _
  rw [sign_if (InR_100 (T3_in G hp hq hr))]
  rcases sgn_in (T3 X Y p q r) with e | e | e <;> rw [e] <;> rfl
theorem R_onSide_ok (C : RR h n g X Y) (G : GC n g X Y) {p q s : Nat} (hp : p < n) (hq : q < n) (hs : s < 2 ^ 31) {sd : Int} (hsd : -1 ≤ sd ∧ sd ≤ 1) : f_R_onSide (nI p) (nI q) (iI sd) (nI s) h = some (nI (sdS n X Y p q sd &&& s)) := by
  have hn := G.1
  unfold f_R_onSide
  have key : bs (fun r => sdP X Y p q sd r && s.testBit r) n = sdS n X Y p q sd &&& s := by
    apply set_eq (bs_lt _ n) (Nat.lt_of_le_of_lt Nat.and_le_left (bs_lt _ n))
    intro i hi
    show _ = (bs (sdP X Y p q sd) n &&& s).testBit i
    rw [bs_bit, Nat.testBit_and, bs_bit]
    simp [hi]
  rw [← key]
  refine lp_bs (f := fun t => f_R_onSide_L1 (nI p) (nI q) (iI sd) (nI s) h t.1 t.2) (fun r => sdP X Y p q sd r && s.testBit r) (fun a => a) hn (fun k hk a => ?_) (fun a => ?_)
  · show f_R_onSide_L1 (nI p) (nI q) (iI sd) (nI s) h a (nI k) = _
    unfold f_R_onSide_L1 f_R_all
    rw [C.1, if_neg (lt_no hk (by omega))]
    by_cases e1 : k = p
    · subst e1; rw [if_pos rfl]; simp [sdP]
    rw [if_neg (by rw [nI_eqI (by omega) (by omega)]; exact e1)]
    by_cases e2 : k = q
    · subst e2; rw [if_pos rfl]; simp [sdP]
    rw [if_neg (by rw [nI_eqI (by omega) (by omega)]; exact e2), has_ok hs (by omega)]
    cases e4 : s.testBit k with
    | false => simp [e4]
    | true =>
      rw [if_pos rfl, if_neg (by decide), R_sideOf_ok C G hp hq hk]
      show (if iI (sgn (T3 X Y p q k)) = iI sd then _ else _) = _
      have hs := sgn_in (T3 X Y p q k)
      simp only [iI_eq (a := sgn (T3 X Y p q k)) (b := sd) (by unfold InR; omega) (by unfold InR; omega)]
      by_cases e3 : sgn (T3 X Y p q k) = sd
      · rw [if_pos e3, if_pos (by simp [sdP, e1, e2, e3])]
      · rw [if_neg e3, if_neg (by simp [sdP, e3])]
  · show f_R_onSide_L1 (nI p) (nI q) (iI sd) (nI s) h a (nI n) = _
    unfold f_R_onSide_L1 f_R_all
    rw [C.1, if_pos (ge_yes (Nat.le_refl n) (by omega))]
end PT
