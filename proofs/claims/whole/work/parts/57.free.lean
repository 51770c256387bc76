/-! where a point may be; the reference's cloud changed -/
theorem in_ok (x : Int32) {lo hi : Int} (hl : InR lo) (hh : InR hi) : f_R_in x (iI lo) (iI hi) = if lo ≤ x.toInt ∧ x.toInt ≤ hi then 1 else 0 := by
  unfold f_R_in
  rw [iI_of x]
  simp only [iI_lt (InR_of x) hl, iI_lt hh (InR_of x), iI_toInt (InR_of x)]
  by_cases h1 : x.toInt < lo
  · rw [if_pos h1, if_neg (by omega)]
  · rw [if_neg h1]
    by_cases h2 : hi < x.toInt
    · rw [if_pos h2, if_neg (by omega)]
    · rw [if_neg h2, if_pos (by omega)]
theorem reach_ok (x : Int32) : f_C_isWithinReach x = if -50 ≤ x.toInt ∧ x.toInt ≤ 50 then 1 else 0 := by
  unfold f_C_isWithinReach
  rw [iI_of x, show (-50 : Int32) = iI (-50) from rfl, show (50 : Int32) = iI 50 from rfl]
  simp only [iI_lt (InR_of x) (show InR (-50) by unfold InR; omega), iI_lt (show InR 50 by unfold InR; omega) (InR_of x), iI_toInt (InR_of x)]
  by_cases h1 : x.toInt < -50
  · rw [if_pos h1, if_neg (by omega)]
  · rw [if_neg h1]
    by_cases h2 : 50 < x.toInt
    · rw [if_pos h2, if_neg (by omega)]
    · rw [if_neg h2, if_pos (by omega)]
def isAt (c : Cfg) (x y : Int) (i : Nat) : Bool := decide (c.2.2.1 i = x ∧ c.2.2.2 i = y)
def tkn (c : Cfg) (x y : Int) : Bool := ex (isAt c x y) c.1
def frB (c : Cfg) (x y : Int) : Bool := decide (-50 ≤ x ∧ x ≤ 50) && decide (-50 ≤ y ∧ y ≤ 50) && !(tkn c x y)
section FR
variable {h : pH} {o : Nat} {c : Cfg}
theorem pt_in (G : GCc c) {i : Nat} (hi : i < c.1) : InR (c.2.2.1 i) ∧ InR (c.2.2.2 i) := by
  have := G.2.2.1 i hi
  unfold InR
  omega
theorem isTaken_ok (C : CCc h o c) (G : GCc c) (x y : Int32) : f_Cloud_isTaken o x y h = some (if tkn c x.toInt y.toInt then 1 else 0) := by
  have hn := G.1
  unfold f_Cloud_isTaken tkn
  refine lp_any (f := fun s => f_Cloud_isTaken_L1 o x y h s) (fun k => nI k) (isAt c x.toInt y.toInt) c.1 (fun k hk => ?_) ?_ (by unfold lpN; omega)
  · show f_Cloud_isTaken_L1 o x y h (nI k) = _
    unfold f_Cloud_isTaken_L1
    obtain ⟨c1, c2, c3⟩ := C
    have p := pt_in G hk
    have ex : (hI h (rf o 0) k = x) ↔ c.2.2.1 k = x.toInt := by
      rw [(c3 k hk).1]
      constructor
      · intro e; rw [← e, iI_toInt p.1]
      · intro e; rw [e, ← iI_of]
    have ey : (hI h (rf o 1) k = y) ↔ c.2.2.2 k = y.toInt := by
      rw [(c3 k hk).2]
      constructor
      · intro e; rw [← e, iI_toInt p.2]
      · intro e; rw [e, ← iI_of]
    rw [c1, if_neg (lt_no hk (by omega)), if_neg (gd (by omega) (by omega)), cla (by omega), nI_1]
    simp only [ex, ey]
    unfold isAt
    by_cases e1 : c.2.2.1 k = x.toInt
    · by_cases e2 : c.2.2.2 k = y.toInt
      · simp [e1, e2]
      · simp [e1, e2]
    · simp [e1]
  · show f_Cloud_isTaken_L1 o x y h (nI c.1) = _
    unfold f_Cloud_isTaken_L1
    obtain ⟨c1, c2, c3⟩ := C
    rw [c1, if_pos (ge_yes (Nat.le_refl _) (by omega))]
theorem isFree_ok (C : CCc h o c) (G : GCc c) (x y : Int32) : f_Cloud_isFree o x y h = some (if frB c x.toInt y.toInt then 1 else 0) := by
  unfold f_Cloud_isFree frB
  rw [reach_ok, reach_ok, isTaken_ok C G]
  by_cases h1 : -50 ≤ x.toInt ∧ x.toInt ≤ 50
  · by_cases h2 : -50 ≤ y.toInt ∧ y.toInt ≤ 50
    · cases ht : tkn c x.toInt y.toInt <;> simp [h1, h2]
    · simp [h1, h2]
  · simp [h1]
theorem pointAt_ok (C : RRc h c) (G : GCc c) (x y : Int32) : (∃ j, j < c.1 ∧ isAt c x.toInt y.toInt j = true ∧ f_R_pointAt x y h = some (nI j)) ∨ (tkn c x.toInt y.toInt = false ∧ f_R_pointAt x y h = some (-1)) := by
  have hn := G.1
  have key : ∀ k, k < c.1 → f_R_pointAt_L1 x y h (nI k) = some (if isAt c x.toInt y.toInt k then .inr (nI k) else .inl (nI (k + 1))) := by
    intro k hk
    unfold f_R_pointAt_L1 f_R_all
    have p := pt_in G hk
    have ex : (iI (c.2.2.1 k) = x) ↔ c.2.2.1 k = x.toInt := by
      constructor
      · intro e; rw [← e, iI_toInt p.1]
      · intro e; rw [e, ← iI_of]
    have ey : (iI (c.2.2.2 k) = y) ↔ c.2.2.2 k = y.toInt := by
      constructor
      · intro e; rw [← e, iI_toInt p.2]
      · intro e; rw [e, ← iI_of]
    rw [C.1, if_neg (lt_no hk (by omega)), R_x_ok C hn hk, R_y_ok C hn hk, nI_1]
    simp only [Option.bind_some, ex, ey]
    unfold isAt
    by_cases e1 : c.2.2.1 k = x.toInt
    · by_cases e2 : c.2.2.2 k = y.toInt
      · simp [e1, e2]
      · simp [e1, e2]
    · simp [e1]
  have kn : f_R_pointAt_L1 x y h (nI c.1) = some (.inr (-1)) := by
    unfold f_R_pointAt_L1 f_R_all
    rw [C.1, if_pos (ge_yes (Nat.le_refl _) (by omega))]
  unfold f_R_pointAt
  obtain ⟨r, e1, e2⟩ := lp_find (f := fun s => f_R_pointAt_L1 x y h s) (fun k => nI k) (isAt c x.toInt y.toInt) c.1 (fun r => (∃ j, j < c.1 ∧ isAt c x.toInt y.toInt j = true ∧ r = nI j) ∨ (tkn c x.toInt y.toInt = false ∧ r = -1)) (fun k hk hp => by
    show f_R_pointAt_L1 x y h (nI k) = _
    rw [key k hk, hp]; rfl) (fun k hk hp _ => ⟨nI k, by show f_R_pointAt_L1 x y h (nI k) = _; rw [key k hk, hp]; rfl, Or.inl ⟨k, hk, hp, rfl⟩⟩) (fun hj => ⟨-1, kn, Or.inr ⟨ex_no.mpr hj, rfl⟩⟩) (by unfold lpN; omega)
  rcases e2 with ⟨j, a1, a2, rfl⟩ | ⟨a1, rfl⟩
  · exact Or.inl ⟨j, a1, a2, e1⟩
  · exact Or.inr ⟨a1, e1⟩
theorem canBe_ok (C : RRc h c) (G : GCc c) (x y : Int32) : f_R_canBe x y h = some (if frB c x.toInt y.toInt then 1 else 0) := by
  have hn := G.1
  unfold f_R_canBe frB
  rw [show (-50 : Int32) = iI (-50) from rfl, show (50 : Int32) = iI 50 from rfl, in_ok x (by unfold InR; omega) (by unfold InR; omega), in_ok y (by unfold InR; omega) (by unfold InR; omega)]
  by_cases h1 : -50 ≤ x.toInt ∧ x.toInt ≤ 50
  · by_cases h2 : -50 ≤ y.toInt ∧ y.toInt ≤ 50
    · rcases pointAt_ok C G x y with ⟨j, a1, a2, a3⟩ | ⟨a1, a3⟩
      · have ht : tkn c x.toInt y.toInt = true := ex_iff.mpr ⟨j, a1, a2⟩
        have : (0 : Int32) ≤ nI j := nI_le (a := 0) (by omega) (by omega)
        rw [a3]
        simp [h1, h2, ht, this]
      · rw [a3]
        simp [h1, h2, a1]
    · simp [h1, h2]
  · simp [h1]
theorem isPoint_ok (C : RRc h c) (hn : c.1 ≤ 12) (x : Int32) : f_R_isPoint x h = if 0 ≤ x.toInt ∧ x.toInt < c.1 then 1 else 0 := by
  unfold f_R_isPoint f_R_all
  rw [C.1, nI_iI, show (0 : Int32) = iI 0 from rfl, show (1 : Int32) = iI 1 from rfl, iI_sub, in_ok x (by unfold InR; omega) (by unfold InR; omega)]
  by_cases h1 : 0 ≤ x.toInt ∧ x.toInt < c.1
  · rw [if_pos h1, if_pos (by omega)]; rfl
  · rw [if_neg h1, if_neg (by omega)]; rfl
theorem pt_nat {x : Int32} (h0 : 0 ≤ x.toInt) {n : Nat} (hx : x.toInt < n) : ∃ p : Nat, p < n ∧ x = nI p := by
  refine ⟨x.toInt.toNat, by omega, ?_⟩
  rw [nI_iI, Int.toNat_of_nonneg h0]
  exact iI_of x
/-- nothing but 'now' has changed -/
def Fn (h h' : pH) : Prop := (∀ o k, o ≠ 87 → hI h' o k = hI h o k) ∧ h'.2 = h.2
theorem Fn.rfl' : Fn h h := ⟨fun _ _ _ => rfl, rfl⟩
theorem Fn.trans {h' h'' : pH} (A : Fn h h') (B : Fn h' h'') : Fn h h'' := ⟨fun o k x => (B.1 o k x).trans (A.1 o k x), B.2.trans A.2⟩
theorem Fn.set {h' : pH} (A : Fn h h') {k : Nat} {v : Int32} : Fn h (sI h' 87 k v) := ⟨fun o k' x => by rw [hI_n (by omega)]; exact A.1 o k' x, by rw [sI_2]; exact A.2⟩
theorem lays3_ok {p : Nat} (hp : p < 12) (x y : Int32) : f_R_lays3 (nI p) x y h = some (sI (sI h 87 (2 + 2 * p) x) 87 (3 + 2 * p) y) := by
  unfold f_R_lays3
  rw [ix2, nI_1, if_neg (gd (by omega) (by omega)), if_neg (gd (by omega) (by omega)), cla (by omega), cla (by omega), show 2 + 2 * p + 1 = 3 + 2 * p by omega]
theorem R_put (C : RRc h c) {p : Nat} (hp : p < 12) (x y : Int) : RRc (sI (sI h 87 (2 + 2 * p) (iI x)) 87 (3 + 2 * p) (iI y)) (movC c p x y) := by
  obtain ⟨c1, c2, c3⟩ := C
  refine ⟨?_, ?_, fun i hi => ?_⟩
  · rw [hI_n (by omega), hI_n (by omega)]; exact c1
  · rw [hI_n (by omega), hI_n (by omega)]; exact c2
  · have hi' : i < c.1 := hi
    by_cases e : i = p
    · subst e
      constructor
      · rw [hI_n (by omega), hI_s]; simp [movC, updF]
      · rw [hI_s]; simp [movC, updF]
    · have := c3 i hi'
      constructor
      · rw [hI_n (by omega), hI_n (by omega)]; simp [movC, updF, e]; exact this.1
      · rw [hI_n (by omega), hI_n (by omega)]; simp [movC, updF, e]; exact this.2
theorem R_addp (C : RRc h c) (x y : Int) : RRc (sI (sI (sI h 87 (2 + 2 * c.1) (iI x)) 87 (3 + 2 * c.1) (iI y)) 87 0 (nI (c.1 + 1))) (addC c x y) := by
  obtain ⟨c1, c2, c3⟩ := C
  refine ⟨?_, ?_, fun i hi => ?_⟩
  · rw [hI_s]; rfl
  · rw [hI_n (by omega), hI_n (by omega), hI_n (by omega)]; exact c2
  · have hi' : i < c.1 + 1 := hi
    by_cases e : i = c.1
    · subst e
      constructor
      · rw [hI_n (by omega), hI_n (by omega), hI_s]; simp [addC, updF]
      · rw [hI_n (by omega), hI_s]; simp [addC, updF]
    · have := c3 i (by omega)
      constructor
      · rw [hI_n (by omega), hI_n (by omega), hI_n (by omega)]; simp [addC, updF, e]; exact this.1
      · rw [hI_n (by omega), hI_n (by omega), hI_n (by omega)]; simp [addC, updF, e]; exact this.2
end FR
