/-! the depth of a place -/
/-- a loop over the places of the grid, row by row -/
theorem lp_grid {σ ρ : Type} {f1 : σ → Option (σ ⊕ ρ)} (f2 : Nat → σ → Option (σ ⊕ (σ ⊕ ρ))) (w : Nat) (I1 : Nat → σ → Prop) (I2 : Nat → Nat → σ → Prop) (Q : ρ → Prop) (hw : w ≤ 41)
    (ho : ∀ j s, j < w → I1 j s → ∃ s', f1 s = lp (f2 j) lpN s' ∧ I2 j 0 s')
    (hox : ∀ s, I1 w s → ∃ r, f1 s = some (.inr r) ∧ Q r)
    (hi : ∀ j i s, j < w → i < w → I2 j i s → ∃ s', f2 j s = some (.inl s') ∧ I2 j (i + 1) s')
    (hix : ∀ j s, j < w → I2 j w s → ∃ s', f2 j s = some (.inr (.inl s')) ∧ I1 (j + 1) s') {s : σ} (h0 : I1 0 s) : ∃ r, lp f1 lpN s = some r ∧ Q r := by
  refine lp_inv (f := f1) I1 Q w (fun j s hj hI => ?_) hox h0 (by unfold lpN; omega)
  obtain ⟨s', e1, i2⟩ := ho j s hj hI
  obtain ⟨r, e2, s2, rfl, q⟩ := lp_inv (f := f2 j) (I2 j) (fun r => ∃ s', r = .inl s' ∧ I1 (j + 1) s') w (fun i s hi' hI => hi j i s hj hi' hI) (fun s hI => by
    obtain ⟨s', e, q⟩ := hix j s hj hI
    exact ⟨_, e, s', rfl, q⟩) (n := lpN) i2 (by unfold lpN; omega)
  exact ⟨s2, by rw [e1, e2], q⟩
theorem min_ok {a b : Nat} (ha : a ≤ 100000) (hb : b ≤ 100000) : f_R_lesser (nI a) (nI b) = nI (min a b) := by
  unfold f_R_lesser
  by_cases e : b ≤ a
  · rw [if_pos (nI_le e (by omega)), Nat.min_eq_right e]
  · rw [if_neg (nI_ge (by omega) (by omega)), Nat.min_eq_left (by omega)]
theorem jmax_ok {a b : Nat} (ha : a ≤ 100000) (hb : b ≤ 100000) : jmax (nI a) (nI b) = nI (max a b) := by
  unfold jmax
  simp only [nI_ltI (show a < 2 ^ 31 by omega) (show b < 2 ^ 31 by omega)]
  by_cases e : a < b
  · rw [if_pos e, Nat.max_eq_right (by omega)]
  · rw [if_neg e, Nat.max_eq_left (by omega)]
section DP
variable {n g : Nat} {X Y : Nat → Int} {h : pH} {o : Nat}
def dpL (U V : Nat → Int) (p q : Nat) : Bool := decide (0 < cr U V p q)
def dpR (U V : Nat → Int) (p q : Nat) : Bool := decide (cr U V p q < 0)
def dpF (U V : Nat → Int) (p q : Nat) : Bool := decide (cr U V p q = 0 ∧ 0 < dt U V p q)
def dpB (U V : Nat → Int) (p q : Nat) : Bool := decide (cr U V p q = 0 ∧ dt U V p q < 0)
def few (n : Nat) (U V : Nat → Int) (p : Nat) : Nat := min (ctn (dpL U V p) n) (ctn (dpR U V p) n) + min (ctn (dpF U V p) n) (ctn (dpB U V p) n)
/-- the four ways of a step -/
theorem four_if {a b : Int} (ha : InR a) (hb : InR b) {α : Type} (l r f k z : α) : (if iI a ≤ 0 then (if 0 ≤ iI a then (if iI b ≤ 0 then (if 0 ≤ iI b then z else k) else f) else r) else l) = if 0 < a then l else if a < 0 then r else if 0 < b then f else if b < 0 then k else z := by
  simp only [le0 ha, ge0 ha, le0 hb, ge0 hb]
  by_cases a1 : 0 < a
  · rw [if_neg (by omega), if_pos a1]
  · rw [if_pos (by omega), if_neg a1]
    by_cases a2 : a < 0
    · rw [if_neg (by omega), if_pos a2]
    · rw [if_pos (by omega), if_neg a2]
      by_cases b1 : 0 < b
      · rw [if_neg (by omega), if_pos b1]
      · rw [if_pos (by omega), if_neg b1]
        by_cases b2 : b < 0
        · rw [if_neg (by omega), if_pos b2]
        · rw [if_pos (by omega), if_neg b2]
/-- the counts after one more -/
theorem four_ct (U V : Nat → Int) (p k : Nat) : (nI (ctn (dpL U V p) (k + 1)), nI (ctn (dpR U V p) (k + 1)), nI (ctn (dpF U V p) (k + 1)), nI (ctn (dpB U V p) (k + 1)), nI (k + 1)) = if 0 < cr U V p k then (nI (ctn (dpL U V p) k) + 1, nI (ctn (dpR U V p) k), nI (ctn (dpF U V p) k), nI (ctn (dpB U V p) k), nI (k + 1)) else if cr U V p k < 0 then (nI (ctn (dpL U V p) k), nI (ctn (dpR U V p) k) + 1, nI (ctn (dpF U V p) k), nI (ctn (dpB U V p) k), nI (k + 1)) else if 0 < dt U V p k then (nI (ctn (dpL U V p) k), nI (ctn (dpR U V p) k), nI (ctn (dpF U V p) k) + 1, nI (ctn (dpB U V p) k), nI (k + 1)) else if dt U V p k < 0 then (nI (ctn (dpL U V p) k), nI (ctn (dpR U V p) k), nI (ctn (dpF U V p) k), nI (ctn (dpB U V p) k) + 1, nI (k + 1)) else (nI (ctn (dpL U V p) k), nI (ctn (dpR U V p) k), nI (ctn (dpF U V p) k), nI (ctn (dpB U V p) k), nI (k + 1)) := by
  simp only [ctn, nI_1]
  by_cases a1 : 0 < cr U V p k
  · have z1 : ¬ cr U V p k < 0 := by omega
    have z2 : ¬ cr U V p k = 0 := by omega
    simp [dpL, dpR, dpF, dpB, a1, z1, z2]
  · by_cases a2 : cr U V p k < 0
    · have z2 : ¬ cr U V p k = 0 := by omega
      simp [dpL, dpR, dpF, dpB, a1, a2, z2]
    · have z2 : cr U V p k = 0 := by omega
      by_cases b1 : 0 < dt U V p k
      · have z3 : ¬ dt U V p k < 0 := by omega
        simp [dpL, dpR, dpF, dpB, z2, b1, z3]
      · by_cases b2 : dt U V p k < 0
        · simp [dpL, dpR, dpF, dpB, z2, b1, b2]
        · simp [dpL, dpR, dpF, dpB, z2, b1, b2]
theorem uv_in {U V : Nat → Int} (hU : ∀ q, q < n → -250 ≤ U q ∧ U q ≤ 250 ∧ -250 ≤ V q ∧ V q ≤ 250) {p q : Nat} (hp : p < n) (hq : q < n) : InR (cr U V p q) ∧ InR (dt U V p q) := by
  have a := hU p hp
  have b := hU q hq
  have m1 := mul_b (a := U p) (b := V q) (A := 250) (B := 250) (by omega) (by omega)
  have m2 := mul_b (a := V p) (b := U q) (A := 250) (B := 250) (by omega) (by omega)
  have m3 := mul_b (a := U p) (b := U q) (A := 250) (B := 250) (by omega) (by omega)
  have m4 := mul_b (a := V p) (b := V q) (A := 250) (B := 250) (by omega) (by omega)
  unfold cr dt InR
  omega
theorem fewest_ok {U V : Nat → Int} (hn : n ≤ 12) (hU : ∀ q, q < n → -250 ≤ U q ∧ U q ≤ 250 ∧ -250 ≤ V q ∧ V q ≤ 250) (C : ∀ q, q < n → hI h 19 q = iI (U q) ∧ hI h 20 q = iI (V q)) {p : Nat} (hp : p < n) : f_Depths_fewestAbout (nI p) (nI n) h = some (nI (few n U V p)) := by
  unfold f_Depths_fewestAbout
  refine lp_run (f := fun s => f_Depths_fewestAbout_L1 (nI p) (nI n) h s.1 s.2.1 s.2.2.1 s.2.2.2.1 s.2.2.2.2) (fun k => (nI (ctn (dpL U V p) k), nI (ctn (dpR U V p) k), nI (ctn (dpF U V p) k), nI (ctn (dpB U V p) k), nI k)) n (fun q hq => ?_) ?_ (n := lpN) (by unfold lpN; omega)
  · rw [four_ct]
    show f_Depths_fewestAbout_L1 (nI p) (nI n) h (nI (ctn (dpL U V p) q)) (nI (ctn (dpR U V p) q)) (nI (ctn (dpF U V p) q)) (nI (ctn (dpB U V p) q)) (nI q) = _
    unfold f_Depths_fewestAbout_L1
    obtain ⟨i1, i2⟩ := uv_in hU hp hq
    rw [if_neg (lt_no hq (by omega)), if_neg (gd (by omega) (by omega)), if_neg (gd (by omega) (by omega)), cla (by omega), cla (by omega), (C p hp).1, (C p hp).2, (C q hq).1, (C q hq).2, iI_mul, iI_mul, iI_mul, iI_mul, iI_sub, iI_add, show U p * V q - V p * U q = cr U V p q from rfl, show U p * U q + V p * V q = dt U V p q from rfl, four_if i1 i2, nI_1 q]
    split
    · rfl
    · split
      · rfl
      · split
        · rfl
        · split <;> rfl
  · show f_Depths_fewestAbout_L1 (nI p) (nI n) h (nI (ctn (dpL U V p) n)) (nI (ctn (dpR U V p) n)) (nI (ctn (dpF U V p) n)) (nI (ctn (dpB U V p) n)) (nI n) = _
    unfold f_Depths_fewestAbout_L1 few
    have l1 := ctn_le (dpL U V p) n
    have l2 := ctn_le (dpR U V p) n
    have l3 := ctn_le (dpF U V p) n
    have l4 := ctn_le (dpB U V p) n
    rw [if_pos (ge_yes (Nat.le_refl _) (by omega)), jmin_ok (by omega) (by omega), jmin_ok (by omega) (by omega), nI_add]
/-- the depth, after so many points -/
def dpk (n : Nat) (X Y : Nat → Int) (x y : Int) : Nat → Nat
  | 0 => n
  | k + 1 => if X k - x = 0 ∧ Y k - y = 0 then dpk n X Y x y k else min (dpk n X Y x y k) (ctn (fun i => decide (X i - x = 0 ∧ Y i - y = 0)) n + few n (fun i => X i - x) (fun i => Y i - y) k)
def dp (n : Nat) (X Y : Nat → Int) (x y : Int) : Nat := dpk n X Y x y n
theorem dpk_le (x y : Int) : ∀ k, dpk n X Y x y k ≤ n ∧ dpk n X Y x y (k + 1) ≤ dpk n X Y x y k := by
  have st : ∀ k, dpk n X Y x y (k + 1) ≤ dpk n X Y x y k := by
    intro k
    show (if X k - x = 0 ∧ Y k - y = 0 then dpk n X Y x y k else min (dpk n X Y x y k) _) ≤ _
    split
    · exact Nat.le_refl _
    · exact Nat.min_le_left _ _
  intro k
  induction k with
  | zero => exact ⟨Nat.le_refl _, st 0⟩
  | succ k ih => exact ⟨Nat.le_trans ih.2 ih.1, st (k + 1)⟩
theorem dpk_mono (x y : Int) {a : Nat} : ∀ {b}, a ≤ b → dpk n X Y x y b ≤ dpk n X Y x y a := by
  intro b hab
  induction b with
  | zero => rw [show a = 0 by omega]; exact Nat.le_refl _
  | succ b ih =>
    by_cases e : a = b + 1
    · subst e; exact Nat.le_refl _
    · exact Nat.le_trans (dpk_le x y b).2 (ih (by omega))
theorem dp_le (x y : Int) : dp n X Y x y ≤ n := (dpk_le x y n).1
theorem few_le (U V : Nat → Int) (p : Nat) : few n U V p ≤ n + n := by
  unfold few
  have l1 := ctn_le (dpL U V p) n
  have l3 := ctn_le (dpF U V p) n
  omega
theorem depthOver_ok (C : CC h o n g X Y) (G : GC n g X Y) (ho : o ∉ [19, 20]) (ho0 : rf o 0 ∉ [19, 20]) (ho1 : rf o 1 ∉ [19, 20]) {x y : Int} (hx : -200 ≤ x ∧ x ≤ 200) (hy : -200 ≤ y ∧ y ≤ 200) {fl : Nat} (hf : fl ≤ 12) : ∃ r h', f_Depths_depthOver o (iI x) (iI y) (nI fl) h = some (nI r, h') ∧ Fs [19, 20] h h' ∧ max fl r = max fl (dp n X Y x y) ∧ r ≤ 12 := by
  have hn := G.1
  have B := G.2.2.1
  have hU : ∀ q, q < n → -250 ≤ X q - x ∧ X q - x ≤ 250 ∧ -250 ≤ Y q - y ∧ Y q - y ≤ 250 := fun q hq => by
    have := B q hq
    omega
  have I0 : InR 0 := by unfold InR; omega
  unfold f_Depths_depthOver
  obtain ⟨⟨r1, r2⟩, e1, r, e2, e3, e4, e5⟩ := lp_inv (f := fun s => f_Depths_depthOver_L1 o (iI x) (iI y) (nI fl) s.1 s.2.1 s.2.2) (fun k s => s.1 = nI (ctn (fun i => decide (X i - x = 0 ∧ Y i - y = 0)) k) ∧ s.2.1 = nI k ∧ Fs [19, 20] h s.2.2 ∧ ∀ q, q < k → hI s.2.2 19 q = iI (X q - x) ∧ hI s.2.2 20 q = iI (Y q - y)) (fun z => ∃ r, z.1 = nI r ∧ Fs [19, 20] h z.2 ∧ max fl r = max fl (dp n X Y x y) ∧ r ≤ 12) n (by
    rintro k ⟨a, b, h'⟩ hk ⟨rfl, rfl, d1, d2⟩
    have d1 : Fs [19, 20] h h' := d1
    have d2 : ∀ q, q < k → hI h' 19 q = iI (X q - x) ∧ hI h' 20 q = iI (Y q - y) := d2
    have C' := C.fs d1 ho ho0 ho1
    show ∃ s', f_Depths_depthOver_L1 o (iI x) (iI y) (nI fl) (nI (ctn _ k)) (nI k) h' = some (.inl s') ∧ _
    unfold f_Depths_depthOver_L1
    have n0 : ¬ (rf o 1 = 19 ∧ k = k) := fun e => ho1 (by rw [e.1]; decide)
    rw [C'.1, if_neg (lt_no hk (by omega)), if_neg (gd (by omega) (by omega)), cla (by omega), hI_n n0, (C'.2.2 k hk).1, (C'.2.2 k hk).2, iI_sub, iI_sub, hI_n (by omega), hI_s, hI_s, nI_1, nI_1]
    have b1 := hU k hk
    simp only [e0 (show InR (X k - x) by unfold InR; omega), e0 (show InR (Y k - y) by unfold InR; omega)]
    have F : Fs [19, 20] h (sI (sI h' 19 k (iI (X k - x))) 20 k (iI (Y k - y))) := (d1.set (by decide)).set (by decide)
    have D : ∀ q, q < k + 1 → hI (sI (sI h' 19 k (iI (X k - x))) 20 k (iI (Y k - y))) 19 q = iI (X q - x) ∧ hI (sI (sI h' 19 k (iI (X k - x))) 20 k (iI (Y k - y))) 20 q = iI (Y q - y) := by
      intro q hq
      by_cases e : q = k
      · subst e
        exact ⟨by rw [hI_n (by omega), hI_s], by rw [hI_s]⟩
      · have := d2 q (by omega)
        exact ⟨by rw [hI_n (by omega), hI_n (by omega)]; exact this.1, by rw [hI_n (by omega), hI_n (by omega)]; exact this.2⟩
    by_cases c1 : X k - x = 0
    · rw [if_pos c1]
      by_cases c2 : Y k - y = 0
      · rw [if_pos c2]
        exact ⟨_, rfl, by show _ = nI (_ + if decide (X k - x = 0 ∧ Y k - y = 0) then 1 else 0); rw [if_pos (by simp [c1, c2])], rfl, F, D⟩
      · rw [if_neg c2]
        exact ⟨_, rfl, by show _ = nI (_ + if decide (X k - x = 0 ∧ Y k - y = 0) then 1 else 0); rw [if_neg (by simp [c2])]; rfl, rfl, F, D⟩
    · rw [if_neg c1]
      exact ⟨_, rfl, by show _ = nI (_ + if decide (X k - x = 0 ∧ Y k - y = 0) then 1 else 0); rw [if_neg (by simp [c1])]; rfl, rfl, F, D⟩) (by
    rintro ⟨a, b, h'⟩ ⟨rfl, rfl, d1, d2⟩
    have d1 : Fs [19, 20] h h' := d1
    have d2 : ∀ q, q < n → hI h' 19 q = iI (X q - x) ∧ hI h' 20 q = iI (Y q - y) := d2
    have C' := C.fs d1 ho ho0 ho1
    show ∃ r, f_Depths_depthOver_L1 o (iI x) (iI y) (nI fl) (nI (ctn _ n)) (nI n) h' = some (.inr r) ∧ _
    unfold f_Depths_depthOver_L1
    rw [C'.1, if_pos (ge_yes (Nat.le_refl _) (by omega))]
    have hh := ctn_le (fun i => decide (X i - x = 0 ∧ Y i - y = 0)) n
    obtain ⟨z, e1, e2⟩ := lp_find (f := fun s => f_Depths_depthOver_L2 o (nI fl) (nI (ctn (fun i => decide (X i - x = 0 ∧ Y i - y = 0)) n)) h' s.1 s.2) (fun k => (nI (dpk n X Y x y k), nI k)) (fun k => decide (dpk n X Y x y k ≤ fl)) n (fun z => ∃ r, z = (nI r, h') ∧ max fl r = max fl (dp n X Y x y) ∧ r ≤ 12) (fun k hk hp => by
      have hp : ¬ dpk n X Y x y k ≤ fl := by simpa using hp
      have hl := (dpk_le (n := n) (X := X) (Y := Y) x y k).1
      show f_Depths_depthOver_L2 o (nI fl) (nI (ctn (fun i => decide (X i - x = 0 ∧ Y i - y = 0)) n)) h' (nI (dpk n X Y x y k)) (nI k) = some (.inl (nI (if X k - x = 0 ∧ Y k - y = 0 then dpk n X Y x y k else min (dpk n X Y x y k) (ctn (fun i => decide (X i - x = 0 ∧ Y i - y = 0)) n + few n (fun i => X i - x) (fun i => Y i - y) k)), nI (k + 1)))
      unfold f_Depths_depthOver_L2 f_Depths_depthOver_J3
      have b1 := hU k hk
      have fl2 := few_le (n := n) (fun i => X i - x) (fun i => Y i - y) k
      rw [C'.1, if_neg (lt_no hk (by omega)), if_neg (lt_no (by omega) (by omega)), if_neg (gd (by omega) (by omega)), cla (by omega), (d2 k hk).1, (d2 k hk).2, fewest_ok (U := fun i => X i - x) (V := fun i => Y i - y) hn hU d2 hk, nI_1]
      simp only [Option.bind_some, e0 (show InR (X k - x) by unfold InR; omega), e0 (show InR (Y k - y) by unfold InR; omega)]
      rw [nI_add, jmin_ok (by omega) (by omega)]
      by_cases c1 : X k - x = 0
      · rw [if_pos c1]
        by_cases c2 : Y k - y = 0
        · rw [if_pos c2, if_pos ⟨c1, c2⟩]
        · rw [if_neg c2, if_neg (fun e => c2 e.2)]
      · rw [if_neg c1, if_neg (fun e => c1 e.1)]) (fun k hk hp _ => by
      have hp : dpk n X Y x y k ≤ fl := by simpa using hp
      have hl := (dpk_le (n := n) (X := X) (Y := Y) x y k).1
      refine ⟨(nI (dpk n X Y x y k), h'), ?_, _, rfl, ?_, by omega⟩
      · show f_Depths_depthOver_L2 o (nI fl) (nI (ctn (fun i => decide (X i - x = 0 ∧ Y i - y = 0)) n)) h' (nI (dpk n X Y x y k)) (nI k) = _
        unfold f_Depths_depthOver_L2
        rw [C'.1, if_neg (lt_no hk (by omega)), if_pos (ge_yes hp (by omega))]
      · have := dpk_mono (n := n) (X := X) (Y := Y) x y (a := k) (b := n) (by omega)
        unfold dp
        omega) (fun _ => by
      have hl := (dpk_le (n := n) (X := X) (Y := Y) x y n).1
      refine ⟨(nI (dpk n X Y x y n), h'), ?_, _, rfl, rfl, by omega⟩
      show f_Depths_depthOver_L2 o (nI fl) (nI (ctn (fun i => decide (X i - x = 0 ∧ Y i - y = 0)) n)) h' (nI (dpk n X Y x y n)) (nI n) = _
      unfold f_Depths_depthOver_L2
      rw [C'.1, if_pos (ge_yes (Nat.le_refl _) (by omega))]) (by unfold lpN; omega)
    obtain ⟨r, rfl, q1, q2⟩ := e2
    have e1 : lp (fun s => f_Depths_depthOver_L2 o (nI fl) (nI (ctn (fun i => decide (X i - x = 0 ∧ Y i - y = 0)) n)) h' s.1 s.2) lpN (nI n, 0) = some (nI r, h') := e1
    rw [e1]
    exact ⟨_, rfl, r, rfl, d1, q1, q2⟩) (n := lpN) (s := (0, 0, h)) ⟨rfl, rfl, Fs.rfl', fun q hq => by omega⟩ (by unfold lpN; omega)
  have e2 : r1 = nI r := e2
  subst e2
  exact ⟨r, r2, e1, e3, e4, e5⟩
theorem depthAt_ok (C : CC h o n g X Y) (G : GC n g X Y) (ho : o ∉ [19, 20]) (ho0 : rf o 0 ∉ [19, 20]) (ho1 : rf o 1 ∉ [19, 20]) {x y : Int} (hx : -200 ≤ x ∧ x ≤ 200) (hy : -200 ≤ y ∧ y ≤ 200) : ∃ h', f_Depths_depthAt o (iI x) (iI y) h = some (nI (dp n X Y x y), h') ∧ Fs [19, 20] h h' := by
  unfold f_Depths_depthAt
  obtain ⟨r, h', e, f, q, -⟩ := depthOver_ok C G ho ho0 ho1 hx hy (fl := 0) (by omega)
  rw [show f_Depths_depthOver o (iI x) (iI y) 0 h = _ from e]
  have : r = dp n X Y x y := by omega
  subst this
  exact ⟨h', rfl, f⟩
end DP
