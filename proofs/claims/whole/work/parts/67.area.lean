/-! the area -/
section AR
variable {n g : Nat} {X Y : Nat → Int} {h : pH} {o : Nat}
def fan (X Y : Nat → Int) (w : Nat → Nat) : Nat → Int
  | 0 => 0
  | k + 1 => fan X Y w k + T3 X Y (w 0) (w (k + 1)) (w (k + 2))
def c2 (X Y : Nat → Int) (i j : Nat) : Int := X i * Y j - Y i * X j
def shl (X Y : Nat → Int) (w : Nat → Nat) (m : Nat) : Nat → Int
  | 0 => 0
  | k + 1 => shl X Y w m k + c2 X Y (w k) (w ((k + 1) % m))
theorem area_ok (C : CC h o n g X Y) (hn : n ≤ 12) {m : Nat} (hm : m ≤ 12) {w : Nat → Nat} (hw : ∀ i, i < m → w i < n) (d2 : hI h 14 3 = nI m) (d3 : ∀ i, i < m → hI h 16 i = nI (w i)) : f_Hulls_areaTwice o h = some (iI (fan X Y w (m - 2))) := by
  unfold f_Hulls_areaTwice
  refine lp_run (f := fun s => f_Hulls_areaTwice_L1 o h s.1 s.2) (fun k => (iI (fan X Y w k), nI (2 + k))) (m - 2) (fun k hk => ?_) ?_ (n := lpN) (by unfold lpN; omega)
  · show f_Hulls_areaTwice_L1 o h (iI (fan X Y w k)) (nI (2 + k)) = some (.inl (iI (fan X Y w k + T3 X Y (w 0) (w (k + 1)) (w (k + 2))), nI (2 + (k + 1))))
    unfold f_Hulls_areaTwice_L1
    rw [d2, if_neg (lt_no (by omega) (by omega)), show nI (2 + k) - 1 = nI (k + 1) from by rw [show (1 : Int32) = nI 1 from rfl, pk_sub (by omega)]; congr 1; omega, if_neg (gd (by omega) (by omega)), if_neg (gd (by omega) (by omega)), cla (by omega), cla (by omega), d3 0 (by omega), d3 (k + 1) (by omega), d3 (2 + k) (by omega), turnOf_ok C hn (hw 0 (by omega)) (hw _ (by omega)) (hw _ (by omega))]
    simp only [Option.bind_some]
    rw [iI_add, nI_1, show 2 + k = k + 2 by omega, show 2 + (k + 1) = k + 2 + 1 by omega]
  · show f_Hulls_areaTwice_L1 o h (iI (fan X Y w (m - 2))) (nI (2 + (m - 2))) = _
    unfold f_Hulls_areaTwice_L1
    rw [d2, if_pos (ge_yes (by omega) (by omega))]
theorem R_area_ok (C : RR h n g X Y) (hn : n ≤ 12) {m : Nat} (hm : m ≤ 12) {w : Nat → Nat} (hw : ∀ i, i < m → w i < n) (d3 : ∀ i, i < m → hI h 95 i = nI (w i)) : lp (fun s => f_R_area_L1 (nI m) h s.1 s.2) lpN (0, 0) = some (iI (shl X Y w m m), h) := by
  refine lp_run (f := fun s => f_R_area_L1 (nI m) h s.1 s.2) (fun k => (iI (shl X Y w m k), nI k)) m (fun k hk => ?_) ?_ (n := lpN) (by unfold lpN; omega)
  · show f_R_area_L1 (nI m) h (iI (shl X Y w m k)) (nI k) = some (.inl (iI (shl X Y w m k + c2 X Y (w k) (w ((k + 1) % m))), nI (k + 1)))
    unfold f_R_area_L1
    have hmod : (k + 1) % m < m := Nat.mod_lt _ (by omega)
    rw [if_neg (lt_no (by omega) (by omega)), if_neg (gd (by omega) (by omega)), if_neg (fun e => by have := (nI_z (a := m) (by omega)).mp e; omega), nI_1, jrem_ok (by omega) (by omega) (by omega), if_neg (gd (by omega) (by omega)), cla (by omega), cla (by omega), d3 k hk, d3 _ hmod, R_x_ok C hn (hw _ hk), R_y_ok C hn (hw _ hk), R_x_ok C hn (hw _ hmod), R_y_ok C hn (hw _ hmod)]
    simp only [Option.bind_some]
    rw [iI_mul, iI_mul, iI_sub, iI_add]
    rfl
  · show f_R_area_L1 (nI m) h (iI (shl X Y w m m)) (nI m) = _
    unfold f_R_area_L1
    rw [if_pos (ge_yes (by omega) (by omega))]
theorem fan_eq (w : Nat → Nat) (m : Nat) (hm : 2 ≤ m) : ∀ k, k + 2 ≤ m → fan X Y w k = shl X Y w m (k + 1) + c2 X Y (w (k + 1)) (w 0) := by
  intro k
  induction k with
  | zero =>
    intro hk
    show 0 = 0 + c2 X Y (w 0) (w ((0 + 1) % m)) + c2 X Y (w 1) (w 0)
    rw [Nat.mod_eq_of_lt (by omega)]
    unfold c2
    grind
  | succ k ih =>
    intro hk
    show fan X Y w k + T3 X Y (w 0) (w (k + 1)) (w (k + 2)) = shl X Y w m (k + 1) + c2 X Y (w (k + 1)) (w ((k + 1 + 1) % m)) + c2 X Y (w (k + 1 + 1)) (w 0)
    rw [ih (by omega), Nat.mod_eq_of_lt (show k + 1 + 1 < m by omega)]
    unfold c2 T3 TR
    grind
theorem fan_shl (w : Nat → Nat) (m : Nat) : fan X Y w (m - 2) = shl X Y w m m := by
  by_cases h2 : 2 ≤ m
  · rw [fan_eq w m h2 (m - 2) (by omega)]
    have e : m = (m - 2) + 1 + 1 := by omega
    generalize m - 2 = k at e
    subst e
    show _ = shl X Y w (k + 1 + 1) (k + 1) + c2 X Y (w (k + 1)) (w ((k + 1 + 1) % (k + 1 + 1)))
    rw [Nat.mod_self]
  · have : m = 0 ∨ m = 1 := by omega
    rcases this with rfl | rfl
    · rfl
    · show 0 = 0 + c2 X Y (w 0) (w 0)
      unfold c2
      grind
end AR
