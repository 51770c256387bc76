/-! where two lines cross: fractions -/
theorem lp_inr {σ ρ : Type} {f : σ → Option (σ ⊕ ρ)} {n : Nat} {s : σ} {r : ρ} (e : f s = some (.inr r)) : lp f (n + 1) s = some r := by
  unfold lp
  rw [e]
theorem lp_inl {σ ρ : Type} {f : σ → Option (σ ⊕ ρ)} {n : Nat} {s s' : σ} (e : f s = some (.inl s')) : lp f (n + 1) s = lp f n s' := by
  conv => lhs; unfold lp
  rw [e]
theorem eu_ok : ∀ b a n : Nat, a ≤ 1000 → b ≤ 1000 → b < n → lp (fun s => f_R_measure_L1 s.1 s.2) n (nI a, nI b) = some (nI (Nat.gcd a b)) := by
  intro b
  induction b using Nat.strongRecOn with
  | _ b ih =>
    intro a n ha hb hn
    cases n with
    | zero => omega
    | succ n =>
      by_cases z : b = 0
      · subst z
        rw [Nat.gcd_zero_right]
        refine lp_inr ?_
        show f_R_measure_L1 (nI a) (nI 0) = _
        unfold f_R_measure_L1
        rw [if_pos (show nI 0 ≤ 0 from by decide)]
      · have hm : a % b < b := Nat.mod_lt _ (by omega)
        have e : f_R_measure_L1 (nI a) (nI b) = some (.inl (nI b, nI (a % b))) := by
          unfold f_R_measure_L1
          have nz : ¬ nI b = 0 := fun e => z ((nI_eqI (b := 0) (by omega) (by omega)).mp e)
          rw [if_neg (show ¬ nI b ≤ 0 from nI_ge (a := 0) (by omega) (by omega)), if_neg nz, jrem_ok (by omega) (by omega) (by omega)]
        have e2 : lp (fun s => f_R_measure_L1 s.1 s.2) (n + 1) (nI a, nI b) = lp (fun s => f_R_measure_L1 s.1 s.2) n (nI b, nI (a % b)) := lp_inl (f := fun s => f_R_measure_L1 s.1 s.2) (s := (nI a, nI b)) e
        rw [e2, ih (a % b) hm b n hb (by omega) (by omega), Nat.gcd_comm b (a % b), ← Nat.gcd_rec, Nat.gcd_comm]
theorem measure_ok {a : Int} (ha : -1000 ≤ a ∧ a ≤ 1000) {b : Nat} (hb : b ≤ 1000) : f_R_measure (iI a) (nI b) = some (nI (Nat.gcd a.natAbs b)) := by
  unfold f_R_measure
  simp only [ge0 (show InR a by unfold InR; omega)]
  by_cases z : 0 ≤ a
  · rw [if_pos z, show iI a = nI a.natAbs from by rw [nI_iI]; congr 1; omega, eu_ok b _ lpN (by omega) hb (by unfold lpN; omega)]
  · rw [if_neg z, iI_neg, show iI (-a) = nI a.natAbs from by rw [nI_iI]; congr 1; omega, eu_ok b _ lpN (by omega) hb (by unfold lpN; omega)]
def esf : Nat → Nat → Nat → Bool
  | 0, _, b => decide (b = 0)
  | k + 1, a, b => decide (b = 0) || esf k b (a % b)
theorem es_12 : ∀ a, a < 101 → ∀ b, b < 101 → esf 12 a b = true := by decide +kernel
theorem dv_ok {h : pH} : ∀ f a b k n : Nat, esf f a b = true → k + f < 64 → f < n → a ≤ 1000 → b ≤ 1000 → lp (fun s => f_Lines_divisor_L1 h s.1 s.2.1 s.2.2) n (nI a, nI b, nI k) = some (nI (max 1 (Nat.gcd a b))) := by
  intro f
  induction f with
  | zero =>
    intro a b k n he hk hn ha hb
    have z : b = 0 := by simpa [esf] using he
    subst z
    cases n with
    | zero => omega
    | succ n =>
      refine lp_inr ?_
      show f_Lines_divisor_L1 h (nI a) (nI 0) (nI k) = _
      unfold f_Lines_divisor_L1
      rw [if_neg (show ¬ (64 : Int32) ≤ nI k from nI_ge (b := 64) (by omega) (by omega)), if_pos (show nI 0 = 0 from rfl), show (1 : Int32) = nI 1 from rfl, jmax_ok (by omega) (by omega), Nat.gcd_zero_right]
  | succ f ih =>
    intro a b k n he hk hn ha hb
    cases n with
    | zero => omega
    | succ n =>
      by_cases z : b = 0
      · subst z
        refine lp_inr ?_
        show f_Lines_divisor_L1 h (nI a) (nI 0) (nI k) = _
        unfold f_Lines_divisor_L1
        rw [if_neg (show ¬ (64 : Int32) ≤ nI k from nI_ge (b := 64) (by omega) (by omega)), if_pos (show nI 0 = 0 from rfl), show (1 : Int32) = nI 1 from rfl, jmax_ok (by omega) (by omega), Nat.gcd_zero_right]
      · have hm : a % b < b := Nat.mod_lt _ (by omega)
        have nz : ¬ nI b = 0 := fun e => z ((nI_eqI (b := 0) (by omega) (by omega)).mp e)
        have he' : esf f b (a % b) = true := by
          unfold esf at he
          rw [Bool.or_eq_true, decide_eq_true_iff] at he
          exact he.resolve_left z
        have e : f_Lines_divisor_L1 h (nI a) (nI b) (nI k) = some (.inl (nI b, nI (a % b), nI (k + 1))) := by
          unfold f_Lines_divisor_L1
          rw [if_neg (show ¬ (64 : Int32) ≤ nI k from nI_ge (b := 64) (by omega) (by omega)), if_neg nz, if_neg nz, jrem_ok (by omega) (by omega) (by omega), nI_1]
        have e2 : lp (fun s => f_Lines_divisor_L1 h s.1 s.2.1 s.2.2) (n + 1) (nI a, nI b, nI k) = lp (fun s => f_Lines_divisor_L1 h s.1 s.2.1 s.2.2) n (nI b, nI (a % b), nI (k + 1)) := lp_inl (f := fun s => f_Lines_divisor_L1 h s.1 s.2.1 s.2.2) (s := (nI a, nI b, nI k)) e
        rw [e2, ih b (a % b) (k + 1) n he' (by omega) (by omega) hb (by omega), Nat.gcd_comm b (a % b), ← Nat.gcd_rec, Nat.gcd_comm]
theorem idiv_ok {k : Int} {d : Nat} (hd : 0 < d) (hb : d ≤ 1000) (hk : -1000 ≤ k ∧ k ≤ 1000) : iI (k * d) / nI d = iI k := by
  apply Int32.toInt_inj.mp
  have m := mul_b (a := k) (b := (d : Int)) (A := 1000) (B := 1000) hk (by omega)
  have i1 : (iI (k * d)).toInt = k * d := iI_toInt (by unfold InR; omega)
  have i2 : (nI d).toInt = d := by rw [nI_iI, iI_toInt (by unfold InR; omega)]
  rw [Int32.toInt_div_of_ne_left, i1, i2, iI_toInt (by unfold InR; omega), Int.mul_tdiv_cancel _ (by omega)]
  intro e
  rw [e] at i1
  have : (Int32.minValue).toInt = -2147483648 := by decide
  omega
section FC
variable {n g : Nat} {X Y : Nat → Int}
/-- over and under of a pair -/
def ovp (X Y : Nat → Int) (x : Nat × Nat) : Int := if X x.2 ≤ X x.1 then Y x.1 - Y x.2 else -(Y x.1 - Y x.2)
def unp (X : Nat → Int) (x : Nat × Nat) : Nat := (X x.1 - X x.2).natAbs
def gcp (X Y : Nat → Int) (x : Nat × Nat) : Nat := Nat.gcd (ovp X Y x).natAbs (unp X x)
def ovr (X Y : Nat → Int) (x : Nat × Nat) : Int := ovp X Y x / (gcp X Y x : Int)
def unr (X Y : Nat → Int) (x : Nat × Nat) : Nat := unp X x / gcp X Y x
/-- a pair that crosses -/
def okp (n : Nat) (X : Nat → Int) (x : Nat × Nat) : Prop := x.1 < x.2 ∧ x.2 < n ∧ X x.1 ≠ X x.2
theorem ov_in (G : GC n g X Y) {x : Nat × Nat} (h : okp n X x) : (-100 ≤ ovp X Y x ∧ ovp X Y x ≤ 100) ∧ (1 ≤ unp X x ∧ unp X x ≤ 100) := by
  obtain ⟨h1, h2, h3⟩ := h
  have a := G.2.2.1 x.1 (by omega)
  have b := G.2.2.1 x.2 h2
  unfold ovp unp
  constructor
  · split <;> omega
  · omega
theorem gc_ok (G : GC n g X Y) {x : Nat × Nat} (h : okp n X x) : 0 < gcp X Y x ∧ gcp X Y x ≤ 100 ∧ ovp X Y x = ovr X Y x * gcp X Y x ∧ unp X x = unr X Y x * gcp X Y x ∧ 0 < unr X Y x ∧ Nat.gcd (ovr X Y x).natAbs (unr X Y x) = 1 := by
  have b := (ov_in G h).2
  have pos : 0 < gcp X Y x := Nat.gcd_pos_of_pos_right _ (by omega)
  have d1 : (gcp X Y x : Int) ∣ ovp X Y x := Int.ofNat_dvd_left.mpr (Nat.gcd_dvd_left _ _)
  have d2 : gcp X Y x ∣ unp X x := Nat.gcd_dvd_right _ _
  have e2 : unp X x = unr X Y x * gcp X Y x := (Nat.div_mul_cancel d2).symm
  have le : gcp X Y x ≤ unp X x := Nat.le_of_dvd (by omega) d2
  refine ⟨pos, by omega, (Int.ediv_mul_cancel d1).symm, e2, ?_, ?_⟩
  · rcases Nat.eq_zero_or_pos (unr X Y x) with z | z
    · rw [z, Nat.zero_mul] at e2
      omega
    · exact z
  · have e1 : (ovr X Y x).natAbs = (ovp X Y x).natAbs / gcp X Y x := by
      unfold ovr
      rw [Int.natAbs_ediv_of_dvd d1]
      simp
    rw [e1]
    unfold unr gcp
    exact Nat.gcd_div_gcd_div_gcd_of_pos_right (by omega)
theorem or_in (G : GC n g X Y) {x : Nat × Nat} (h : okp n X x) : (-100 ≤ ovr X Y x ∧ ovr X Y x ≤ 100) ∧ unr X Y x ≤ 100 := by
  obtain ⟨g1, g2, g3, g4, g5, -⟩ := gc_ok G h
  obtain ⟨b1, b2⟩ := ov_in G h
  constructor
  · rw [g3] at b1
    constructor
    · by_cases c : -100 ≤ ovr X Y x
      · exact c
      · have : ovr X Y x * (gcp X Y x : Int) ≤ ovr X Y x * 1 := Int.mul_le_mul_of_nonpos_left (by omega) (by omega)
        omega
    · by_cases c : ovr X Y x ≤ 100
      · exact c
      · have : ovr X Y x * 1 ≤ ovr X Y x * (gcp X Y x : Int) := Int.mul_le_mul_of_nonneg_left (by omega) (by omega)
        omega
  · have : unr X Y x * 1 ≤ unr X Y x * gcp X Y x := Nat.mul_le_mul_left _ g1
    omega
/-- one comes before the other -/
def klp (X Y : Nat → Int) (x y : Nat × Nat) : Prop := ovp X Y x * unp X y < ovp X Y y * unp X x
theorem red_eq (G : GC n g X Y) {x y : Nat × Nat} (hx : okp n X x) (hy : okp n X y) : ovp X Y x * unp X y = (ovr X Y x * unr X Y y) * ((gcp X Y x : Int) * gcp X Y y) := by
  obtain ⟨-, -, a3, a4, -⟩ := gc_ok G hx
  obtain ⟨-, -, b3, b4, -⟩ := gc_ok G hy
  have b4' : (unp X y : Int) = (unr X Y y : Int) * (gcp X Y y : Int) := by rw [b4]; exact Int.natCast_mul _ _
  rw [a3, b4']
  grind
theorem red_kl (G : GC n g X Y) {x y : Nat × Nat} (hx : okp n X x) (hy : okp n X y) : ovr X Y y * unr X Y x ≤ ovr X Y x * unr X Y y ↔ ¬ klp X Y x y := by
  unfold klp
  have p1 := (gc_ok G hx).1
  have p2 := (gc_ok G hy).1
  rw [red_eq G hx hy, red_eq G hy hx]
  have pos : 0 < (gcp X Y x : Int) * gcp X Y y := Int.mul_pos (by omega) (by omega)
  rw [show (gcp X Y y : Int) * gcp X Y x = (gcp X Y x : Int) * gcp X Y y from Int.mul_comm _ _]
  generalize (gcp X Y x : Int) * gcp X Y y = K at *
  generalize ovr X Y x * unr X Y y = A at *
  generalize ovr X Y y * unr X Y x = B at *
  constructor
  · intro e z
    have := Int.mul_le_mul_of_nonneg_right e (Int.le_of_lt pos)
    omega
  · intro e
    by_cases c : B ≤ A
    · exact c
    · exact absurd (Int.mul_lt_mul_of_pos_right (show A < B by omega) pos) e
theorem red_same (G : GC n g X Y) {x y : Nat × Nat} (hx : okp n X x) (hy : okp n X y) : ovp X Y x * unp X y = ovp X Y y * unp X x ↔ ovr X Y x = ovr X Y y ∧ unr X Y x = unr X Y y := by
  obtain ⟨p1, -, -, -, a5, a6⟩ := gc_ok G hx
  obtain ⟨p2, -, -, -, b5, b6⟩ := gc_ok G hy
  rw [red_eq G hx hy, red_eq G hy hx]
  have pos : 0 < (gcp X Y x : Int) * gcp X Y y := Int.mul_pos (by omega) (by omega)
  rw [show (gcp X Y y : Int) * gcp X Y x = (gcp X Y x : Int) * gcp X Y y from Int.mul_comm _ _]
  generalize (gcp X Y x : Int) * gcp X Y y = K at *
  generalize hA : ovr X Y x = A at *
  generalize hB : unr X Y x = B at *
  generalize hC : ovr X Y y = C at *
  generalize hD : unr X Y y = D at *
  constructor
  · intro e
    have e : A * (D : Int) = C * (B : Int) := Int.eq_of_mul_eq_mul_right (by omega) e
    have en : A.natAbs * D = C.natAbs * B := by
      have := congrArg Int.natAbs e
      rw [Int.natAbs_mul, Int.natAbs_mul] at this
      simpa using this
    have d1 : B ∣ D := by
      have : B ∣ A.natAbs * D := by rw [en]; exact Nat.dvd_mul_left _ _
      exact Nat.Coprime.dvd_of_dvd_mul_left (show Nat.Coprime B A.natAbs by unfold Nat.Coprime; rw [Nat.gcd_comm]; exact a6) this
    have d2 : D ∣ B := by
      have : D ∣ C.natAbs * B := by rw [← en]; exact Nat.dvd_mul_left _ _
      exact Nat.Coprime.dvd_of_dvd_mul_left (show Nat.Coprime D C.natAbs by unfold Nat.Coprime; rw [Nat.gcd_comm]; exact b6) this
    have eB : B = D := Nat.dvd_antisymm d1 d2
    subst eB
    exact ⟨Int.eq_of_mul_eq_mul_right (by omega) e, rfl⟩
  · rintro ⟨rfl, rfl⟩
    rfl
theorem rk_scale {ov un : Int} {d : Nat} (hd : 0 < d) (sd : Int) (p : Nat) : rk n X Y (ov * d) (un * d) sd p = rk n X Y ov un sd p := by
  unfold rk
  refine ctn_cong (fun q _ => ?_)
  unfold rkb
  have e : ∀ i, vl X Y (ov * d) (un * d) i = vl X Y ov un i * d := fun i => by unfold vl; grind
  rw [e, e, decide_eq_decide]
  have pos : 0 < (d : Int) := by omega
  generalize vl X Y ov un q = a
  generalize vl X Y ov un p = b
  have c1 : a * (d : Int) < b * d ↔ a < b := by
    constructor
    · intro z
      by_cases c : a < b
      · exact c
      · have := Int.mul_le_mul_of_nonneg_right (show b ≤ a by omega) (Int.le_of_lt pos)
        omega
    · intro z
      exact Int.mul_lt_mul_of_pos_right z pos
  have c2 : a * (d : Int) = b * d ↔ a = b := by
    constructor
    · exact fun z => Int.eq_of_mul_eq_mul_right (by omega) z
    · rintro rfl; rfl
  rw [c1, c2]
end FC
