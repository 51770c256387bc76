/-! triples: triangles round a place, empty ones, three on one line -/
theorem sm_ge (F : Nat → Nat) (n : Nat) : ∀ lo, lo ≤ n → sm (fun i => F (lo + i)) (n - lo) = sm (fun k => if lo ≤ k then F k else 0) n := by
  induction n with
  | zero => intro lo hlo; rw [show lo = 0 by omega]; rfl
  | succ n ih =>
    intro lo hlo
    by_cases e : lo = n + 1
    · subst e
      rw [Nat.sub_self]
      refine (sm_0 (n + 1)).symm.trans (sm_cong (fun k hk => ?_))
      rw [if_neg (by omega)]
    · rw [show n + 1 - lo = (n - lo) + 1 by omega]
      show sm (fun i => F (lo + i)) (n - lo) + F (lo + (n - lo)) = sm (fun k => if lo ≤ k then F k else 0) n + (if lo ≤ n then F n else 0)
      rw [ih lo (by omega), if_pos (by omega), show lo + (n - lo) = n by omega]
theorem lp_smx {ρ : Type} {f : Int32 × Int32 → Option ((Int32 × Int32) ⊕ ρ)} (F : Nat → Nat) (R : Int32 → ρ) (lo n : Nat) (hlo : lo ≤ n) (hn : n ≤ 12) (hs : ∀ k, lo ≤ k → k < n → ∀ a : Nat, f (nI a, nI k) = some (.inl (nI (a + F k), nI (k + 1)))) (hx : ∀ a : Nat, f (nI a, nI n) = some (.inr (R (nI a)))) (m : Nat) : lp f lpN (nI m, nI lo) = some (R (nI (m + sm (fun k => if lo ≤ k then F k else 0) n))) := by
  rw [← sm_ge F n lo hlo]
  refine lp_sm lo (n - lo) F m (fun k hk a => hs (lo + k) (by omega) (by omega) a) ?_ (by unfold lpN; omega)
  rw [show lo + (n - lo) = n by omega]
  exact hx _
theorem lp_up3 {f1 : Int32 × Int32 → Option ((Int32 × Int32) ⊕ Int32)} {f2 : Nat → Int32 × Int32 → Option ((Int32 × Int32) ⊕ ((Int32 × Int32) ⊕ Int32))} {f3 : Nat → Nat → Int32 × Int32 → Option ((Int32 × Int32) ⊕ ((Int32 × Int32) ⊕ ((Int32 × Int32) ⊕ Int32)))} (n : Nat) (hn : n ≤ 12) (P : Nat → Nat → Nat → Bool)
    (h3 : ∀ p q r (a : Nat), p < q → q < r → r < n → f3 p q (nI a, nI r) = some (.inl (nI (a + if P p q r then 1 else 0), nI (r + 1))))
    (h3x : ∀ p q a, q < n → f3 p q (a, nI n) = some (.inr (.inl (a, nI (q + 1)))))
    (h2 : ∀ p q a, q < n → f2 p (a, nI q) = lp (f3 p q) lpN (a, nI (q + 1)))
    (h2x : ∀ p a, p < n → f2 p (a, nI n) = some (.inr (.inl (a, nI (p + 1)))))
    (h1 : ∀ p a, p < n → f1 (a, nI p) = lp (f2 p) lpN (a, nI (p + 1)))
    (h1x : ∀ a, f1 (a, nI n) = some (.inr a)) : lp f1 lpN (0, 0) = some (nI (S3 n (fun p q r => b1 (p < q ∧ q < r ∧ P p q r = true)))) := by
  have k3 : ∀ p q (a : Nat), p < q → q < n → f2 p (nI a, nI q) = some (.inl (nI (a + sm (fun r => b1 (p < q ∧ q < r ∧ P p q r = true)) n), nI (q + 1))) := by
    intro p q a hpq hq
    rw [h2 p q _ hq, lp_smx (fun r => if P p q r then 1 else 0) (fun a => .inl (a, nI (q + 1))) (q + 1) n (by omega) hn (fun r hr hrn a => h3 p q r a hpq (by omega) hrn) (fun a => h3x p q _ hq) a]
    congr 5
    refine sm_cong (fun r _ => ?_)
    unfold b1
    by_cases c : q + 1 ≤ r
    · rw [if_pos c]
      by_cases d : P p q r = true
      · rw [if_pos d, if_pos ⟨hpq, by omega, d⟩]
      · rw [if_neg d, if_neg (fun x => d x.2.2)]
    · rw [if_neg c, if_neg (fun x => by omega)]
  have k2 : ∀ p (a : Nat), p < n → f1 (nI a, nI p) = some (.inl (nI (a + sm (fun q => sm (fun r => b1 (p < q ∧ q < r ∧ P p q r = true)) n) n), nI (p + 1))) := by
    intro p a hp
    rw [h1 p _ hp, lp_smx (fun q => sm (fun r => b1 (p < q ∧ q < r ∧ P p q r = true)) n) (fun a => .inl (a, nI (p + 1))) (p + 1) n (by omega) hn (fun q hq hqn a => k3 p q a (by omega) hqn) (fun a => h2x p _ hp) a]
    congr 5
    refine sm_cong (fun q _ => ?_)
    by_cases c : p + 1 ≤ q
    · rw [if_pos c]
    · rw [if_neg c, ← sm_0 n]
      exact sm_cong (fun r _ => by rw [b1_f (fun x => by omega)])
  have k1 := lp_smx (f := f1) (fun p => sm (fun q => sm (fun r => b1 (p < q ∧ q < r ∧ P p q r = true)) n) n) (fun a => a) 0 n (by omega) hn (fun p _ hp a => k2 p a hp) (fun a => h1x _) 0
  rw [show lp f1 lpN (0, 0) = _ from k1]
  congr 2
  rw [Nat.zero_add]
  exact sm_cong (fun p _ => by rw [if_pos (by omega)])
theorem lp_dn3 {f1 : Int32 × Int32 → Option ((Int32 × Int32) ⊕ Int32)} {f2 : Nat → Int32 × Int32 → Option ((Int32 × Int32) ⊕ ((Int32 × Int32) ⊕ Int32))} {f3 : Nat → Nat → Int32 × Int32 → Option ((Int32 × Int32) ⊕ ((Int32 × Int32) ⊕ ((Int32 × Int32) ⊕ Int32)))} (n : Nat) (hn : n ≤ 12) (P : Nat → Nat → Nat → Bool)
    (h3 : ∀ p q r (a : Nat), r < q → q < p → p < n → f3 p q (nI a, nI r) = some (.inl (nI (a + if P p q r then 1 else 0), nI (r + 1))))
    (h3x : ∀ p q a, q < p → p < n → f3 p q (a, nI q) = some (.inr (.inl (a, nI (q + 1)))))
    (h2 : ∀ p q a, q < p → p < n → f2 p (a, nI q) = lp (f3 p q) lpN (a, 0))
    (h2x : ∀ p a, p < n → f2 p (a, nI p) = some (.inr (.inl (a, nI (p + 1)))))
    (h1 : ∀ p a, p < n → f1 (a, nI p) = lp (f2 p) lpN (a, 0))
    (h1x : ∀ a, f1 (a, nI n) = some (.inr a)) : lp f1 lpN (0, 0) = some (nI (S3 n (fun p q r => b1 (q < p ∧ r < q ∧ P p q r = true)))) := by
  have k3 : ∀ p q (a : Nat), q < p → p < n → f2 p (nI a, nI q) = some (.inl (nI (a + sm (fun r => b1 (q < p ∧ r < q ∧ P p q r = true)) n), nI (q + 1))) := by
    intro p q a hpq hp
    have e := lp_smx (f := f3 p q) (fun r => if P p q r then 1 else 0) (fun a => .inl (a, nI (q + 1))) 0 q (by omega) (by omega) (fun r hr hrn a => h3 p q r a (by omega) hpq hp) (fun a => h3x p q _ hpq hp) a
    rw [h2 p q _ hpq hp, show lp (f3 p q) lpN (nI a, 0) = _ from e]
    congr 5
    rw [sm_lt _ n q (by omega)]
    refine sm_cong (fun r _ => ?_)
    unfold b1
    by_cases c : r < q
    · rw [if_pos c, if_pos (by omega)]
      by_cases d : P p q r = true
      · rw [if_pos d, if_pos ⟨hpq, by omega, d⟩]
      · rw [if_neg d, if_neg (fun x => d x.2.2)]
    · rw [if_neg c, if_neg (fun x => by omega)]
  have k2 : ∀ p (a : Nat), p < n → f1 (nI a, nI p) = some (.inl (nI (a + sm (fun q => sm (fun r => b1 (q < p ∧ r < q ∧ P p q r = true)) n) n), nI (p + 1))) := by
    intro p a hp
    have e := lp_smx (f := f2 p) (fun q => sm (fun r => b1 (q < p ∧ r < q ∧ P p q r = true)) n) (fun a => .inl (a, nI (p + 1))) 0 p (by omega) (by omega) (fun q _ hq a => k3 p q a hq hp) (fun a => h2x p _ hp) a
    rw [h1 p _ hp, show lp (f2 p) lpN (nI a, 0) = _ from e]
    congr 5
    rw [sm_lt _ n p (by omega)]
    refine sm_cong (fun q _ => ?_)
    by_cases c : q < p
    · rw [if_pos c, if_pos (by omega)]
    · rw [if_neg c, ← sm_0 n]
      exact sm_cong (fun r _ => by rw [b1_f (fun x => by omega)])
  have k1 := lp_smx (f := f1) (fun p => sm (fun q => sm (fun r => b1 (q < p ∧ r < q ∧ P p q r = true)) n) n) (fun a => a) 0 n (by omega) hn (fun p _ hp a => k2 p a hp) (fun a => h1x _) 0
  rw [show lp f1 lpN (0, 0) = _ from k1]
  congr 2
  rw [Nat.zero_add]
  exact sm_cong (fun p _ => by rw [if_pos (by omega)])
/-- upwards and downwards -/
theorem S3_ud (n : Nat) {P Q : Nat → Nat → Nat → Bool} (H : ∀ a b c, a < b → b < c → c < n → P a b c = Q c b a) : S3 n (fun p q r => b1 (p < q ∧ q < r ∧ P p q r = true)) = S3 n (fun p q r => b1 (q < p ∧ r < q ∧ Q p q r = true)) := by
  rw [S3_r n (fun p q r => b1 (q < p ∧ r < q ∧ Q p q r = true))]
  refine S3_cong (fun a b c ha hb hc => ?_)
  unfold b1
  by_cases d : a < b ∧ b < c
  · rw [H a b c d.1 d.2 hc]
    by_cases e : Q c b a = true
    · rw [if_pos ⟨d.1, d.2, e⟩, if_pos ⟨d.2, d.1, e⟩]
    · rw [if_neg (fun x => e x.2.2), if_neg (fun x => e x.2.2)]
  · rw [if_neg (fun x => d ⟨x.1, x.2.1⟩), if_neg (fun x => d ⟨x.2.1, x.1⟩)]
/-- the least of a set -/
def lsn : Nat → Nat → Nat
  | 0, _ => 0
  | k + 1, s => if s % 2 = 1 then 0 else lsn k (s / 2) + 1
def lsB (s : Nat) : Nat := lsn 12 s
theorem least_0 : ∀ a, a < 64 → ∀ b, b < 64 → 64 * a + b ≠ 0 → f_Shapes_leastOf (nI (64 * a + b)) = nI (lsB (64 * a + b)) := by decide +kernel
theorem lsB_0 : ∀ a, a < 64 → ∀ b, b < 64 → 64 * a + b ≠ 0 → lsB (64 * a + b) < 12 ∧ (64 * a + b).testBit (lsB (64 * a + b)) = true ∧ ∀ i, i < lsB (64 * a + b) → (64 * a + b).testBit i = false := by decide +kernel
theorem least_ok {s : Nat} (hs : s < 4096) (h0 : s ≠ 0) : f_Shapes_leastOf (nI s) = nI (lsB s) := by
  have := least_0 (s / 64) (by omega) (s % 64) (by omega)
  rw [show 64 * (s / 64) + s % 64 = s by omega] at this
  exact this h0
theorem lsB_ok {s : Nat} (hs : s < 4096) (h0 : s ≠ 0) : lsB s < 12 ∧ s.testBit (lsB s) = true ∧ ∀ i, i < lsB s → s.testBit i = false := by
  have := lsB_0 (s / 64) (by omega) (s % 64) (by omega)
  rw [show 64 * (s / 64) + s % 64 = s by omega] at this
  exact this h0
theorem bit_ne {s p : Nat} (h : s.testBit p = true) : s ≠ 0 := fun e => by
  rw [e, Nat.zero_testBit] at h
  exact absurd h (by decide)
theorem lsB_eq {s p : Nat} (hs : s < 4096) (hb : s.testBit p = true) (hl : ∀ i, i < p → s.testBit i = false) : lsB s = p := by
  obtain ⟨l1, l2, l3⟩ := lsB_ok hs (bit_ne hb)
  rcases Nat.lt_trichotomy (lsB s) p with l | l | l
  · rw [hl _ l] at l2
    exact absurd l2 (by decide)
  · exact l
  · rw [l3 _ l] at hb
    exact absurd hb (by decide)
section TT
variable {n g : Nat} {X Y : Nat → Int} {h : pH} {o : Nat}
theorem b3 {p q r : Nat} (i : Nat) : (2 ^ p ||| 2 ^ q ||| 2 ^ r).testBit i = (decide (p = i) || decide (q = i) || decide (r = i)) := by
  rw [Nat.testBit_or, Nat.testBit_or, Nat.testBit_two_pow, Nat.testBit_two_pow, Nat.testBit_two_pow]
def cvB (X Y : Nat → Int) (p q r : Nat) (x y : Int) : Bool := decide (¬ ((0 < TR X Y p q x y ∨ 0 < TR X Y q r x y ∨ 0 < TR X Y r p x y) ∧ (TR X Y p q x y < 0 ∨ TR X Y q r x y < 0 ∨ TR X Y r p x y < 0)))
def insB (X Y : Nat → Int) (p q r : Nat) (x y : Int) : Bool := decide ((0 < T3 X Y p q r ∧ 0 ≤ TR X Y p q x y ∧ 0 ≤ TR X Y q r x y ∧ 0 ≤ TR X Y r p x y) ∨ (T3 X Y p q r < 0 ∧ TR X Y p q x y ≤ 0 ∧ TR X Y q r x y ≤ 0 ∧ TR X Y r p x y ≤ 0))
theorem TR_sum (p q r : Nat) (x y : Int) : TR X Y p q x y + TR X Y q r x y + TR X Y r p x y = T3 X Y p q r := by unfold T3 TR; grind
theorem cv_ins {p q r : Nat} {x y : Int} (h : T3 X Y p q r ≠ 0) : cvB X Y p q r x y = insB X Y p q r x y := by
  have := TR_sum (X := X) (Y := Y) p q r x y
  unfold cvB insB
  rw [decide_eq_decide]
  omega
theorem ins_0 {p q r : Nat} {x y : Int} (h : T3 X Y p q r = 0) : insB X Y p q r x y = false := by
  unfold insB
  rw [decide_eq_false_iff_not]
  omega
theorem ins_rev (p q r : Nat) (x y : Int) : insB X Y p q r x y = insB X Y r q p x y := by
  unfold insB
  have e0 : T3 X Y r q p = - T3 X Y p q r := by unfold T3 TR; grind
  have e1 : TR X Y q p x y = - TR X Y p q x y := by unfold TR; grind
  have e2 : TR X Y r q x y = - TR X Y q r x y := by unfold TR; grind
  have e3 : TR X Y p r x y = - TR X Y r p x y := by unfold TR; grind
  rw [decide_eq_decide, e0, e1, e2, e3]
  omega
theorem three_lt {p q r : Nat} (hn : n ≤ 12) (hp : p < n) (hq : q < n) (hr : r < n) : 2 ^ p ||| 2 ^ q ||| 2 ^ r < 4096 := Nat.or_lt_two_pow (n := 12) (Nat.or_lt_two_pow (two_lt hp hn) (two_lt hq hn)) (two_lt hr hn)
/-- the three of a set of three, one after the other -/
theorem three_out {t p q r : Nat} (ht : t < 4096) (hp : p < 12) (hq : q < 12) (hb : ∀ i, t.testBit i = (decide (p = i) || decide (q = i) || decide (r = i))) (h1 : p < q) (h2 : q < r) : f_Shapes_leastOf (nI t) = nI p ∧ f_Shapes_leastOf (nI t &&& (jshl 1 (nI p) ^^^ (-1))) = nI q ∧ f_Shapes_leastOf (nI t &&& (jshl 1 (nI p) ^^^ (-1)) &&& (jshl 1 (nI q) ^^^ (-1))) = nI r := by
  have bp : t.testBit p = true := by rw [hb]; simp
  have e1 : lsB t = p := lsB_eq ht bp (fun i hi => by rw [hb]; simp; omega)
  have l2 : mns t (2 ^ p) < 4096 := mns_lt (n := 12) _ ht
  have b2 : ∀ i, (mns t (2 ^ p)).testBit i = (decide (q = i) || decide (r = i)) := fun i => by
    rw [mns_bit, hb, Nat.testBit_two_pow]
    by_cases c1 : p = i
    · have c2 : ¬ q = i := by omega
      have c3 : ¬ r = i := by omega
      simp [c1, c2, c3]
    · simp [c1]
  have bq : (mns t (2 ^ p)).testBit q = true := by rw [b2]; simp
  have e2 : lsB (mns t (2 ^ p)) = q := lsB_eq l2 bq (fun i hi => by rw [b2]; simp; omega)
  have l3 : mns (mns t (2 ^ p)) (2 ^ q) < 4096 := mns_lt (n := 12) _ l2
  have b3 : ∀ i, (mns (mns t (2 ^ p)) (2 ^ q)).testBit i = decide (r = i) := fun i => by
    rw [mns_bit, b2, Nat.testBit_two_pow]
    by_cases c1 : q = i
    · have c3 : ¬ r = i := by omega
      simp [c1, c3]
    · simp [c1]
  have br : (mns (mns t (2 ^ p)) (2 ^ q)).testBit r = true := by rw [b3]; simp
  have e3 : lsB (mns (mns t (2 ^ p)) (2 ^ q)) = r := lsB_eq l3 br (fun i hi => by rw [b3]; simp; omega)
  rw [jshl_ok p (by omega), jshl_ok q (by omega), andn_ok, andn_ok, least_ok ht (bit_ne bp), least_ok l2 (bit_ne bq), least_ok l3 (bit_ne br), e1, e2, e3]
  exact ⟨rfl, rfl, rfl⟩
theorem covers_ok (C : CC h o n g X Y) (G : GC n g X Y) {t p q r : Nat} (ht : t < 4096) (hb : ∀ i, t.testBit i = (decide (p = i) || decide (q = i) || decide (r = i))) (h1 : p < q) (h2 : q < r) (hr : r < n) {x y : Int} (hx : -250 ≤ x ∧ x ≤ 250) (hy : -250 ≤ y ∧ y ≤ 250) : f_Shapes_covers o (nI t) (iI x) (iI y) h = some (if cvB X Y p q r x y then 1 else 0) := by
  have hn := G.1
  have hp : p < n := by omega
  have hq : q < n := by omega
  obtain ⟨e1, e2, e3⟩ := three_out ht (by omega) (by omega) hb h1 h2
  unfold f_Shapes_covers
  rw [e1, e2, e3]
  have hh : ∀ i, i < n → ¬ f_Cloud_has o (nI i) h = 0 := fun i hi => by
    rw [has_in C hn, if_pos (by rw [nI_iI, iI_toInt (by unfold InR; omega)]; omega)]
    decide
  rw [if_neg (hh p hp), if_neg (hh q hq), if_neg (hh r hr), turnAt_ok C hn hp hq, turnAt_ok C hn hq hr, turnAt_ok C hn hr hp]
  simp only [Option.bind_some]
  have t1 := InR_100 (TR_in G hp hq hx hy)
  have t2 := InR_100 (TR_in G hq hr hx hy)
  have t3 := InR_100 (TR_in G hr hp hx hy)
  unfold f_Shapes_covers_J1 f_Shapes_covers_J2 cvB
  generalize TR X Y p q x y = a at *
  generalize TR X Y q r x y = b at *
  generalize TR X Y r p x y = d at *
  simp only [gt0 t1, gt0 t2, le0 t3, lt0 t1, lt0 t2, ge0 t3]
  by_cases a1 : 0 < a
  · rw [if_pos a1]
    by_cases a2 : a < 0
    · omega
    · rw [if_neg a2]
      by_cases b2 : b < 0
      · rw [if_pos b2, if_neg (by decide), if_neg (by decide), if_neg (by simp; omega)]
      · rw [if_neg b2]
        by_cases d2 : 0 ≤ d
        · rw [if_pos d2, if_neg (by decide), if_pos trivial, if_pos (by simp; omega)]
        · rw [if_neg d2, if_neg (by decide), if_neg (by decide), if_neg (by simp; omega)]
  · rw [if_neg a1]
    by_cases b1 : 0 < b
    · rw [if_pos b1]
      by_cases a2 : a < 0
      · rw [if_pos a2, if_neg (by decide), if_neg (by decide), if_neg (by simp; omega)]
      · rw [if_neg a2]
        by_cases b2 : b < 0
        · omega
        · rw [if_neg b2]
          by_cases d2 : 0 ≤ d
          · rw [if_pos d2, if_neg (by decide), if_pos trivial, if_pos (by simp; omega)]
          · rw [if_neg d2, if_neg (by decide), if_neg (by decide), if_neg (by simp; omega)]
    · rw [if_neg b1]
      by_cases d1 : d ≤ 0
      · rw [if_pos d1]
        by_cases a2 : a < 0
        · rw [if_pos a2, if_pos trivial, if_pos (by simp; omega)]
        · rw [if_neg a2]
          by_cases b2 : b < 0
          · rw [if_pos b2, if_pos trivial, if_pos (by simp; omega)]
          · rw [if_neg b2]
            by_cases d2 : 0 ≤ d
            · rw [if_pos d2, if_pos trivial, if_pos (by simp; omega)]
            · rw [if_neg d2, if_pos trivial, if_pos (by simp; omega)]
      · rw [if_neg d1]
        by_cases a2 : a < 0
        · rw [if_pos a2, if_neg (by decide), if_neg (by decide), if_neg (by simp; omega)]
        · rw [if_neg a2]
          by_cases b2 : b < 0
          · rw [if_pos b2, if_neg (by decide), if_neg (by decide), if_neg (by simp; omega)]
          · rw [if_neg b2]
            by_cases d2 : 0 ≤ d
            · rw [if_pos d2, if_neg (by decide), if_pos trivial, if_pos (by simp; omega)]
            · omega
theorem sg_tr {a b : Int} (hb : -100000 ≤ b ∧ b ≤ 100000) : iI (sgn a) * iI b < 0 ↔ (0 < a ∧ b < 0) ∨ (a < 0 ∧ 0 < b) := by
  have h1 := sgn_1 (t := a)
  have h2 := sgn_m (t := a)
  have h3 := sgn_0 (t := a)
  rw [iI_mul]
  rcases sgn_in a with e | e | e
  · rw [e, lt0 (by unfold InR; omega)]
    have := h1.mp e
    omega
  · rw [e, lt0 (by unfold InR; omega)]
    have := h2.mp e
    omega
  · rw [e, lt0 (by unfold InR; omega)]
    have := h3.mp e
    omega
theorem R_isInside_ok (C : RR h n g X Y) (G : GC n g X Y) {p q r : Nat} (hp : p < n) (hq : q < n) (hr : r < n) {x y : Int} (hx : -250 ≤ x ∧ x ≤ 250) (hy : -250 ≤ y ∧ y ≤ 250) : f_R_isInside (iI x) (iI y) (nI p) (nI q) (nI r) h = some (if insB X Y p q r x y then 1 else 0) := by
  have hn := G.1
  unfold f_R_isInside insB
  have t1 := TR_in G hp hq hx hy
  have t2 := TR_in G hq hr hx hy
  have t3 := TR_in G hr hp hx hy
  rw [R_sideOf_ok C G hp hq hr, R_turnOf_ok C hn hp hq, R_turnOf_ok C hn hq hr, R_turnOf_ok C hn hr hp]
  simp only [Option.bind_some]
  simp only [e0 (sg_in _), sgn_0, sg_tr t1, sg_tr t2, sg_tr t3]
  generalize TR X Y p q x y = a at *
  generalize TR X Y q r x y = b at *
  generalize TR X Y r p x y = d at *
  generalize T3 X Y p q r = T at *
  by_cases z : T = 0
  · rw [if_pos z, if_neg (by simp; omega)]
  · rw [if_neg z]
    by_cases z1 : (0 < T ∧ a < 0) ∨ (T < 0 ∧ 0 < a)
    · rw [if_pos z1, if_neg (by simp; omega)]
    · rw [if_neg z1]
      by_cases z2 : (0 < T ∧ b < 0) ∨ (T < 0 ∧ 0 < b)
      · rw [if_pos z2, if_neg (by simp; omega)]
      · rw [if_neg z2]
        by_cases z3 : (0 < T ∧ d < 0) ∨ (T < 0 ∧ 0 < d)
        · rw [if_pos z3, if_neg (by simp; omega)]
        · rw [if_neg z3, if_pos (by simp; omega)]
end TT
