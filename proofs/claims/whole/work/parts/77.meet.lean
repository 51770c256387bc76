/-! the meetings: their sums and how many there are at most -/
theorem sm_add (F G : Nat → Nat) (n : Nat) : sm (fun k => F k + G k) n = sm F n + sm G n := by
  induction n with
  | zero => rfl
  | succ n ih =>
    show sm (fun k => F k + G k) n + (F n + G n) = (sm F n + F n) + (sm G n + G n)
    rw [ih]
    omega
theorem sm_mono {F G : Nat → Nat} {n : Nat} (H : ∀ k, k < n → F k ≤ G k) : sm F n ≤ sm G n := by
  induction n with
  | zero => exact Nat.le_refl _
  | succ n ih =>
    have a := ih (fun k hk => H k (by omega))
    have b := H n (by omega)
    show sm F n + F n ≤ sm G n + G n
    omega
theorem sm_0 (n : Nat) : sm (fun _ => 0) n = 0 := by
  induction n with
  | zero => rfl
  | succ n ih => show sm _ n + 0 = 0; rw [ih]
theorem sm_swap (F : Nat → Nat → Nat) (m n : Nat) : sm (fun a => sm (fun b => F a b) m) n = sm (fun b => sm (fun a => F a b) n) m := by
  induction n with
  | zero =>
    show 0 = sm (fun b => 0) m
    rw [sm_0]
  | succ n ih =>
    show sm (fun a => sm (fun b => F a b) m) n + sm (fun b => F n b) m = sm (fun b => sm (fun a => F a b) n + F n b) m
    rw [ih, ← sm_add]
theorem sm_lt (F : Nat → Nat) (n : Nat) : ∀ q, q ≤ n → sm F q = sm (fun r => if r < q then F r else 0) n := by
  induction n with
  | zero => intro q hq; rw [show q = 0 by omega]; rfl
  | succ n ih =>
    intro q hq
    show _ = sm (fun r => if r < q then F r else 0) n + (if n < q then F n else 0)
    by_cases e : n < q
    · have : q = n + 1 := by omega
      subst this
      rw [if_pos e]
      show sm F n + F n = _
      congr 1
      exact sm_cong (fun k hk => by rw [if_pos (by omega)])
    · rw [if_neg e, ← ih q (by omega)]
      omega
def S3 (n : Nat) (F : Nat → Nat → Nat → Nat) : Nat := sm (fun a => sm (fun b => sm (fun c => F a b c) n) n) n
def S4 (n : Nat) (F : Nat → Nat → Nat → Nat → Nat) : Nat := sm (fun a => sm (fun b => sm (fun c => sm (fun d => F a b c d) n) n) n) n
theorem S3_12 (n : Nat) (F : Nat → Nat → Nat → Nat) : S3 n F = S3 n (fun a b c => F b a c) := sm_swap (fun a b => sm (fun c => F a b c) n) n n
theorem S3_23 (n : Nat) (F : Nat → Nat → Nat → Nat) : S3 n F = S3 n (fun a b c => F a c b) := sm_cong (fun a _ => sm_swap (fun b c => F a b c) n n)
theorem S4_12 (n : Nat) (F : Nat → Nat → Nat → Nat → Nat) : S4 n F = S4 n (fun a b c d => F b a c d) := sm_swap (fun a b => sm (fun c => sm (fun d => F a b c d) n) n) n n
theorem S4_23 (n : Nat) (F : Nat → Nat → Nat → Nat → Nat) : S4 n F = S4 n (fun a b c d => F a c b d) := sm_cong (fun a _ => sm_swap (fun b c => sm (fun d => F a b c d) n) n n)
theorem S4_34 (n : Nat) (F : Nat → Nat → Nat → Nat → Nat) : S4 n F = S4 n (fun a b c d => F a b d c) := sm_cong (fun a _ => sm_cong (fun b _ => sm_swap (fun c d => F a b c d) n n))
theorem S4_p1 (n : Nat) (F : Nat → Nat → Nat → Nat → Nat) : S4 n F = S4 n (fun a b c d => F a d c b) := (S4_23 n F).trans ((S4_34 n _).trans (S4_23 n _))
theorem S4_p2 (n : Nat) (F : Nat → Nat → Nat → Nat → Nat) : S4 n F = S4 n (fun a b c d => F b d c a) := (S4_p1 n F).trans (S4_12 n _)
theorem S4_p3 (n : Nat) (F : Nat → Nat → Nat → Nat → Nat) : S4 n F = S4 n (fun a b c d => F c d b a) := (S4_p2 n F).trans (S4_23 n _)
theorem S4_p4 (n : Nat) (F : Nat → Nat → Nat → Nat → Nat) : S4 n F = S4 n (fun a b c d => F d c b a) := (S4_p3 n F).trans (S4_34 n _)
theorem S3_r (n : Nat) (F : Nat → Nat → Nat → Nat) : S3 n F = S3 n (fun a b c => F c b a) := (S3_12 n F).trans ((S3_23 n _).trans (S3_12 n _))
theorem S3_mono {n : Nat} {F G : Nat → Nat → Nat → Nat} (H : ∀ a b c, a < n → b < n → c < n → F a b c ≤ G a b c) : S3 n F ≤ S3 n G := sm_mono fun a ha => sm_mono fun b hb => sm_mono fun c hc => H a b c ha hb hc
theorem S4_mono {n : Nat} {F G : Nat → Nat → Nat → Nat → Nat} (H : ∀ a b c d, a < n → b < n → c < n → d < n → F a b c d ≤ G a b c d) : S4 n F ≤ S4 n G := sm_mono fun a ha => sm_mono fun b hb => sm_mono fun c hc => sm_mono fun d hd => H a b c d ha hb hc hd
theorem S3_cong {n : Nat} {F G : Nat → Nat → Nat → Nat} (H : ∀ a b c, a < n → b < n → c < n → F a b c = G a b c) : S3 n F = S3 n G := sm_cong fun a ha => sm_cong fun b hb => sm_cong fun c hc => H a b c ha hb hc
theorem S4_cong {n : Nat} {F G : Nat → Nat → Nat → Nat → Nat} (H : ∀ a b c d, a < n → b < n → c < n → d < n → F a b c d = G a b c d) : S4 n F = S4 n G := sm_cong fun a ha => sm_cong fun b hb => sm_cong fun c hc => sm_cong fun d hd => H a b c d ha hb hc hd
theorem S3_add (n : Nat) (F G : Nat → Nat → Nat → Nat) : S3 n (fun a b c => F a b c + G a b c) = S3 n F + S3 n G := by
  unfold S3
  rw [← sm_add]
  refine sm_cong fun a _ => ?_
  rw [← sm_add]
  refine sm_cong fun b _ => ?_
  rw [← sm_add]
theorem S4_add (n : Nat) (F G : Nat → Nat → Nat → Nat → Nat) : S4 n (fun a b c d => F a b c d + G a b c d) = S4 n F + S4 n G := by
  unfold S4
  rw [← sm_add]
  refine sm_cong fun a _ => ?_
  rw [← sm_add]
  refine sm_cong fun b _ => ?_
  rw [← sm_add]
  refine sm_cong fun c _ => ?_
  rw [← sm_add]
def b1 (P : Prop) [Decidable P] : Nat := if P then 1 else 0
theorem b1_le (P : Prop) [Decidable P] : b1 P ≤ 1 := by unfold b1; split <;> omega
theorem b1_t {P : Prop} [Decidable P] (h : P) : b1 P = 1 := if_pos h
theorem b1_f {P : Prop} [Decidable P] (h : ¬ P) : b1 P = 0 := if_neg h
theorem c3 : ∀ n, n < 13 → S3 n (fun a b c => b1 (a < b ∧ b < c)) ≤ 220 := by decide +kernel
theorem c4 : ∀ n, n < 13 → S4 n (fun a b c d => b1 (a < b ∧ b < c ∧ c < d)) ≤ 495 := by decide +kernel
section ME
variable {n g : Nat} {X Y : Nat → Int}
def wiB (X Y : Nat → Int) (p q r s : Nat) : Bool := decide ((0 < T3 X Y q r p ∧ 0 < T3 X Y r s p ∧ 0 < T3 X Y s q p) ∨ (T3 X Y q r p < 0 ∧ T3 X Y r s p < 0 ∧ T3 X Y s q p < 0))
def acB (X Y : Nat → Int) (p q r s : Nat) : Bool := decide (((0 < T3 X Y p q r ∧ T3 X Y p q s < 0) ∨ (T3 X Y p q r < 0 ∧ 0 < T3 X Y p q s)) ∧ ((0 < T3 X Y r s p ∧ T3 X Y r s q < 0) ∨ (T3 X Y r s p < 0 ∧ 0 < T3 X Y r s q)))
/-- all orders of three -/
theorem T3_p (a b c : Nat) : T3 X Y b c a = T3 X Y a b c ∧ T3 X Y c a b = T3 X Y a b c ∧ T3 X Y a c b = - T3 X Y a b c ∧ T3 X Y b a c = - T3 X Y a b c ∧ T3 X Y c b a = - T3 X Y a b c := by
  refine ⟨?_, ?_, ?_, ?_, ?_⟩ <;> (unfold T3 TR; grind)
theorem T3_four (a b c d : Nat) : T3 X Y b c d - T3 X Y a c d + T3 X Y a b d - T3 X Y a b c = 0 := by unfold T3 TR; grind
/-- of four points no more than one such -/
theorem one_of_7 (a b c d : Nat) : b1 (wiB X Y a d c b = true) + b1 (wiB X Y b d c a = true) + b1 (wiB X Y c d b a = true) + b1 (wiB X Y d c b a = true) + b1 (acB X Y a b c d = true) + b1 (acB X Y a c b d = true) + b1 (acB X Y a d b c = true) ≤ 1 := by
  have f := T3_four (X := X) (Y := Y) a b c d
  obtain ⟨p1, p2, p3, p4, p5⟩ := T3_p (X := X) (Y := Y) a b c
  obtain ⟨q1, q2, q3, q4, q5⟩ := T3_p (X := X) (Y := Y) a b d
  obtain ⟨r1, r2, r3, r4, r5⟩ := T3_p (X := X) (Y := Y) a c d
  obtain ⟨s1, s2, s3, s4, s5⟩ := T3_p (X := X) (Y := Y) b c d
  unfold wiB acB
  simp only [decide_eq_true_eq, p1, p2, p3, p4, p5, q1, q2, q3, q4, q5, r1, r2, r3, r4, r5, s1, s2, s3, s4, s5]
  generalize T3 X Y a b c = D at *
  generalize T3 X Y a b d = C at *
  generalize T3 X Y a c d = B at *
  generalize T3 X Y b c d = A at *
  clear p1 p2 p3 p4 p5 q1 q2 q3 q4 q5 r1 r2 r3 r4 r5 s1 s2 s3 s4 s5
  unfold b1
  split
  · rw [if_neg (by omega), if_neg (by omega), if_neg (by omega), if_neg (by omega), if_neg (by omega), if_neg (by omega)]
    omega
  · split
    · rw [if_neg (by omega), if_neg (by omega), if_neg (by omega), if_neg (by omega), if_neg (by omega)]
      omega
    · split
      · rw [if_neg (by omega), if_neg (by omega), if_neg (by omega), if_neg (by omega)]
        omega
      · split
        · rw [if_neg (by omega), if_neg (by omega), if_neg (by omega)]
          omega
        · split
          · rw [if_neg (by omega), if_neg (by omega)]
            omega
          · split
            · rw [if_neg (by omega)]
              omega
            · split <;> omega
/-- of three points no more than one lies between -/
theorem one_of_3 (G : GC n g X Y) {a b c : Nat} (ha : a < n) (hb : b < n) (hc : c < n) : b1 (bwB X Y a c b = true) + b1 (bwB X Y b c a = true) + b1 (bwB X Y c b a = true) ≤ 1 := by
  have key : ∀ p q r, q ≠ r → p < n → q < n → r < n → DT3 X Y p q r < 0 → DT3 X Y q p r < 0 → False := by
    intro p q r _ _ _ _ h1 h2
    have e : DT3 X Y p q r + DT3 X Y q p r = (X p - X q) * (X p - X q) + (Y p - Y q) * (Y p - Y q) := by unfold DT3; grind
    have := DT3_self (X := X) (Y := Y) p q
    unfold DT3 at this
    omega
  have sw : ∀ p q r, DT3 X Y p q r = DT3 X Y p r q := fun p q r => by unfold DT3; grind
  unfold bwB
  simp only [Bool.and_eq_true, decide_eq_true_eq]
  unfold b1
  split
  · rename_i h1
    rw [if_neg (fun h2 => key a b c h2.1.1.symm ha hb hc (by rw [sw]; exact h1.2.2) (by rw [sw]; exact h2.2.2)), if_neg (fun h2 => key a c b (fun e => h2.1.1 e.symm) ha hc hb h1.2.2 (by rw [sw]; exact h2.2.2))]
    omega
  · split
    · rename_i h1
      rw [if_neg (fun h2 => key b c a (fun e => h2.1.2 e.symm) hb hc ha h1.2.2 h2.2.2)]
      omega
    · split <;> omega
/-- the meetings as a list, in the order of the reference -/
def m6 (X Y : Nat → Int) (p q r : Nat) (s : Nat) : List (Nat × Nat) := if s < r ∧ s ≠ q ∧ acB X Y s p r q = true then [(2 ^ s ||| 2 ^ p, 2 ^ r ||| 2 ^ q)] else []
def m5 (X Y : Nat → Int) (p q r : Nat) (s : Nat) : List (Nat × Nat) := if s ≠ p ∧ wiB X Y p q r s = true then [(2 ^ p, 2 ^ q ||| 2 ^ r ||| 2 ^ s)] else []
def mBt (X Y : Nat → Int) (p q r : Nat) : List (Nat × Nat) := if bwB X Y p q r = true then [(2 ^ p, 2 ^ q ||| 2 ^ r)] else []
def mJ (X Y : Nat → Int) (p q r : Nat) : List (Nat × Nat) := if p = q ∨ p = r then [] else (List.range r).flatMap (m5 X Y p q r) ++ (List.range p).flatMap (m6 X Y p q r)
def m3 (X Y : Nat → Int) (p q r : Nat) : List (Nat × Nat) := mBt X Y p q r ++ mJ X Y p q r
def m2 (X Y : Nat → Int) (p q : Nat) : List (Nat × Nat) := (List.range q).flatMap (m3 X Y p q)
def m1 (n : Nat) (X Y : Nat → Int) (p : Nat) : List (Nat × Nat) := (List.range n).flatMap (m2 X Y p)
def mt (n : Nat) (X Y : Nat → Int) : List (Nat × Nat) := (List.range n).flatMap (m1 n X Y)
theorem fl_succ (F : Nat → List (Nat × Nat)) (k : Nat) : (List.range (k + 1)).flatMap F = (List.range k).flatMap F ++ F k := by
  rw [List.range_succ, List.flatMap_append]
  simp
theorem fl_len (F : Nat → List (Nat × Nat)) (k : Nat) : ((List.range k).flatMap F).length = sm (fun i => (F i).length) k := by
  induction k with
  | zero => rfl
  | succ k ih => rw [fl_succ, List.length_append, ih]; rfl
def a1 (X Y : Nat → Int) (p q r : Nat) : Nat := b1 (r < q ∧ bwB X Y p q r = true)
def a2 (X Y : Nat → Int) (p q r s : Nat) : Nat := b1 (r < q ∧ s < r ∧ p ≠ q ∧ p ≠ r ∧ s ≠ p ∧ wiB X Y p q r s = true)
def a3 (X Y : Nat → Int) (p q r s : Nat) : Nat := b1 (r < q ∧ s < p ∧ s < r ∧ p ≠ q ∧ p ≠ r ∧ s ≠ q ∧ acB X Y s p r q = true)
theorem mt_len : (mt n X Y).length = S3 n (a1 X Y) + S4 n (a2 X Y) + S4 n (a3 X Y) := by
  have e1 : (mt n X Y).length = sm (fun p => sm (fun q => sm (fun r => (m3 X Y p q r).length) q) n) n := by
    unfold mt
    rw [fl_len]
    refine sm_cong fun p _ => ?_
    unfold m1
    rw [fl_len]
    refine sm_cong fun q _ => ?_
    unfold m2
    rw [fl_len]
  have e2 : ∀ p q r, p < n → q < n → r < q → (m3 X Y p q r).length = a1 X Y p q r + (sm (fun s => a2 X Y p q r s) n + sm (fun s => a3 X Y p q r s) n) := by
    intro p q r hp hq hr
    unfold m3
    rw [List.length_append]
    congr 1
    · unfold mBt a1
      by_cases c : bwB X Y p q r = true
      · rw [if_pos c, b1_t ⟨hr, c⟩]; rfl
      · rw [if_neg c, b1_f (fun x => c x.2)]; rfl
    · unfold mJ
      by_cases c : p = q ∨ p = r
      · rw [if_pos c, show sm (fun s => a2 X Y p q r s) n = 0 from by
          rw [← sm_0 n]; exact sm_cong fun s _ => b1_f (fun x => by omega), show sm (fun s => a3 X Y p q r s) n = 0 from by
          rw [← sm_0 n]; exact sm_cong fun s _ => b1_f (fun x => by omega)]
        rfl
      · rw [if_neg c, List.length_append, fl_len, fl_len]
        congr 1
        · rw [sm_lt _ n r (by omega)]
          refine sm_cong fun s _ => ?_
          unfold m5 a2
          by_cases c1 : s < r
          · rw [if_pos c1]
            by_cases c2 : s ≠ p ∧ wiB X Y p q r s = true
            · rw [if_pos c2, b1_t ⟨hr, c1, by omega, by omega, c2⟩]; rfl
            · rw [if_neg c2, b1_f (fun x => c2 ⟨x.2.2.2.2.1, x.2.2.2.2.2⟩)]; rfl
          · rw [if_neg c1, b1_f (fun x => c1 x.2.1)]
        · rw [sm_lt _ n p (by omega)]
          refine sm_cong fun s _ => ?_
          unfold m6 a3
          by_cases c1 : s < p
          · rw [if_pos c1]
            by_cases c2 : s < r ∧ s ≠ q ∧ acB X Y s p r q = true
            · rw [if_pos c2, b1_t ⟨hr, c1, c2.1, by omega, by omega, c2.2⟩]; rfl
            · rw [if_neg c2, b1_f (fun x => c2 ⟨x.2.2.1, x.2.2.2.2.2.1, x.2.2.2.2.2.2⟩)]; rfl
          · rw [if_neg c1, b1_f (fun x => c1 x.2.1)]
  rw [e1, show S3 n (a1 X Y) + S4 n (a2 X Y) + S4 n (a3 X Y) = S3 n (fun p q r => a1 X Y p q r + (sm (fun s => a2 X Y p q r s) n + sm (fun s => a3 X Y p q r s) n)) from by
    rw [S3_add, S3_add, Nat.add_assoc]; rfl]
  refine sm_cong fun p hp => sm_cong fun q hq => ?_
  rw [sm_lt _ n q (by omega)]
  refine sm_cong fun r _ => ?_
  by_cases c : r < q
  · rw [if_pos c, e2 p q r hp hq c]
  · rw [if_neg c]
    show 0 = a1 X Y p q r + (sm (fun s => a2 X Y p q r s) n + sm (fun s => a3 X Y p q r s) n)
    unfold a1 a2 a3
    rw [b1_f (P := r < q ∧ bwB X Y p q r = true) (fun x => c x.1), show sm (fun s => b1 (r < q ∧ s < r ∧ p ≠ q ∧ p ≠ r ∧ s ≠ p ∧ wiB X Y p q r s = true)) n = 0 from by
      rw [← sm_0 n]; exact sm_cong fun s _ => b1_f (fun x => c x.1), show sm (fun s => b1 (r < q ∧ s < p ∧ s < r ∧ p ≠ q ∧ p ≠ r ∧ s ≠ q ∧ acB X Y s p r q = true)) n = 0 from by
      rw [← sm_0 n]; exact sm_cong fun s _ => b1_f (fun x => c x.1)]
theorem a1_le (G : GC n g X Y) : S3 n (a1 X Y) ≤ 220 := by
  have s1 : S3 n (a1 X Y) ≤ S3 n (fun p q r => b1 (p < r ∧ r < q ∧ bwB X Y p q r = true) + (b1 (r < p ∧ p < q ∧ bwB X Y p q r = true) + b1 (r < q ∧ q < p ∧ bwB X Y p q r = true))) := S3_mono (fun p q r _ _ _ => by
    unfold a1
    by_cases c : r < q ∧ bwB X Y p q r = true
    · rw [b1_t c]
      have d : q ≠ p ∧ r ≠ p := by
        have := c.2
        unfold bwB at this
        simp only [Bool.and_eq_true, decide_eq_true_eq] at this
        exact this.1
      have : p < r ∨ (r < p ∧ p < q) ∨ q < p := by omega
      rcases this with z | z | z
      · rw [b1_t (P := p < r ∧ r < q ∧ bwB X Y p q r = true) ⟨z, c.1, c.2⟩]; omega
      · rw [b1_t (P := r < p ∧ p < q ∧ bwB X Y p q r = true) ⟨z.1, z.2, c.2⟩]; omega
      · rw [b1_t (P := r < q ∧ q < p ∧ bwB X Y p q r = true) ⟨c.1, z, c.2⟩]; omega
    · rw [b1_f c]; omega)
  rw [S3_add, S3_add, S3_23 n (fun p q r => b1 (p < r ∧ r < q ∧ bwB X Y p q r = true)), (S3_23 n (fun p q r => b1 (r < p ∧ p < q ∧ bwB X Y p q r = true))).trans (S3_12 n _), S3_r n (fun p q r => b1 (r < q ∧ q < p ∧ bwB X Y p q r = true)), ← S3_add, ← S3_add] at s1
  refine Nat.le_trans s1 (Nat.le_trans (S3_mono (fun a b c ha hb hc => ?_)) (c3 n (by have := G.1; omega)))
  by_cases o : a < b ∧ b < c
  · rw [b1_t o]
    have := one_of_3 G ha hb hc
    have m1 : b1 (a < b ∧ b < c ∧ bwB X Y a c b = true) ≤ b1 (bwB X Y a c b = true) := by
      unfold b1
      by_cases z : bwB X Y a c b = true
      · rw [if_pos z]; split <;> omega
      · rw [if_neg (fun x => z x.2.2)]; omega
    have m2 : b1 (a < b ∧ b < c ∧ bwB X Y b c a = true) ≤ b1 (bwB X Y b c a = true) := by
      unfold b1
      by_cases z : bwB X Y b c a = true
      · rw [if_pos z]; split <;> omega
      · rw [if_neg (fun x => z x.2.2)]; omega
    have m3 : b1 (a < b ∧ b < c ∧ bwB X Y c b a = true) ≤ b1 (bwB X Y c b a = true) := by
      unfold b1
      by_cases z : bwB X Y c b a = true
      · rw [if_pos z]; split <;> omega
      · rw [if_neg (fun x => z x.2.2)]; omega
    show b1 (a < b ∧ b < c ∧ bwB X Y a c b = true) + (b1 (a < b ∧ b < c ∧ bwB X Y b c a = true) + b1 (a < b ∧ b < c ∧ bwB X Y c b a = true)) ≤ 1
    omega
  · rw [b1_f o]
    show b1 (a < b ∧ b < c ∧ bwB X Y a c b = true) + (b1 (a < b ∧ b < c ∧ bwB X Y b c a = true) + b1 (a < b ∧ b < c ∧ bwB X Y c b a = true)) ≤ 0
    rw [b1_f (fun x => o ⟨x.1, x.2.1⟩), b1_f (fun x => o ⟨x.1, x.2.1⟩), b1_f (fun x => o ⟨x.1, x.2.1⟩)]
    omega
theorem b1_and {P Q : Prop} [Decidable P] [Decidable Q] : b1 (P ∧ Q) ≤ b1 Q := by
  unfold b1
  by_cases z : Q
  · rw [if_pos z]; split <;> omega
  · rw [if_neg (fun x => z x.2)]; omega
theorem a23_le (hn : n ≤ 12) : S4 n (a2 X Y) + S4 n (a3 X Y) ≤ 495 := by
  have s2 : S4 n (a2 X Y) ≤ S4 n (fun p q r s => b1 ((p < s ∧ s < r ∧ r < q) ∧ wiB X Y p q r s = true) + (b1 ((s < p ∧ p < r ∧ r < q) ∧ wiB X Y p q r s = true) + (b1 ((s < r ∧ r < p ∧ p < q) ∧ wiB X Y p q r s = true) + b1 ((s < r ∧ r < q ∧ q < p) ∧ wiB X Y p q r s = true)))) := S4_mono (fun p q r s _ _ _ _ => by
    unfold a2
    by_cases c : r < q ∧ s < r ∧ p ≠ q ∧ p ≠ r ∧ s ≠ p ∧ wiB X Y p q r s = true
    · rw [b1_t c]
      obtain ⟨c1, c2, c3, c4, c5, c6⟩ := c
      have : p < s ∨ (s < p ∧ p < r) ∨ (r < p ∧ p < q) ∨ q < p := by omega
      rcases this with z | z | z | z
      · rw [b1_t (P := (p < s ∧ s < r ∧ r < q) ∧ wiB X Y p q r s = true) ⟨by omega, c6⟩]; omega
      · rw [b1_t (P := (s < p ∧ p < r ∧ r < q) ∧ wiB X Y p q r s = true) ⟨by omega, c6⟩]; omega
      · rw [b1_t (P := (s < r ∧ r < p ∧ p < q) ∧ wiB X Y p q r s = true) ⟨by omega, c6⟩]; omega
      · rw [b1_t (P := (s < r ∧ r < q ∧ q < p) ∧ wiB X Y p q r s = true) ⟨by omega, c6⟩]; omega
    · rw [b1_f c]; omega)
  have s3 : S4 n (a3 X Y) ≤ S4 n (fun p q r s => b1 ((s < p ∧ p < r ∧ r < q) ∧ acB X Y s p r q = true) + (b1 ((s < r ∧ r < p ∧ p < q) ∧ acB X Y s p r q = true) + b1 ((s < r ∧ r < q ∧ q < p) ∧ acB X Y s p r q = true))) := S4_mono (fun p q r s _ _ _ _ => by
    unfold a3
    by_cases c : r < q ∧ s < p ∧ s < r ∧ p ≠ q ∧ p ≠ r ∧ s ≠ q ∧ acB X Y s p r q = true
    · rw [b1_t c]
      obtain ⟨c1, c2, c3, c4, c5, c6, c7⟩ := c
      have : p < r ∨ (r < p ∧ p < q) ∨ q < p := by omega
      rcases this with z | z | z
      · rw [b1_t (P := (s < p ∧ p < r ∧ r < q) ∧ acB X Y s p r q = true) ⟨by omega, c7⟩]; omega
      · rw [b1_t (P := (s < r ∧ r < p ∧ p < q) ∧ acB X Y s p r q = true) ⟨by omega, c7⟩]; omega
      · rw [b1_t (P := (s < r ∧ r < q ∧ q < p) ∧ acB X Y s p r q = true) ⟨by omega, c7⟩]; omega
    · rw [b1_f c]; omega)
  rw [S4_add, S4_add, S4_add, S4_p1 n (fun p q r s => b1 ((p < s ∧ s < r ∧ r < q) ∧ wiB X Y p q r s = true)), S4_p2 n (fun p q r s => b1 ((s < p ∧ p < r ∧ r < q) ∧ wiB X Y p q r s = true)), S4_p3 n (fun p q r s => b1 ((s < r ∧ r < p ∧ p < q) ∧ wiB X Y p q r s = true)), S4_p4 n (fun p q r s => b1 ((s < r ∧ r < q ∧ q < p) ∧ wiB X Y p q r s = true)), ← S4_add, ← S4_add, ← S4_add] at s2
  rw [S4_add, S4_add, S4_p2 n (fun p q r s => b1 ((s < p ∧ p < r ∧ r < q) ∧ acB X Y s p r q = true)), S4_p3 n (fun p q r s => b1 ((s < r ∧ r < p ∧ p < q) ∧ acB X Y s p r q = true)), S4_p4 n (fun p q r s => b1 ((s < r ∧ r < q ∧ q < p) ∧ acB X Y s p r q = true)), ← S4_add, ← S4_add] at s3
  refine Nat.le_trans (Nat.add_le_add s2 s3) ?_
  rw [← S4_add]
  refine Nat.le_trans (S4_mono (fun a b c d ha hb hc hd => ?_)) (c4 n (by omega))
  show b1 ((a < b ∧ b < c ∧ c < d) ∧ wiB X Y a d c b = true) + (b1 ((a < b ∧ b < c ∧ c < d) ∧ wiB X Y b d c a = true) + (b1 ((a < b ∧ b < c ∧ c < d) ∧ wiB X Y c d b a = true) + b1 ((a < b ∧ b < c ∧ c < d) ∧ wiB X Y d c b a = true))) + (b1 ((a < b ∧ b < c ∧ c < d) ∧ acB X Y a b c d = true) + (b1 ((a < b ∧ b < c ∧ c < d) ∧ acB X Y a c b d = true) + b1 ((a < b ∧ b < c ∧ c < d) ∧ acB X Y a d b c = true))) ≤ b1 (a < b ∧ b < c ∧ c < d)
  by_cases o : a < b ∧ b < c ∧ c < d
  · rw [b1_t o]
    have := one_of_7 (X := X) (Y := Y) a b c d
    have i1 := b1_and (P := a < b ∧ b < c ∧ c < d) (Q := wiB X Y a d c b = true)
    have i2 := b1_and (P := a < b ∧ b < c ∧ c < d) (Q := wiB X Y b d c a = true)
    have i3 := b1_and (P := a < b ∧ b < c ∧ c < d) (Q := wiB X Y c d b a = true)
    have i4 := b1_and (P := a < b ∧ b < c ∧ c < d) (Q := wiB X Y d c b a = true)
    have i5 := b1_and (P := a < b ∧ b < c ∧ c < d) (Q := acB X Y a b c d = true)
    have i6 := b1_and (P := a < b ∧ b < c ∧ c < d) (Q := acB X Y a c b d = true)
    have i7 := b1_and (P := a < b ∧ b < c ∧ c < d) (Q := acB X Y a d b c = true)
    omega
  · rw [b1_f (fun x => o x.1), b1_f (fun x => o x.1), b1_f (fun x => o x.1), b1_f (fun x => o x.1), b1_f (fun x => o x.1), b1_f (fun x => o x.1), b1_f (fun x => o x.1)]
    omega
theorem mt_le (G : GC n g X Y) : (mt n X Y).length ≤ 715 := by
  have := a1_le G
  have := a23_le (X := X) (Y := Y) G.1
  rw [mt_len]
  omega
end ME
