/-! the crossings in their order -/
abbrev Sq : Type := Nat × (Nat → Nat × Nat)
section CR
variable {n g : Nat} {X Y : Nat → Int} {h h0 : pH}
def klb (X Y : Nat → Int) (x y : Nat × Nat) : Bool := decide (ovp X Y x * unp X y < ovp X Y y * unp X x)
theorem klb_iff {x y : Nat × Nat} : klb X Y x y = true ↔ klp X Y x y := decide_eq_true_iff
def psn (X Y : Nat → Int) (S : Nat → Nat × Nat) (x : Nat × Nat) : Nat → Nat
  | 0 => 0
  | m + 1 => if klb X Y x (S m) then psn X Y S x m else m + 1
def insS (S : Nat → Nat × Nat) (a : Nat) (x : Nat × Nat) : Nat → Nat × Nat := fun k => if k < a then S k else if k = a then x else S (k - 1)
def stp (X Y : Nat → Int) (s : Sq) (x : Nat × Nat) : Sq := if X x.1 = X x.2 then s else (s.1 + 1, insS s.2 (psn X Y s.2 x s.1) x)
def stI (X Y : Nat → Int) (p : Nat) (s : Sq) : Nat → Sq
  | 0 => s
  | d + 1 => stp X Y (stI X Y p s d) (p, p + 1 + d)
def stO (n : Nat) (X Y : Nat → Int) : Nat → Sq
  | 0 => (0, fun _ => (0, 0))
  | p + 1 => stI X Y p (stO n X Y p) (n - (p + 1))
theorem psn_ok (S : Nat → Nat × Nat) (x : Nat × Nat) : ∀ m, psn X Y S x m ≤ m ∧ (∀ i, psn X Y S x m < i → i ≤ m → klp X Y x (S (i - 1))) ∧ (psn X Y S x m = 0 ∨ ¬ klp X Y x (S (psn X Y S x m - 1))) := by
  intro m
  induction m with
  | zero => exact ⟨Nat.le_refl _, fun i h1 h2 => by omega, Or.inl rfl⟩
  | succ m ih =>
    unfold psn
    cases c : klb X Y x (S m) with
    | true =>
      rw [if_pos rfl]
      refine ⟨by omega, fun i h1 h2 => ?_, ih.2.2⟩
      by_cases e : i = m + 1
      · subst e
        exact klb_iff.mp c
      · exact ih.2.1 i h1 (by omega)
    | false =>
      rw [if_neg (by decide)]
      refine ⟨Nat.le_refl _, fun i h1 h2 => by omega, Or.inr ?_⟩
      intro z
      have := klb_iff.mpr z
      rw [show m + 1 - 1 = m by omega, c] at this
      exact absurd this (by decide)
def VS (n : Nat) (X : Nat → Int) (s : Sq) : Prop := ∀ k, k < s.1 → okp n X (s.2 k)
theorem VS.ins {m a : Nat} {S : Nat → Nat × Nat} {x : Nat × Nat} (V : VS n X (m, S)) (hx : okp n X x) (ha : a ≤ m) : VS n X (m + 1, insS S a x) := by
  intro k hk
  have hk : k < m + 1 := hk
  show okp n X (insS S a x k)
  unfold insS
  by_cases c1 : k < a
  · rw [if_pos c1]; exact V k (show k < m by omega)
  · rw [if_neg c1]
    by_cases c2 : k = a
    · rw [if_pos c2]; exact hx
    · rw [if_neg c2]; exact V (k - 1) (show k - 1 < m by omega)
theorem vs_stp {s : Sq} {p q : Nat} (V : VS n X s) (hpq : p < q) (hq : q < n) : VS n X (stp X Y s (p, q)) := by
  unfold stp
  by_cases c : X p = X q
  · rw [if_pos c]; exact V
  · rw [if_neg c]
    exact VS.ins (m := s.1) (S := s.2) V ⟨hpq, hq, c⟩ (psn_ok s.2 (p, q) s.1).1
theorem stp_le (s : Sq) (x : Nat × Nat) : (stp X Y s x).1 ≤ s.1 + 1 := by
  unfold stp
  split
  · omega
  · exact Nat.le_refl _
/-- how many pairs come before -/
def tbn (n : Nat) : Nat → Nat
  | 0 => 0
  | p + 1 => tbn n p + (n - (p + 1))
theorem tbn_0 : ∀ n, n < 13 → ∀ p, p < 13 → tbn n p ≤ 66 := by decide
theorem stI_le (p : Nat) (s : Sq) : ∀ d, (stI X Y p s d).1 ≤ s.1 + d := by
  intro d
  induction d with
  | zero => exact Nat.le_refl _
  | succ d ih =>
    have := stp_le (X := X) (Y := Y) (stI X Y p s d) (p, p + 1 + d)
    show (stp X Y (stI X Y p s d) (p, p + 1 + d)).1 ≤ _
    omega
theorem stO_le : ∀ p, (stO n X Y p).1 ≤ tbn n p := by
  intro p
  induction p with
  | zero => exact Nat.le_refl _
  | succ p ih =>
    have := stI_le (X := X) (Y := Y) p (stO n X Y p) (n - (p + 1))
    show (stI X Y p (stO n X Y p) (n - (p + 1))).1 ≤ tbn n p + (n - (p + 1))
    omega
theorem vs_stI {p : Nat} (hp : p < n) {s : Sq} (V : VS n X s) : ∀ d, p + d < n → VS n X (stI X Y p s d) := by
  intro d
  induction d with
  | zero => intro _; exact V
  | succ d ih => intro hd; exact vs_stp (ih (by omega)) (by omega) (by omega)
theorem vs_stO : ∀ p, p ≤ n → VS n X (stO n X Y p) := by
  intro p
  induction p with
  | zero => intro _ k hk; exact absurd hk (by show ¬ k < 0; omega)
  | succ p ih => intro hp; exact vs_stI (by omega) (ih (by omega)) _ (by omega)
theorem lt66 (hn : n ≤ 12) {p d : Nat} (hd : p + 1 + d < n) : (stI X Y p (stO n X Y p) d).1 < 66 := by
  have a := stI_le (X := X) (Y := Y) p (stO n X Y p) d
  have b := stO_le (n := n) (X := X) (Y := Y) p
  have c := tbn_0 n (by omega) (p + 1) (by omega)
  have e : tbn n (p + 1) = tbn n p + (n - (p + 1)) := rfl
  omega
theorem all66 (hn : n ≤ 12) : (stO n X Y n).1 ≤ 66 := Nat.le_trans (stO_le n) (tbn_0 n (by omega) n (by omega))
/-- the class's heap -/
def LC (h0 h : pH) (s : Sq) : Prop := Fs [24, 25] h0 h ∧ hI h 24 1 = nI s.1 ∧ ∀ k, k < s.1 → hI h 25 k = nI (16 * (s.2 k).1 + (s.2 k).2)
theorem lesser_ok {s : Sq} (L : LC h0 h s) (V : VS n X s) (hn : n ≤ 12) (hm : s.1 ≤ 66) {k : Nat} (hk : k < s.1) : f_Lines_lesser (nI k) h = some (nI (s.2 k).1) ∧ f_Lines_other (nI k) h = some (nI (s.2 k).2) := by
  obtain ⟨v1, v2, -⟩ := V k hk
  have nn : ¬ nI k < 0 := by rw [lt0x, nI_iI, iI_toInt (by unfold InR; omega)]; omega
  unfold f_Lines_lesser f_Lines_other
  rw [L.2.1, if_neg nn, if_neg (lt_no hk (by omega)), if_neg nn, if_neg (lt_no hk (by omega)), if_neg (gd (by omega) (by omega)), if_neg (gd (by omega) (by omega)), cla (by omega), L.2.2 k hk, show (4 : Int32) = nI 4 from rfl, jshr_ok (by omega) (by omega), show (15 : Int32) = nI (2 ^ 4 - 1) from rfl, nI_and, Nat.and_two_pow_sub_one_eq_mod]
  exact ⟨by congr 2; omega, by congr 2; omega⟩
theorem jabs_ok {a : Int} (h : InR a) : jabs (iI a) = nI a.natAbs := by
  unfold jabs
  simp only [ge0 h]
  rw [nI_iI]
  by_cases c : 0 ≤ a
  · rw [if_pos c]; congr 1; omega
  · rw [if_neg c, show (0 : Int32) = iI 0 from rfl, iI_sub]; congr 1; omega
theorem over_ok (C : CC h 8 n g X Y) (G : GC n g X Y) {s : Sq} (L : LC h0 h s) (V : VS n X s) (hm : s.1 ≤ 66) {k : Nat} (hk : k < s.1) : f_Lines_over 8 (nI k) h = some (iI (ovp X Y (s.2 k))) ∧ f_Lines_under 8 (nI k) h = some (nI (unp X (s.2 k))) := by
  have hn := G.1
  obtain ⟨l1, l2⟩ := lesser_ok L V hn hm hk
  obtain ⟨v1, v2, v3⟩ := V k hk
  have hp : (s.2 k).1 < n := by omega
  have b1 := G.2.2.1 _ hp
  have b2 := G.2.2.1 _ v2
  unfold f_Lines_over f_Lines_under
  rw [l1, l2]
  simp only [Option.bind_some]
  rw [if_neg (gd (by omega) (by omega)), if_neg (gd (by omega) (by omega)), if_neg (gd (by omega) (by omega)), if_neg (gd (by omega) (by omega)), if_neg (gd (by omega) (by omega)), if_neg (gd (by omega) (by omega)), cla (by omega), cla (by omega), (C.2.2 _ hp).1, (C.2.2 _ hp).2, (C.2.2 _ v2).1, (C.2.2 _ v2).2, iI_sub, iI_sub, iI_neg, jabs_ok (by unfold InR; omega)]
  simp only [iI_le (show InR (X (s.2 k).2) by unfold InR; omega) (show InR (X (s.2 k).1) by unfold InR; omega)]
  refine ⟨?_, rfl⟩
  unfold ovp
  split <;> rfl
theorem cmp_ok {a b : Int} (ha : InR a) (hb : InR b) : f_J_compare (iI a) (iI b) = if a < b then -1 else if a = b then 0 else 1 := by
  unfold f_J_compare
  simp only [iI_le hb ha, iI_eq ha hb]
  by_cases c : a < b
  · rw [if_neg (by omega), if_pos c]
  · rw [if_pos (by omega), if_neg c]
theorem cmpX_ok (C : CC h 8 n g X Y) (G : GC n g X Y) {s : Sq} (L : LC h0 h s) (V : VS n X s) (hm : s.1 ≤ 66) {i j : Nat} (hi : i < s.1) (hj : j < s.1) : f_Lines_compareX 8 (nI i) (nI j) h = some (if ovp X Y (s.2 i) * unp X (s.2 j) < ovp X Y (s.2 j) * unp X (s.2 i) then -1 else if ovp X Y (s.2 i) * unp X (s.2 j) = ovp X Y (s.2 j) * unp X (s.2 i) then 0 else 1) := by
  obtain ⟨o1, u1⟩ := over_ok C G L V hm hi
  obtain ⟨o2, u2⟩ := over_ok C G L V hm hj
  obtain ⟨b1, b2⟩ := ov_in G (V i hi)
  obtain ⟨b3, b4⟩ := ov_in G (V j hj)
  have m1 := mul_b (a := ovp X Y (s.2 i)) (b := (unp X (s.2 j) : Int)) (A := 100) (B := 100) b1 (by omega)
  have m2 := mul_b (a := ovp X Y (s.2 j)) (b := (unp X (s.2 i) : Int)) (A := 100) (B := 100) b3 (by omega)
  unfold f_Lines_compareX
  rw [o1, u1, o2, u2]
  simp only [Option.bind_some]
  rw [nI_iI, nI_iI, iI_mul, iI_mul, cmp_ok (by unfold InR; omega) (by unfold InR; omega)]
/-- the last one sinks to its place -/
theorem sink_ok (C : CC h0 8 n g X Y) (G : GC n g X Y) {m : Nat} {S : Nat → Nat × Nat} {x : Nat × Nat} (hm : m < 66) (V : VS n X (m, S)) (hx : okp n X x) (L : LC h0 h (m + 1, insS S m x)) : ∃ h', f_Lines_sinkLast 8 h = some h' ∧ LC h0 h' (m + 1, insS S (psn X Y S x m) x) := by
  obtain ⟨p1, p2, p3⟩ := psn_ok (X := X) (Y := Y) S x m
  generalize psn X Y S x m = a at *
  unfold f_Lines_sinkLast
  have e0 : hI h 24 1 - 1 = nI m := by
    rw [L.2.1, show (1 : Int32) = nI 1 from rfl, pk_sub (by show 1 ≤ m + 1; omega)]
    rfl
  rw [e0]
  refine lp_inv (f := fun s => f_Lines_sinkLast_L1 8 s.1 s.2) (fun t s => s.1 = nI (m - t) ∧ LC h0 s.2 (m + 1, insS S (m - t) x)) (fun r => LC h0 r (m + 1, insS S a x)) (m - a) ?_ ?_ ⟨rfl, L⟩ (by unfold lpN; omega)
  · rintro t ⟨b, h'⟩ ht ⟨rfl, L'⟩
    have L' : LC h0 h' (m + 1, insS S (m - t) x) := L'
    obtain ⟨i, hi⟩ : ∃ i, m - t = i + 1 := ⟨m - t - 1, by omega⟩
    have hi2 : m - (t + 1) = i := by omega
    rw [hi] at L'
    have C' : CC h' 8 n g X Y := C.fs L'.1 (by decide) (by rw [rf8_0]; decide) (by rw [rf8_1]; decide)
    have V' : VS n X (m + 1, insS S (i + 1) x) := V.ins hx (by omega)
    show ∃ s', f_Lines_sinkLast_L1 8 (nI (m - t)) h' = some (.inl s') ∧ s'.1 = nI (m - (t + 1)) ∧ LC h0 s'.2 (m + 1, insS S (m - (t + 1)) x)
    rw [hi, hi2]
    unfold f_Lines_sinkLast_L1
    have s1 : nI (i + 1) - 1 = nI i := by rw [show (1 : Int32) = nI 1 from rfl, pk_sub (by omega)]; congr 1
    have s2 : nI (i + 1) + -1 = nI i := by rw [nI_iI, nI_iI, show (-1 : Int32) = iI (-1) from rfl, iI_add]; congr 1; omega
    have k1 : insS S (i + 1) x (i + 1) = x := by unfold insS; rw [if_neg (by omega), if_pos rfl]
    have k2 : insS S (i + 1) x i = S i := by unfold insS; rw [if_pos (by omega)]
    have kl : klp X Y x (S i) := p2 (i + 1) (by omega) (by omega)
    unfold klp at kl
    have cx := cmpX_ok C' G L' V' (show m + 1 ≤ 66 by omega) (i := i + 1) (j := i) (show i + 1 < m + 1 by omega) (show i < m + 1 by omega)
    simp only [k1, k2] at cx
    rw [if_pos kl] at cx
    have d1 : hI h' 25 (i + 1) = nI (16 * x.1 + x.2) := by rw [L'.2.2 (i + 1) (show i + 1 < m + 1 by omega)]; simp only [k1]
    have d2 : hI h' 25 i = nI (16 * (S i).1 + (S i).2) := by rw [L'.2.2 i (show i < m + 1 by omega)]; simp only [k2]
    rw [if_neg (show ¬ nI (i + 1) ≤ 0 from nI_ge (a := 0) (by omega) (by omega)), s1, cx]
    simp only [Option.bind_some]
    rw [if_neg (by decide), if_neg (gd (by omega) (by omega)), if_neg (gd (by omega) (by omega)), cla (by omega), cla (by omega), d1, d2, s2]
    refine ⟨_, rfl, rfl, (L'.1.set (by decide)).set (by decide), ?_, fun k hk => ?_⟩
    · show hI (sI (sI h' 25 (i + 1) _) 25 i _) 24 1 = _
      rw [hI_n (by omega), hI_n (by omega)]
      exact L'.2.1
    · have hk : k < m + 1 := hk
      show hI (sI (sI h' 25 (i + 1) _) 25 i _) 25 k = nI (16 * (insS S i x k).1 + (insS S i x k).2)
      by_cases c1 : k = i
      · subst c1
        rw [hI_s, show insS S k x k = x from by unfold insS; rw [if_neg (by omega), if_pos rfl]]
      · rw [hI_n (by omega)]
        by_cases c2 : k = i + 1
        · subst c2
          rw [hI_s, show insS S i x (i + 1) = S i from by unfold insS; rw [if_neg (by omega), if_neg (by omega)]; rfl]
        · rw [hI_n (by omega), L'.2.2 k hk]
          have : insS S (i + 1) x k = insS S i x k := by
            unfold insS
            by_cases c3 : k < i
            · rw [if_pos (by omega), if_pos c3]
            · rw [if_neg (by omega), if_neg (by omega), if_neg c3, if_neg c1]
          simp only [this]
  · rintro ⟨b, h'⟩ ⟨rfl, L'⟩
    have L' : LC h0 h' (m + 1, insS S (m - (m - a)) x) := L'
    rw [show m - (m - a) = a by omega] at L'
    show ∃ r, f_Lines_sinkLast_L1 8 (nI (m - (m - a))) h' = some (.inr r) ∧ LC h0 r (m + 1, insS S a x)
    rw [show m - (m - a) = a by omega]
    unfold f_Lines_sinkLast_L1
    by_cases z : a = 0
    · subst z
      rw [if_pos (show nI 0 ≤ 0 by decide)]
      exact ⟨_, rfl, L'⟩
    · have C' : CC h' 8 n g X Y := C.fs L'.1 (by decide) (by rw [rf8_0]; decide) (by rw [rf8_1]; decide)
      have V' : VS n X (m + 1, insS S a x) := V.ins hx p1
      have s1 : nI a - 1 = nI (a - 1) := by rw [show (1 : Int32) = nI 1 from rfl, pk_sub (by omega)]
      have k1 : insS S a x a = x := by unfold insS; rw [if_neg (by omega), if_pos rfl]
      have k2 : insS S a x (a - 1) = S (a - 1) := by unfold insS; rw [if_pos (by omega)]
      have kl := p3.resolve_left z
      unfold klp at kl
      have cx := cmpX_ok C' G L' V' (show m + 1 ≤ 66 by omega) (i := a) (j := a - 1) (show a < m + 1 by omega) (show a - 1 < m + 1 by omega)
      simp only [k1, k2] at cx
      rw [if_neg kl] at cx
      rw [if_neg (show ¬ nI a ≤ 0 from nI_ge (a := 0) (by omega) (by omega)), s1, cx]
      simp only [Option.bind_some]
      rw [if_pos (by split <;> decide)]
      exact ⟨_, rfl, L'⟩
theorem cross_ok (C : CC h 8 n g X Y) (G : GC n g X Y) : ∃ h', f_Lines_cross 8 h = some h' ∧ LC h h' (stO n X Y n) := by
  have hn := G.1
  unfold f_Lines_cross
  refine lp_inv (f := fun s => f_Lines_cross_L1 8 s.1 s.2) (fun p s => s.1 = nI p ∧ LC h s.2 (stO n X Y p)) (fun r => LC h r (stO n X Y n)) n ?_ ?_ ⟨rfl, Fs.rfl'.set (by decide), by rw [hI_s]; rfl, fun k hk => absurd hk (by show ¬ k < 0; omega)⟩ (by unfold lpN; omega)
  · rintro p ⟨a, h'⟩ hp ⟨rfl, L⟩
    have L : LC h h' (stO n X Y p) := L
    have C' : CC h' 8 n g X Y := C.fs L.1 (by decide) (by rw [rf8_0]; decide) (by rw [rf8_1]; decide)
    show ∃ s', f_Lines_cross_L1 8 (nI p) h' = some (.inl s') ∧ s'.1 = nI (p + 1) ∧ LC h s'.2 (stI X Y p (stO n X Y p) (n - (p + 1)))
    unfold f_Lines_cross_L1
    rw [C'.1, if_neg (lt_no hp (by omega)), nI_1]
    obtain ⟨r, e1, s2, rfl, e2, e3⟩ := lp_inv (f := fun s => f_Lines_cross_L2 8 (nI p) s.1 s.2) (fun d s => s.1 = nI (p + 1 + d) ∧ LC h s.2 (stI X Y p (stO n X Y p) d)) (fun r => ∃ s' : Int32 × pH, r = .inl s' ∧ s'.1 = nI (p + 1) ∧ LC h s'.2 (stI X Y p (stO n X Y p) (n - (p + 1)))) (n - (p + 1)) (by
      rintro d ⟨a, h'⟩ hd ⟨rfl, L⟩
      have L : LC h h' (stI X Y p (stO n X Y p) d) := L
      have C' : CC h' 8 n g X Y := C.fs L.1 (by decide) (by rw [rf8_0]; decide) (by rw [rf8_1]; decide)
      have hq : p + 1 + d < n := by omega
      have m66 := lt66 (X := X) (Y := Y) hn hq
      have V : VS n X (stI X Y p (stO n X Y p) d) := vs_stI hp (vs_stO p (by omega)) d (by omega)
      show ∃ s', f_Lines_cross_L2 8 (nI p) (nI (p + 1 + d)) h' = some (.inl s') ∧ s'.1 = nI (p + 1 + d + 1) ∧ LC h s'.2 (stp X Y (stI X Y p (stO n X Y p) d) (p, p + 1 + d))
      generalize hq' : p + 1 + d = q at *
      generalize stI X Y p (stO n X Y p) d = s at *
      obtain ⟨m, S⟩ := s
      have m66 : m < 66 := m66
      have b1 := G.2.2.1 p hp
      have b2 := G.2.2.1 q hq
      unfold f_Lines_cross_L2
      rw [C'.1, if_neg (lt_no hq (by omega)), if_neg (gd (by omega) (by omega)), if_neg (gd (by omega) (by omega)), cla (by omega), cla (by omega), (C'.2.2 p hp).1, (C'.2.2 q hq).1, nI_1]
      simp only [iI_eq (show InR (X p) by unfold InR; omega) (show InR (X q) by unfold InR; omega)]
      unfold stp
      by_cases z : X p = X q
      · rw [if_pos z, if_pos z]
        exact ⟨_, rfl, rfl, L⟩
      · rw [if_neg z, if_neg z, hI_n (h := h') (o := 25) (a := 24) (b := 1) (by omega), L.2.1]
        show ∃ s', (if (66 : Int32) ≤ nI m then _ else _) = _ ∧ _
        rw [if_neg (show ¬ (66 : Int32) ≤ nI m from nI_ge (b := 66) m66 (by omega)), if_neg (show ¬ (nI m < 0 ∨ 66 ≤ (nI m).toNatClampNeg) from gd (by omega) (by omega)), show (nI m).toNatClampNeg = m from cla (by omega), show (16 : Int32) = nI 16 from rfl, pk_mul, nI_add, show nI m + 1 = nI (m + 1) from nI_1 m]
        have L2 : LC h (sI (sI h' 25 m (nI (16 * p + q))) 24 1 (nI (m + 1))) (m + 1, insS S m (p, q)) := by
          refine ⟨(L.1.set (by decide)).set (by decide), by rw [hI_s], fun k hk => ?_⟩
          have hk : k < m + 1 := hk
          show _ = nI (16 * (insS S m (p, q) k).1 + (insS S m (p, q) k).2)
          unfold insS
          by_cases c : k = m
          · subst c
            rw [hI_n (by omega), hI_s, if_neg (by omega), if_pos rfl]
          · rw [hI_n (by omega), hI_n (by omega), if_pos (by omega)]
            exact L.2.2 k (show k < m by omega)
        obtain ⟨h2, e1, e2⟩ := sink_ok (h0 := h) C G m66 V ⟨show p < q by omega, hq, z⟩ L2
        rw [e1]
        exact ⟨_, rfl, rfl, e2⟩) (by
      rintro ⟨a, h'⟩ ⟨rfl, L⟩
      have L : LC h h' (stI X Y p (stO n X Y p) (n - (p + 1))) := L
      have C' : CC h' 8 n g X Y := C.fs L.1 (by decide) (by rw [rf8_0]; decide) (by rw [rf8_1]; decide)
      show ∃ r, f_Lines_cross_L2 8 (nI p) (nI (p + 1 + (n - (p + 1)))) h' = some (.inr r) ∧ _
      unfold f_Lines_cross_L2
      rw [C'.1, show p + 1 + (n - (p + 1)) = n by omega, if_pos (ge_yes (Nat.le_refl _) (by omega)), nI_1]
      exact ⟨_, rfl, _, rfl, rfl, L⟩) (n := lpN) (s := (nI (p + 1), h')) ⟨rfl, L⟩ (by unfold lpN; omega)
    rw [e1]
    exact ⟨s2, rfl, e2, e3⟩
  · rintro ⟨a, h'⟩ ⟨rfl, L⟩
    have L : LC h h' (stO n X Y n) := L
    have C' : CC h' 8 n g X Y := C.fs L.1 (by decide) (by rw [rf8_0]; decide) (by rw [rf8_1]; decide)
    show ∃ r, f_Lines_cross_L1 8 (nI n) h' = some (.inr r) ∧ _
    unfold f_Lines_cross_L1
    rw [C'.1, if_pos (ge_yes (Nat.le_refl _) (by omega))]
    exact ⟨_, rfl, L⟩
end CR
