/-! the most in convex position; ways that cross -/
section CX
variable {n g : Nat} {X Y : Nat → Int} {h h0 : pH} {o : Nat}
/-- a set without a point between, within others -/
def cxB (n : Nat) (X Y : Nat → Int) (s : Nat) : Bool := !ex (fun k => decide (pct ((mt n X Y).getD k (0, 0)).1 ≤ 1 ∧ (((mt n X Y).getD k (0, 0)).1 ||| ((mt n X Y).getD k (0, 0)).2) &&& s = ((mt n X Y).getD k (0, 0)).1 ||| ((mt n X Y).getD k (0, 0)).2)) (mt n X Y).length
theorem cx_iff0 {s : Nat} : cxB n X Y s = true ↔ ∀ ab, ab ∈ mt n X Y → pct ab.1 ≤ 1 → ¬ (ab.1 ||| ab.2) &&& s = ab.1 ||| ab.2 := by
  unfold cxB
  rw [Bool.not_eq_true', ex_no]
  constructor
  · intro H ab m hp hu
    obtain ⟨k, hk, e⟩ := List.mem_iff_getElem.mp m
    have := H k hk
    rw [decide_eq_false_iff_not, gD _ _ hk, e] at this
    exact this ⟨hp, hu⟩
  · intro H k hk
    rw [decide_eq_false_iff_not, gD _ _ hk]
    exact fun z => H _ (List.getElem_mem hk) z.1 z.2
theorem pct_1 : ∀ p, p < 12 → pct (2 ^ p) = 1 := by decide
theorem pct_2 : ∀ p, p < 12 → ∀ q, q < 12 → q ≠ p → pct (2 ^ q ||| 2 ^ p) = 2 := by decide +kernel
theorem cx_iff (hn : n ≤ 12) {s : Nat} : cxB n X Y s = true ↔ (∀ p q r, p < n → q < n → r < n → s.testBit p = true → s.testBit q = true → s.testBit r = true → bwB X Y p q r = true → False) ∧ (∀ p q r u, p < n → q < n → r < n → u < n → p ≠ q → p ≠ r → p ≠ u → q ≠ r → q ≠ u → r ≠ u → s.testBit p = true → s.testBit q = true → s.testBit r = true → s.testBit u = true → wiB X Y p q r u = true → False) := by
  rw [cx_iff0]
  constructor
  · intro H
    constructor
    · intro p q r hp hq hr bp bq br w
      have hne : q ≠ r := fun e => by
        subst e
        unfold bwB at w
        simp only [Bool.and_eq_true, decide_eq_true_eq] at w
        have := DT3_self (X := X) (Y := Y) p q
        omega
      obtain ⟨a, b, m, rfl, rfl⟩ := mt_bw' hp hq hr hne w
      refine H _ m (by rw [pct_1 p (by omega)]; omega) ?_
      simp only [subo, sub1]
      exact ⟨bp, bq, br⟩
    · intro p q r u hp hq hr hu n1 n2 n3 n4 n5 n6 bp bq br bu w
      obtain ⟨a, b, m, rfl, rfl⟩ := mt_wi' hp hq hr hu n1 n2 n3 n4 n5 n6 w
      refine H _ m (by rw [pct_1 p (by omega)]; omega) ?_
      simp only [subo, sub1]
      exact ⟨bp, ⟨bq, br⟩, bu⟩
  · rintro ⟨H1, H2⟩ ab m hp hu
    rcases mt_cases m with ⟨p, q, r, hp', hq, hr, w, rfl⟩ | ⟨p, q, r, u, hp', hq, hr, hu', n1, n2, n3, w, rfl⟩ | ⟨p, q, r, u, hp', hq, hr, hu', hur, n1, n2, w, rfl⟩
    · simp only [subo, sub1] at hu
      exact H1 p q r hp' hq (by omega) hu.1 hu.2.1 hu.2.2 w
    · simp only [subo, sub1] at hu
      exact H2 p q r u hp' hq (by omega) (by omega) n1 n2 (fun e => n3 e.symm) (by omega) (by omega) (by omega) hu.1 hu.2.1.1 hu.2.1.2 hu.2.2 w
    · have : pct (2 ^ u ||| 2 ^ p) ≤ 1 := hp
      rw [pct_2 p (by omega) u (by omega) (by omega)] at this
      omega
theorem pct_sub {a b : Nat} (hb : b < 4096) (H : ∀ i, a.testBit i = true → b.testBit i = true) : pct a ≤ pct b ∧ a < 4096 := by
  have e : a &&& b = a := sub_iff.mpr H
  have ha : a < 4096 := by rw [← e]; exact and_lt4 hb
  refine ⟨?_, ha⟩
  rw [pct_ctn ha, pct_ctn hb]
  exact ctn_mono (fun k _ => H k)
theorem pct_lt {a b j : Nat} (hb : b < 4096) (H : ∀ i, a.testBit i = true → b.testBit i = true) (h1 : a.testBit j = false) (h2 : b.testBit j = true) : pct a < pct b := by
  have ha := (pct_sub hb H).2
  have hj : j < 12 := by
    by_cases z : j < 12
    · exact z
    · have : 2 ^ 12 ≤ 2 ^ j := Nat.pow_le_pow_right (by decide) (by omega)
      rw [Nat.testBit_lt_two_pow (by omega)] at h2
      exact absurd h2 (by decide)
  rw [pct_ctn ha, pct_ctn hb]
  exact ctn_lt (fun k _ => H k) hj h1 h2
theorem p3_0 : ∀ i, i < 144 → ∀ r, r < 12 → i / 12 ≠ i % 12 → i / 12 ≠ r → i % 12 ≠ r → pct (2 ^ (i / 12) ||| 2 ^ (i % 12) ||| 2 ^ r) = 3 := by decide +kernel
theorem pct_3 {p q r : Nat} (hp : p < 12) (hq : q < 12) (hr : r < 12) (n1 : p ≠ q) (n2 : p ≠ r) (n3 : q ≠ r) : pct (2 ^ p ||| 2 ^ q ||| 2 ^ r) = 3 := by
  have e := p3_0 (12 * p + q) (by omega) r hr
  rw [show (12 * p + q) / 12 = p by omega, show (12 * p + q) % 12 = q by omega] at e
  exact e n1 n2 n3
/-- three points on one line: one lies between -/
theorem line_bw (G : GC n g X Y) {i j k : Nat} (hi : i < n) (hj : j < n) (hk : k < n) (nij : i ≠ j) (nik : i ≠ k) (njk : j ≠ k) (t : T3 X Y i j k = 0) : bwB X Y i j k = true ∨ bwB X Y j i k = true ∨ bwB X Y k i j = true := by
  by_cases c1 : DT3 X Y i j k < 0
  · left; unfold bwB; simp [c1, t, nij.symm, nik.symm]
  by_cases c2 : DT3 X Y j i k < 0
  · right; left
    have : T3 X Y j i k = 0 := by have := (T3_p (X := X) (Y := Y) i j k).2.2.2.1; omega
    unfold bwB; simp [c2, this, nij, njk.symm]
  by_cases c3 : DT3 X Y k i j < 0
  · right; right
    have : T3 X Y k i j = 0 := by have := (T3_p (X := X) (Y := Y) i j k).2.1; omega
    unfold bwB; simp [c3, this, nik, njk]
  exfalso
  have ds : ∀ a b, a < n → b < n → a ≠ b → 0 < (X a - X b) * (X a - X b) + (Y a - Y b) * (Y a - Y b) := fun a b ha hb hne => sq_pos (by
    by_cases x : X a = X b
    · by_cases y : Y a = Y b
      · exact absurd (G.2.2.2 a b ha hb x y) hne
      · omega
    · omega)
  have d1 := ds j i hj hi (fun e => nij e.symm)
  have d2 := ds k i hk hi (fun e => nik e.symm)
  have d3 := ds j k hj hk njk
  unfold DT3 at c1 c2 c3
  unfold T3 TR at t
  refine line3 (u1 := X j - X i) (u2 := Y j - Y i) (v1 := X k - X i) (v2 := Y k - Y i) (by omega) ?_ ?_ ?_ d1 d2 ?_
  · grind
  · grind
  · grind
  · grind
theorem cx_p3 (G : GC n g X Y) {s : Nat} (H : P3 n X Y s) : cxB n X Y s = false := by
  refine nt (fun z => ?_)
  obtain ⟨i, j, k, hi, hj, hk, nij, nik, njk, bi, bj, bk, t⟩ := H
  have c := ((cx_iff G.1).mp z).1
  rcases line_bw G hi hj hk nij nik njk t with w | w | w
  · exact c i j k hi hj hk bi bj bk w
  · exact c j i k hj hi hk bj bi bk w
  · exact c k i j hk hi hj bk bi bj w
theorem bw_p3 {s p q r : Nat} (hp : p < n) (hq : q < n) (hr : r < n) (bp : s.testBit p = true) (bq : s.testBit q = true) (br : s.testBit r = true) (w : bwB X Y p q r = true) : P3 n X Y s := by
  have hne : q ≠ r := fun e => by
    subst e
    unfold bwB at w
    simp only [Bool.and_eq_true, decide_eq_true_eq] at w
    have := DT3_self (X := X) (Y := Y) p q
    omega
  unfold bwB at w
  simp only [Bool.and_eq_true, decide_eq_true_eq] at w
  exact ⟨p, q, r, hp, hq, hr, fun e => w.1.1 e.symm, fun e => w.1.2 e.symm, hne, bp, bq, br, w.2.1⟩
/-- fewer points -/
theorem cx_mono (hn : n ≤ 12) {s t : Nat} (H : ∀ i, t.testBit i = true → s.testBit i = true) (h : cxB n X Y s = true) : cxB n X Y t = true := by
  rw [cx_iff hn] at h ⊢
  exact ⟨fun p q r hp hq hr bp bq br => h.1 p q r hp hq hr (H p bp) (H q bq) (H r br), fun p q r u hp hq hr hu n1 n2 n3 n4 n5 n6 bp bq br bu => h.2 p q r u hp hq hr hu n1 n2 n3 n4 n5 n6 (H p bp) (H q bq) (H r br) (H u bu)⟩
theorem cx_small (G : GC n g X Y) {s : Nat} (hs : s < 4096) (h2 : pct s ≤ 2) : cxB n X Y s = true := by
  have hn := G.1
  rw [cx_iff hn]
  have no3 : ∀ i j k, i < 12 → j < 12 → k < 12 → i ≠ j → i ≠ k → j ≠ k → s.testBit i = true → s.testBit j = true → s.testBit k = true → False := by
    intro i j k hi hj hk n1 n2 n3 bi bj bk
    have := (pct_sub hs (a := 2 ^ i ||| 2 ^ j ||| 2 ^ k) (fun u hu => by
      rw [b3] at hu
      simp only [Bool.or_eq_true, decide_eq_true_eq] at hu
      rcases hu with (rfl | rfl) | rfl
      · exact bi
      · exact bj
      · exact bk)).1
    rw [pct_3 hi hj hk n1 n2 n3] at this
    omega
  refine ⟨fun p q r hp hq hr bp bq br w => ?_, fun p q r u hp hq hr hu n1 n2 n3 n4 n5 n6 bp bq br bu w => no3 p q r (by omega) (by omega) (by omega) n1 n2 n4 bp bq br⟩
  obtain ⟨i, j, k, hi, hj, hk, n1, n2, n3, bi, bj, bk, -⟩ := bw_p3 hp hq hr bp bq br w
  exact no3 i j k (by omega) (by omega) (by omega) n1 n2 n3 bi bj bk
theorem four_bits {s p q r u : Nat} (hs : s < 4096) (h4 : pct s ≤ 4) (hp : p < 12) (hq : q < 12) (hr : r < 12) (hu : u < 12) (d : p ≠ q ∧ p ≠ r ∧ p ≠ u ∧ q ≠ r ∧ q ≠ u ∧ r ≠ u) (bp : s.testBit p = true) (bq : s.testBit q = true) (br : s.testBit r = true) (bu : s.testBit u = true) : (∀ i, s.testBit i = true ↔ i = p ∨ i = q ∨ i = r ∨ i = u) := by
  intro i
  constructor
  · intro bi
    by_cases z : i = p ∨ i = q ∨ i = r ∨ i = u
    · exact z
    exfalso
    have sub : ∀ v, (2 ^ p ||| 2 ^ q ||| 2 ^ r).testBit v = true → (2 ^ p ||| 2 ^ q ||| 2 ^ r ||| 2 ^ u).testBit v = true := fun v hv => by
      rw [b3] at hv
      simp only [Bool.or_eq_true, decide_eq_true_eq] at hv
      rw [b4]
      omega
    have sub2 : ∀ v, (2 ^ p ||| 2 ^ q ||| 2 ^ r ||| 2 ^ u).testBit v = true → s.testBit v = true := fun v hv => by
      rcases (b4 v).mp hv with rfl | rfl | rfl | rfl
      · exact bp
      · exact bq
      · exact br
      · exact bu
    have l4 := (pct_sub hs sub2).2
    have a1 := pct_lt l4 sub (j := u) (nt (fun z => by
      rw [b3] at z
      simp only [Bool.or_eq_true, decide_eq_true_eq] at z
      omega)) ((b4 u).mpr (by omega))
    have a2 := pct_lt hs sub2 (j := i) (nt (fun z' => z ((b4 i).mp z'))) bi
    rw [pct_3 hp hq hr d.1 d.2.1 d.2.2.2.1] at a1
    omega
  · rintro (rfl | rfl | rfl | rfl)
    · exact bp
    · exact bq
    · exact br
    · exact bu
end CX
