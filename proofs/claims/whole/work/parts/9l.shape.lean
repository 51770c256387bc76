/-! the shape of a line, and what it means -/
section SH
variable {K P V : Nat → Nat} {W : Nat → Int64} {q : Nat}
theorem nxt (hg : ∀ j, j < q → gdK K j) (hq : ssK K q = 0) {i : Nat} (hi : i ≤ q) (hs : ssK K i ≠ 0) : i < q ∧ fol (ssK K i) (K i) ≠ 9 := by
  have : i < q := by
    rcases Nat.lt_or_ge i q with c | c
    · exact c
    · exact absurd (by rw [show i = q by omega]; exact hq) hs
  exact ⟨this, (gdK_fol (hg i this)).1⟩
theorem sf_bad {i : Nat} (h : (sfK K P V W i).1 ≠ 0) : sfK K P V W (i + 1) = sfK K P V W i := by
  show sst _ _ _ _ _ _ = _
  unfold sst
  rw [if_pos h]
theorem sf_s {i pl : Nat} {c : Cfg} {w : Nat → Int64} {x : Int} {m : Bool} (h : sfK K P V W i = (0, pl, c, w, x, m)) : sfK K P V W (i + 1) = sstP (ssK K i) (K i) (P i) (V i) (W i) pl c w x m := by
  show sst _ _ _ _ _ (sfK K P V W i) = _
  rw [h]
  rfl
theorem num_shape (hg : ∀ j, j < q → gdK K j) (hq : ssK K q = 0) {i s s1 s2 : Nat} (hs : (s = 2 ∧ s1 = 3 ∧ s2 = 4) ∨ (s = 4 ∧ s1 = 5 ∧ s2 = 7)) (hi : i ≤ q) (es : ssK K i = s) : ∃ a, i ≤ a ∧ a < q ∧ K a = 2 ∧ ssK K (a + 1) = s2 ∧ ((a = i ∧ K i ≠ 5) ∨ (a = i + 1 ∧ K i = 5)) ∧ ((sfK K P V W i).1 ≠ 0 → sfK K P V W (a + 1) = sfK K P V W i) ∧ ∀ pl c w x m, sfK K P V W i = (0, pl, c, w, x, m) → ∃ st, (st = s ∨ st = s1) ∧ sfK K P V W (a + 1) = numS st (P a) (if K i = 5 then -(V a : Int) else (V a : Int)) pl c w x := by
  obtain ⟨-, t3, t5, -, -, t2, t4, -⟩ := fol_tab
  obtain ⟨i1, i2⟩ := nxt hg hq hi (by omega)
  have hfs : ∀ κ, fol s κ ≠ 9 ↔ κ = 5 ∨ κ = 2 := by
    rcases hs with ⟨e, -, -⟩ | ⟨e, -, -⟩
    · rw [e]; exact t2
    · rw [e]; exact t4
  have hf1 : ∀ κ, fol s1 κ ≠ 9 ↔ κ = 2 := by
    rcases hs with ⟨-, e, -⟩ | ⟨-, e, -⟩
    · rw [e]; exact t3
    · rw [e]; exact t5
  have g1 : fol s 5 = s1 := by
    rcases hs with ⟨a, b, -⟩ | ⟨a, b, -⟩
    · rw [a, b]; decide
    · rw [a, b]; decide
  have g2 : fol s 2 = s2 := by
    rcases hs with ⟨a, -, b⟩ | ⟨a, -, b⟩
    · rw [a, b]; decide
    · rw [a, b]; decide
  have g3 : fol s1 2 = s2 := by
    rcases hs with ⟨-, a, b⟩ | ⟨-, a, b⟩
    · rw [a, b]; decide
    · rw [a, b]; decide
  have mf : ∀ pl c w x m, sfK K P V W i = (0, pl, c, w, x, m) → m = false := by
    intro pl c w x m e
    have := (sfI_all (P := P) (V := V) (W := W) i (fun j hj => hg j (by omega)))
    rw [e] at this
    have := (this rfl).2.2.2
    cases m with
    | false => rfl
    | true => have := this.mp rfl; omega
  rw [es] at i2
  rcases (hfs _).mp i2 with k5 | k2
  · have e1 : ssK K (i + 1) = s1 := by show fol (ssK K i) (K i) = s1; rw [es, k5, g1]
    obtain ⟨j1, j2⟩ := nxt hg hq (i := i + 1) (by omega) (by omega)
    rw [e1] at j2
    have k2 := (hf1 _).mp j2
    refine ⟨i + 1, by omega, j1, k2, by show fol (ssK K (i + 1)) (K (i + 1)) = s2; rw [e1, k2, g3], Or.inr ⟨rfl, k5⟩, fun z => ?_, fun pl c w x m e => ⟨s1, Or.inr rfl, ?_⟩⟩
    · have := sf_bad z
      rw [sf_bad (by rw [this]; exact z), this]
    · have m0 := mf _ _ _ _ _ e
      subst m0
      have := sf_s e
      rw [k5, sstP_5] at this
      rw [sf_s this, k2, sstP_2, if_pos rfl, if_pos k5, e1]
  · refine ⟨i, Nat.le_refl _, i1, k2, by show fol (ssK K i) (K i) = s2; rw [es, k2, g2], Or.inl ⟨rfl, by omega⟩, fun z => sf_bad z, fun pl c w x m e => ⟨s, Or.inl rfl, ?_⟩⟩
    have m0 := mf _ _ _ _ _ e
    subst m0
    rw [sf_s e, k2, sstP_2, if_neg (by decide), if_neg (by decide), es]
theorem sf_place (hP : ∀ j, j < q → P j < P (j + 1)) : ∀ k, k ≤ q → (sfK K P V W k).1 ≤ 5 ∧ ((sfK K P V W k).1 ≠ 0 → (sfK K P V W k).2.1 < P k) := by
  intro k
  induction k with
  | zero => intro _; exact ⟨Nat.zero_le _, fun z => absurd rfl z⟩
  | succ k ih =>
    intro hk
    obtain ⟨a, b⟩ := ih (by omega)
    have pk := hP k (by omega)
    by_cases z : (sfK K P V W k).1 = 0
    · rcases e : sfK K P V W k with ⟨f, pl, c, w, x, m⟩
      rw [e] at z
      have z : f = 0 := z
      subst z
      rw [sf_s e]
      have X : ∀ S : SFt, (S.1 = 0 ∨ (S.1 = 3 ∧ S.2.1 = P k) ∨ (S.1 = 5 ∧ S.2.1 = P k)) → S.1 ≤ 5 ∧ (S.1 ≠ 0 → S.2.1 < P (k + 1)) := by
        intro S h
        omega
      apply X
      unfold sstP numS
      repeat' split
      all_goals simp
    · rw [sf_bad z]
      exact ⟨a, fun y => by have := b y; omega⟩
/-- a line that tells a point -/
theorem pt_shape (hg : ∀ j, j < q → gdK K j) (hq : ssK K q = 0) {e : Nat} (he : e < q) (es : ssK K e = 0) (k20 : K e = 20) : K (e + 1) = 1 ∧ e + 2 ≤ q ∧ ssK K (e + 1) = 1 ∧ ssK K (e + 2) = 2 := by
  obtain ⟨t1, -⟩ := fol_tab
  have e1 : ssK K (e + 1) = 1 := by show fol (ssK K e) (K e) = 1; rw [es, k20]; decide
  obtain ⟨j1, j2⟩ := nxt hg hq (i := e + 1) (by omega) (by omega)
  rw [e1] at j2
  have k1 := (t1 _).mp j2
  exact ⟨k1, by omega, e1, by show fol (ssK K (e + 1)) (K (e + 1)) = 2; rw [e1, k1]; decide⟩
theorem end_shape (hg : ∀ j, j < q → gdK K j) (hq : ssK K q = 0) {i : Nat} (hi : i ≤ q) (es : ssK K i = 7) : K i = 4 ∧ i + 1 ≤ q ∧ ssK K (i + 1) = 0 ∧ sfK K P V W (i + 1) = sfK K P V W i := by
  obtain ⟨-, -, -, -, t7, -⟩ := fol_tab
  obtain ⟨j1, j2⟩ := nxt hg hq hi (by omega)
  rw [es] at j2
  have k4 := (t7 _).mp j2
  refine ⟨k4, by omega, by show fol (ssK K i) (K i) = 0; rw [es, k4]; decide, ?_⟩
  by_cases z : (sfK K P V W i).1 = 0
  · rcases e : sfK K P V W i with ⟨f, pl, c, w, x, m⟩
    rw [e] at z
    have z : f = 0 := z
    subst z
    rw [sf_s e, k4, sstP_o (by decide)]
  · exact sf_bad z
theorem gr_shape (hg : ∀ j, j < q → gdK K j) (hq : ssK K q = 0) {e : Nat} (he : e < q) (es : ssK K e = 0) (k21 : K e = 21) : K (e + 1) = 2 ∧ e + 2 ≤ q ∧ ssK K (e + 1) = 6 ∧ ssK K (e + 2) = 7 := by
  obtain ⟨-, -, -, t6, -⟩ := fol_tab
  have e1 : ssK K (e + 1) = 6 := by show fol (ssK K e) (K e) = 6; rw [es, k21]; decide
  obtain ⟨j1, j2⟩ := nxt hg hq (i := e + 1) (by omega) (by omega)
  rw [e1] at j2
  have k2 := (t6 _).mp j2
  exact ⟨k2, by omega, e1, by show fol (ssK K (e + 1)) (K (e + 1)) = 7; rw [e1, k2]; decide⟩
/-- at the start of a line a point or the grid is told, or all is told -/
theorem st_shape (hg : ∀ j, j < q → gdK K j) {e : Nat} (he : e < q) (es : ssK K e = 0) : K e = 20 ∨ K e = 21 := by
  obtain ⟨-, -, -, -, -, -, -, t0⟩ := fol_tab
  have := (gdK_fol (hg e he)).1
  rw [es] at this
  exact (t0 _).mp this
end SH
