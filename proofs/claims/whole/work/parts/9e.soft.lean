/-! texts: the order of the tokens, and what they mean -/
def fol (s k : Nat) : Nat :=
  if s = 0 then (if k = 20 then 1 else if k = 21 then 6 else 9)
  else if s = 1 then (if k = 1 then 2 else 9)
  else if s = 2 then (if k = 5 then 3 else if k = 2 then 4 else 9)
  else if s = 3 then (if k = 2 then 4 else 9)
  else if s = 4 then (if k = 5 then 5 else if k = 2 then 7 else 9)
  else if s = 5 then (if k = 2 then 7 else 9)
  else if s = 6 then (if k = 2 then 7 else 9)
  else if s = 7 then (if k = 4 then 0 else 9)
  else 9
theorem fol_ok : ∀ s, s < 8 → ∀ k, k < 22 → f_TextReader_following (nI s) (nI (ck k)) = if fol s k = 9 then -1 else nI (fol s k) := by decide +kernel
theorem fol_lt (s k : Nat) (h : fol s k ≠ 9) : fol s k < 8 ∧ s < 8 := by
  unfold fol at *
  repeat' split
  all_goals simp_all
def ssK (K : Nat → Nat) : Nat → Nat
  | 0 => 0
  | k + 1 => fol (ssK K k) (K k)
def npK (K : Nat → Nat) : Nat → Nat
  | 0 => 0
  | k + 1 => npK K k + if K k = 20 then 1 else 0
def hfK (K : Nat → Nat) (k : Nat) : Nat := if K k = 0 then (if ssK K k = 0 then 0 else 1) else if fol (ssK K k) (K k) = 9 then 1 else if k = 400 ∨ (K k = 20 ∧ npK K k = 12) then 2 else 0
def gdK (K : Nat → Nat) (k : Nat) : Prop := K k ≠ 0 ∧ hfK K k = 0
theorem gdK_fol {K : Nat → Nat} {k : Nat} (h : gdK K k) : fol (ssK K k) (K k) ≠ 9 ∧ ¬ (k = 400 ∨ (K k = 20 ∧ npK K k = 12)) := by
  obtain ⟨h1, h2⟩ := h
  unfold hfK at h2
  rw [if_neg h1] at h2
  by_cases c : fol (ssK K k) (K k) = 9
  · rw [if_pos c] at h2; omega
  · rw [if_neg c] at h2
    refine ⟨c, fun d => ?_⟩
    rw [if_pos d] at h2
    omega
theorem npK_le {K : Nat → Nat} : ∀ k, (∀ j, j < k → gdK K j) → npK K k ≤ 12 ∧ ssK K k < 8 ∧ k ≤ 400 := by
  intro k
  induction k with
  | zero => intro _; exact ⟨by unfold npK; omega, by unfold ssK; omega, by omega⟩
  | succ k ih =>
    intro h
    obtain ⟨a, b, c⟩ := ih (fun j hj => h j (by omega))
    obtain ⟨f1, f2⟩ := gdK_fol (h k (by omega))
    refine ⟨?_, (fol_lt _ _ f1).1, by omega⟩
    show npK K k + (if K k = 20 then 1 else 0) ≤ 12
    split <;> omega
theorem stopK (K : Nat → Nat) : ∃ q, q ≤ 400 ∧ (∀ j, j < q → gdK K j) ∧ ¬ gdK K q := by
  have H : ∀ m, m ≤ 401 → (∃ q, q < m ∧ (∀ j, j < q → gdK K j) ∧ ¬ gdK K q) ∨ ∀ j, j < m → gdK K j := by
    intro m
    induction m with
    | zero => intro _; exact Or.inr (fun j hj => absurd hj (by omega))
    | succ m ih =>
      intro hm
      rcases ih (by omega) with ⟨q, a, b⟩ | h
      · exact Or.inl ⟨q, by omega, b⟩
      · by_cases c : gdK K m
        · refine Or.inr (fun j hj => ?_)
          rcases Nat.lt_succ_iff_lt_or_eq.mp hj with e | e
          · exact h j e
          · rw [e]; exact c
        · exact Or.inl ⟨m, by omega, h, c⟩
  rcases H 401 (Nat.le_refl _) with ⟨q, a, b⟩ | h
  · exact ⟨q, by omega, b⟩
  · exact absurd (npK_le 401 h).2.2 (by omega)
abbrev SFt : Type := Nat × Nat × Cfg × (Nat → Int64) × Int × Bool
def numS (st p : Nat) (z : Int) (pl : Nat) (c : Cfg) (W : Nat → Int64) (x : Int) : SFt :=
  if st = 6 then (if 1 ≤ z ∧ z ≤ 20 then (0, pl, (c.1, z.toNat, c.2.2), W, x, false) else (5, p, c, W, x, false))
  else if ¬ (-50 ≤ z ∧ z ≤ 50) then (5, p, c, W, x, false)
  else if st = 2 ∨ st = 3 then (0, pl, c, W, z, false)
  else if frB c x z then (0, pl, addC c x z, W, x, false) else (3, p, c, W, x, false)
def sstP (st κ p v : Nat) (w : Int64) (pl : Nat) (c : Cfg) (W : Nat → Int64) (x : Int) (m : Bool) : SFt :=
  if κ = 1 then (if ex (fun i => decide (W i = w)) c.1 then (3, p, c, W, x, m) else (0, pl, c, fun i => if i = c.1 then w else W i, x, m))
  else if κ = 5 then (0, pl, c, W, x, true)
  else if κ = 2 then numS st p (if m then -(v : Int) else v) pl c W x
  else (0, pl, c, W, x, m)
def sst (st κ p v : Nat) (w : Int64) (S : SFt) : SFt := if S.1 ≠ 0 then S else sstP st κ p v w S.2.1 S.2.2.1 S.2.2.2.1 S.2.2.2.2.1 S.2.2.2.2.2
def sfK (K P V : Nat → Nat) (W : Nat → Int64) : Nat → SFt
  | 0 => (0, 0, (0, 10, fun _ => 0, fun _ => 0), fun _ => 0, 0, false)
  | k + 1 => sst (ssK K k) (K k) (P k) (V k) (W k) (sfK K P V W k)
/-- what holds of the meaning so far -/
def SfI (st np : Nat) (S : SFt) : Prop := S.1 = 0 → GCc S.2.2.1 ∧ np = S.2.2.1.1 + (if 1 ≤ st ∧ st ≤ 5 then 1 else 0) ∧ (st = 4 ∨ st = 5 → -50 ≤ S.2.2.2.2.1 ∧ S.2.2.2.2.1 ≤ 50) ∧ (S.2.2.2.2.2 = true ↔ st = 3 ∨ st = 5)
theorem fol_cases {s k : Nat} (h : fol s k ≠ 9) : (s = 0 ∧ k = 20 ∧ fol s k = 1) ∨ (s = 0 ∧ k = 21 ∧ fol s k = 6) ∨ (s = 1 ∧ k = 1 ∧ fol s k = 2) ∨ (s = 2 ∧ k = 5 ∧ fol s k = 3) ∨ (s = 2 ∧ k = 2 ∧ fol s k = 4) ∨ (s = 3 ∧ k = 2 ∧ fol s k = 4) ∨ (s = 4 ∧ k = 5 ∧ fol s k = 5) ∨ (s = 4 ∧ k = 2 ∧ fol s k = 7) ∨ (s = 5 ∧ k = 2 ∧ fol s k = 7) ∨ (s = 6 ∧ k = 2 ∧ fol s k = 7) ∨ (s = 7 ∧ k = 4 ∧ fol s k = 0) := by
  unfold fol at *
  repeat' split
  all_goals simp_all
theorem GCc_g {c : Cfg} (G : GCc c) {z : Nat} (h : 1 ≤ z ∧ z ≤ 20) : GCc (c.1, z, c.2.2) := ⟨G.1, h, G.2.2⟩
theorem numS_g {p : Nat} {z : Int} {pl : Nat} {c : Cfg} {W : Nat → Int64} {x : Int} : numS 6 p z pl c W x = if 1 ≤ z ∧ z ≤ 20 then (0, pl, (c.1, z.toNat, c.2.2), W, x, false) else (5, p, c, W, x, false) := by
  unfold numS
  rw [if_pos rfl]
theorem numS_x {st p : Nat} {z : Int} {pl : Nat} {c : Cfg} {W : Nat → Int64} {x : Int} (h : st = 2 ∨ st = 3) : numS st p z pl c W x = if -50 ≤ z ∧ z ≤ 50 then (0, pl, c, W, z, false) else (5, p, c, W, x, false) := by
  unfold numS
  rw [if_neg (by omega)]
  by_cases q : -50 ≤ z ∧ z ≤ 50
  · rw [if_neg (fun n => n q), if_pos h, if_pos q]
  · rw [if_pos q, if_neg q]
theorem numS_y {st p : Nat} {z : Int} {pl : Nat} {c : Cfg} {W : Nat → Int64} {x : Int} (h : st = 4 ∨ st = 5) : numS st p z pl c W x = if -50 ≤ z ∧ z ≤ 50 then (if frB c x z then (0, pl, addC c x z, W, x, false) else (3, p, c, W, x, false)) else (5, p, c, W, x, false) := by
  unfold numS
  rw [if_neg (by omega)]
  by_cases q : -50 ≤ z ∧ z ≤ 50
  · rw [if_neg (fun n => n q), if_neg (by omega), if_pos q]
  · rw [if_pos q, if_neg q]
section SSI
variable {st np κ p v : Nat} {w : Int64} {pl : Nat} {c : Cfg} {W : Nat → Int64} {x : Int} {m : Bool}
theorem sstP_1 : sstP st 1 p v w pl c W x m = if ex (fun i => decide (W i = w)) c.1 then (3, p, c, W, x, m) else (0, pl, c, fun i => if i = c.1 then w else W i, x, m) := by
  unfold sstP; rw [if_pos rfl]
theorem sstP_5 : sstP st 5 p v w pl c W x m = (0, pl, c, W, x, true) := by
  unfold sstP; rw [if_neg (by decide), if_pos rfl]
theorem sstP_2 : sstP st 2 p v w pl c W x m = numS st p (if m then -(v : Int) else v) pl c W x := by
  unfold sstP; rw [if_neg (by decide), if_neg (by decide), if_pos rfl]
theorem sstP_o (h : κ ≠ 1 ∧ κ ≠ 5 ∧ κ ≠ 2) : sstP st κ p v w pl c W x m = (0, pl, c, W, x, m) := by
  unfold sstP; rw [if_neg h.1, if_neg h.2.1, if_neg h.2.2]
theorem SfI.mk' {st np pl : Nat} (G : GCc c) (e : np = c.1 + (if 1 ≤ st ∧ st ≤ 5 then 1 else 0)) (hx : st = 4 ∨ st = 5 → -50 ≤ x ∧ x ≤ 50) (hm : m = true ↔ st = 3 ∨ st = 5) : SfI st np (0, pl, c, W, x, m) := fun _ => ⟨G, e, hx, hm⟩
theorem SfI.bad {st np : Nat} {S : SFt} (h : S.1 ≠ 0) : SfI st np S := fun e => absurd e h
theorem sfI_step {S : SFt} (h : SfI st np S) (hf : fol st κ ≠ 9) (hn : ¬ (κ = 20 ∧ np = 12)) (hnp : np ≤ 12) : SfI (fol st κ) (np + if κ = 20 then 1 else 0) (sst st κ p v w S) := by
  obtain ⟨f, pl, c, W, x, m⟩ := S
  unfold sst
  by_cases hf0 : f = 0
  · subst hf0
    rw [if_neg (show ¬ ((0 : Nat) ≠ 0) from fun q => q rfl)]
    obtain ⟨G, e, hx, hm⟩ := h rfl
    have e : np = c.1 + (if 1 ≤ st ∧ st ≤ 5 then 1 else 0) := e
    have hx : st = 4 ∨ st = 5 → -50 ≤ x ∧ x ≤ 50 := hx
    have hm : m = true ↔ st = 3 ∨ st = 5 := hm
    have G : GCc c := G
    show SfI _ _ (sstP st κ p v w pl c W x m)
    have xn : ∀ s, s = 4 → (s = 2 ∨ s = 3 ∨ s = 4) := fun s h => by omega
    have X : st = 2 ∨ st = 3 → κ = 2 → fol st κ = 4 → SfI (fol st κ) (np + if κ = 20 then 1 else 0) (sstP st κ p v w pl c W x m) := by
      intro a b d
      subst b
      rw [sstP_2, d, numS_x a]
      rw [if_pos (by omega)] at e
      generalize (if m = true then -(v : Int) else v) = z
      show SfI 4 np _
      by_cases r : -50 ≤ z ∧ z ≤ 50
      · rw [if_pos r]
        exact SfI.mk' G e (fun _ => r) (by decide)
      · rw [if_neg r]
        exact SfI.bad (fun q => absurd q (show ¬ (5 : Nat) = 0 by decide))
    have Y : st = 4 ∨ st = 5 → κ = 2 → fol st κ = 7 → SfI (fol st κ) (np + if κ = 20 then 1 else 0) (sstP st κ p v w pl c W x m) := by
      intro a b d
      subst b
      rw [sstP_2, d, numS_y a]
      rw [if_pos (by omega)] at e
      generalize (if m = true then -(v : Int) else v) = z
      show SfI 7 np _
      by_cases r : -50 ≤ z ∧ z ≤ 50
      · rw [if_pos r]
        by_cases y : frB c x z = true
        · rw [if_pos y]
          exact SfI.mk' (GC_add G (by omega) y) e (fun q => absurd q (by decide)) (by decide)
        · rw [if_neg y]
          exact SfI.bad (fun q => absurd q (show ¬ (3 : Nat) = 0 by decide))
      · rw [if_neg r]
        exact SfI.bad (fun q => absurd q (show ¬ (5 : Nat) = 0 by decide))
    rcases fol_cases hf with ⟨rfl, rfl, q⟩ | ⟨rfl, rfl, q⟩ | ⟨rfl, rfl, q⟩ | ⟨rfl, rfl, q⟩ | ⟨rfl, rfl, q⟩ | ⟨rfl, rfl, q⟩ | ⟨rfl, rfl, q⟩ | ⟨rfl, rfl, q⟩ | ⟨rfl, rfl, q⟩ | ⟨rfl, rfl, q⟩ | ⟨rfl, rfl, q⟩
    · rw [q, sstP_o (by decide)]
      show SfI 1 (np + 1) _
      have e : np = c.1 := e
      exact SfI.mk' G (by rw [e]; rfl) (fun q => absurd q (by decide)) (hm.trans (by decide))
    · rw [q, sstP_o (by decide)]
      exact SfI.mk' G e (fun q => absurd q (by decide)) (hm.trans (by decide))
    · rw [q, sstP_1]
      by_cases y : ex (fun i => decide (W i = w)) c.1 = true
      · rw [if_pos y]
        exact SfI.bad (fun q => absurd q (show ¬ (3 : Nat) = 0 by decide))
      · rw [if_neg y]
        exact SfI.mk' G e (fun q => absurd q (by decide)) (hm.trans (by decide))
    · rw [q, sstP_5]
      exact SfI.mk' G e (fun q => absurd q (by decide)) (by decide)
    · exact X (by omega) rfl q
    · exact X (by omega) rfl q
    · rw [q, sstP_5]
      exact SfI.mk' G e (fun _ => hx (by omega)) (by decide)
    · exact Y (by omega) rfl q
    · exact Y (by omega) rfl q
    · rw [q, sstP_2, numS_g]
      generalize (if m = true then -(v : Int) else v) = z
      by_cases r : 1 ≤ z ∧ z ≤ 20
      · rw [if_pos r]
        exact SfI.mk' (GCc_g G (by omega)) e (fun q => absurd q (by decide)) (by decide)
      · rw [if_neg r]
        exact SfI.bad (fun q => absurd q (show ¬ (5 : Nat) = 0 by decide))
    · rw [q, sstP_o (by decide)]
      exact SfI.mk' G e (fun q => absurd q (by decide)) (hm.trans (by decide))
  · rw [if_pos hf0]
    exact SfI.bad hf0
end SSI
theorem sfI_all {K P V : Nat → Nat} {W : Nat → Int64} : ∀ k, (∀ j, j < k → gdK K j) → SfI (ssK K k) (npK K k) (sfK K P V W k) := by
  intro k
  induction k with
  | zero => intro _ _; exact ⟨⟨Nat.zero_le _, ⟨show 1 ≤ 10 by decide, show 10 ≤ 20 by decide⟩, fun i hi => absurd hi (Nat.not_lt_zero _), fun i j hi => absurd hi (Nat.not_lt_zero _)⟩, rfl, fun q => absurd q (show ¬ (0 = 4 ∨ 0 = 5) by decide), (show (false = true ↔ (0 = 3 ∨ 0 = 5)) by decide)⟩
  | succ k ih =>
    intro h
    obtain ⟨f1, f2⟩ := gdK_fol (h k (by omega))
    exact sfI_step (ih (fun j hj => h j (by omega))) f1 (fun q => f2 (Or.inr q)) (npK_le k (fun j hj => h j (by omega))).1
