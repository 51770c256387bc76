/-! the reference reads the lines -/
abbrev FLp (o k : Nat) : Prop := o = 79 ∧ (k = 11 ∨ k = 12 ∨ k = 13 ∨ k = 21)
abbrev FL (h h' : pH) : Prop := Fp FLp h h'
def RS (K : Nat → Nat) (k : Nat) (h : pH) : Prop := hI h 79 12 = 0 ∧ hI h 79 11 = nI k ∧ hI h 79 21 = nI (npK K k) ∧ ∀ j, j < k → gdK K j
def RF (B : Nat → Nat) (len : Nat) (h : pH) : Prop := ∃ q, q ≤ 400 ∧ (∀ j, j < q → gdK (tkK B len) j) ∧ hfK (tkK B len) q ≠ 0 ∧ hI h 79 12 = nI (hfK (tkK B len) q) ∧ hI h 79 13 = nI (tsk B len q)
theorem hfK_le {K : Nat → Nat} {k : Nat} : hfK K k ≤ 2 := by
  unfold hfK
  repeat' split
  all_goals omega
theorem stop_eq {K : Nat → Nat} {p q : Nat} (hp : ∀ j, j < p → gdK K j) (np : ¬ gdK K p) (hq : ∀ j, j < q → gdK K j) (nq : ¬ gdK K q) : p = q := by
  rcases Nat.lt_trichotomy p q with c | c | c
  · exact absurd (hq p c) np
  · exact c
  · exact absurd (hp q c) nq
section LN
variable {h h0 : pH} {len cnt : Nat} {B : Nat → Nat}
theorem TLk.fr {j : Nat} {h h' : pH} (A : ∀ o, o = 82 ∨ o = 83 ∨ o = 84 → hI h' o j = hI h o j) (A2 : hL h' 85 j = hL h 85 j) (T : TLk B len j h) : TLk B len j h' := by
  unfold TLk
  rw [A 82 (by omega), A 83 (by omega), A 84 (by omega), A2]
  exact T
theorem TKS.fr {h h' : pH} (A : ∀ o j, o = 82 ∨ o = 83 ∨ o = 84 ∨ (o = 79 ∧ j = 10) → hI h' o j = hI h o j) (A2 : ∀ j, hL h' 85 j = hL h 85 j) (T : TKS B len cnt h) : TKS B len cnt h' := by
  obtain ⟨a, b, c, d⟩ := T
  exact ⟨a, by rw [A 79 10 (by omega)]; exact b, fun j hj => (c j hj).fr (fun o q => A o j (by omega)) (A2 j), d⟩
theorem FL.tks {h h' : pH} (F : FL h h') (T : TKS B len cnt h) : TKS B len cnt h' := T.fr (fun o j q => F.1 o j (by unfold FLp; omega)) (fun j => by unfold hL; rw [F.2])
theorem k_in (T : TKS B len cnt h) {k : Nat} (hg : ∀ j, j < k → gdK (tkK B len) j) : k < cnt ∧ k ≤ 400 := by
  have k4 := (npK_le k hg).2.2
  refine ⟨?_, k4⟩
  rcases Nat.lt_or_ge k cnt with c | c
  · exact c
  · rcases T.2.2.2.2 with e | e
    · omega
    · exact absurd e (hg (cnt - 1) (by have := T.1.1; omega)).1
theorem is_ok (T : TKS B len cnt h) {k x : Nat} (R : RS (tkK B len) k h) (hx : x < 22) : f_R_is (nI x) h = some (if tkK B len k = x then 1 else 0) := by
  obtain ⟨a, b, c, d⟩ := R
  have ki := k_in T d
  unfold f_R_is
  rw [a, if_pos rfl, b, if_neg (gd (by omega) (by omega)), cla (by omega), (T.2.2.1 k ki.1).1]
  have := tkK_lt B len k
  simp only [nI_eqI (show tkK B len k ≤ 100000 by omega) (show x ≤ 100000 by omega)]
  by_cases q : tkK B len k = x
  · rw [if_pos q, if_pos q]
  · rw [if_neg q, if_neg q]
theorem RF.ne (R : RF B len h) : ∃ f : Nat, hI h 79 12 = nI f ∧ 1 ≤ f ∧ f ≤ 2 := by
  obtain ⟨q, a, b, c, d, e⟩ := R
  have := hfK_le (K := tkK B len) (k := q)
  exact ⟨_, d, by omega, by omega⟩
theorem is_F (R : RF B len h) (x : Int32) : f_R_is x h = some 0 := by
  obtain ⟨f, a, b, c⟩ := R.ne
  unfold f_R_is
  rw [a, if_neg (show ¬ nI f = 0 from fun z => absurd ((nI_eqI (b := 0) (by omega) (by omega)).mp z) (by omega))]
theorem fail_F (R : RF B len h) (x : Int32) : f_R_fail x h = some h := by
  obtain ⟨f, a, b, c⟩ := R.ne
  unfold f_R_fail
  rw [a, if_neg (show ¬ nI f ≤ 0 from lt_no (k := 0) (n := f) (by omega) (by omega))]
theorem must_F (R : RF B len h) (x : Int32) : f_R_must x h = some h := by
  unfold f_R_must
  rw [is_F R, Option.bind_some, if_pos rfl, fail_F R]
  rfl
theorem signed_F (R : RF B len h) : f_R_signed h = some h := by
  unfold f_R_signed
  rw [is_F R, Option.bind_some, if_pos rfl, must_F R]
  rfl
theorem fail_ok (T : TKS B len cnt h) {k f : Nat} (a : hI h 79 12 = 0) (b : hI h 79 11 = nI k) (d : ∀ j, j < k → gdK (tkK B len) j) (hf : hfK (tkK B len) k = f) (hf0 : f ≠ 0) : ∃ h', f_R_fail (nI f) h = some h' ∧ FL h h' ∧ RF B len h' := by
  have ki := k_in T d
  unfold f_R_fail
  rw [a, if_pos (by decide), hI_n (h := h) (k := 12) (by omega), b, if_neg (gd (by omega) (by omega)), cla (by omega), hI_n (h := h) (o := 79) (k := 12) (by omega), (T.2.2.1 k ki.1).2.1]
  refine ⟨_, rfl, (Fp.rfl'.set (by unfold FLp; omega)).set (by unfold FLp; omega), k, ki.2, d, by omega, ?_, hI_s⟩
  rw [hI_n (by omega), hI_s, hf]
theorem passes_ok (T : TKS B len cnt h) {k : Nat} (a : hI h 79 12 = 0) (b : hI h 79 11 = nI k) (c : hI h 79 21 = nI (npK (tkK B len) (k + 1))) (d : ∀ j, j < k → gdK (tkK B len) j) (k0 : tkK B len k ≠ 0) (hf : fol (ssK (tkK B len) k) (tkK B len k) ≠ 9) (h12 : ¬ (tkK B len k = 20 ∧ npK (tkK B len) k = 12)) : ∃ h', f_R_passes h = some h' ∧ FL h h' ∧ (RS (tkK B len) (k + 1) h' ∨ RF B len h') := by
  have ki := k_in T d
  unfold f_R_passes
  rw [b, show (400 : Int32) = nI 400 from rfl]
  simp only [nI_eqI (show k ≤ 100000 by omega) (show 400 ≤ 100000 by omega)]
  by_cases q : k = 400
  · rw [if_pos q]
    obtain ⟨h', e1, e2, e3⟩ := fail_ok T (f := 2) a b d (by unfold hfK; rw [if_neg k0, if_neg hf, if_pos (Or.inl q)]) (by decide)
    have e1 : f_R_fail 2 h = some h' := e1
    rw [e1]
    exact ⟨h', rfl, e2, Or.inr e3⟩
  · rw [if_neg q, nI_1]
    refine ⟨_, rfl, Fp.rfl'.set (by unfold FLp; omega), Or.inl ⟨?_, hI_s, ?_, fun j hj => ?_⟩⟩
    · rw [hI_n (by omega)]; exact a
    · rw [hI_n (by omega)]; exact c
    · by_cases e : j = k
      · rw [e]
        exact ⟨k0, by unfold hfK; rw [if_neg k0, if_neg hf, if_neg (fun z => z.elim q h12)]⟩
      · exact d j (by omega)
theorem np_s {K : Nat → Nat} {k : Nat} (h : K k ≠ 20) : npK K (k + 1) = npK K k := by
  show npK K k + (if K k = 20 then 1 else 0) = _
  rw [if_neg h]
  rfl
theorem must_ok (T : TKS B len cnt h) {k x : Nat} (R : RS (tkK B len) k h) (hx : x < 22) (x0 : x ≠ 0) (x20 : x ≠ 20) (hs : ssK (tkK B len) k ≠ 0) (hf : fol (ssK (tkK B len) k) (tkK B len k) ≠ 9 ↔ tkK B len k = x) : ∃ h', f_R_must (nI x) h = some h' ∧ FL h h' ∧ ((RS (tkK B len) (k + 1) h' ∧ tkK B len k = x) ∨ RF B len h') := by
  obtain ⟨a, b, c, d⟩ := R
  unfold f_R_must
  rw [is_ok T ⟨a, b, c, d⟩ hx, Option.bind_some]
  by_cases q : tkK B len k = x
  · rw [if_pos q, if_neg (by decide)]
    obtain ⟨h', e1, e2, e3⟩ := passes_ok T a b (by rw [np_s (by omega)]; exact c) d (by omega) (hf.mpr q) (fun z => by omega)
    rw [e1]
    exact ⟨h', rfl, e2, e3.elim (fun z => Or.inl ⟨z, q⟩) Or.inr⟩
  · rw [if_neg q, if_pos rfl]
    obtain ⟨h', e1, e2, e3⟩ := fail_ok T (f := 1) a b d (by
      unfold hfK
      by_cases k0 : tkK B len k = 0
      · rw [if_pos k0, if_neg hs]
      · rw [if_neg k0, if_pos (Classical.byContradiction (fun z => q (hf.mp z)))]) (by decide)
    have e1 : f_R_fail 1 h = some h' := e1
    rw [e1]
    exact ⟨h', rfl, e2, Or.inr e3⟩
/-- past k0, in state s; or ended by a hard fault -/
def RX (B : Nat → Nat) (len k0 s : Nat) (h : pH) : Prop := (∃ k, k0 < k ∧ ssK (tkK B len) k = s ∧ RS (tkK B len) k h) ∨ RF B len h
theorem mustX (T : TKS B len cnt h) {k0 s x s' : Nat} (hx : x < 22) (x0 : x ≠ 0) (x20 : x ≠ 20) (hs : s ≠ 0) (hf : ∀ κ, fol s κ ≠ 9 ↔ κ = x) (e' : fol s x = s') (R : RX B len k0 s h) : ∃ h', f_R_must (nI x) h = some h' ∧ FL h h' ∧ RX B len k0 s' h' := by
  rcases R with ⟨k, lk, es, R⟩ | R
  · obtain ⟨h', a1, a2, a3⟩ := must_ok T R hx x0 x20 (by rw [es]; exact hs) (by rw [es]; exact hf _)
    refine ⟨h', a1, a2, a3.elim (fun z => Or.inl ⟨k + 1, by omega, ?_, z.1⟩) Or.inr⟩
    show fol (ssK (tkK B len) k) (tkK B len k) = s'
    rw [es, z.2, e']
  · exact ⟨h, must_F R _, Fp.rfl', Or.inr R⟩
theorem fol_tab : (∀ κ, fol 1 κ ≠ 9 ↔ κ = 1) ∧ (∀ κ, fol 3 κ ≠ 9 ↔ κ = 2) ∧ (∀ κ, fol 5 κ ≠ 9 ↔ κ = 2) ∧ (∀ κ, fol 6 κ ≠ 9 ↔ κ = 2) ∧ (∀ κ, fol 7 κ ≠ 9 ↔ κ = 4) ∧ (∀ κ, fol 2 κ ≠ 9 ↔ κ = 5 ∨ κ = 2) ∧ (∀ κ, fol 4 κ ≠ 9 ↔ κ = 5 ∨ κ = 2) ∧ (∀ κ, fol 0 κ ≠ 9 ↔ κ = 20 ∨ κ = 21) := by
  unfold fol
  refine ⟨fun κ => ?_, fun κ => ?_, fun κ => ?_, fun κ => ?_, fun κ => ?_, fun κ => ?_, fun κ => ?_, fun κ => ?_⟩
  all_goals simp
  all_goals (repeat' split)
  all_goals simp_all
theorem signedX (T : TKS B len cnt h) {k0 s s1 s2 : Nat} (hs : (s = 2 ∧ s1 = 3 ∧ s2 = 4) ∨ (s = 4 ∧ s1 = 5 ∧ s2 = 7)) (R : RX B len k0 s h) : ∃ h', f_R_signed h = some h' ∧ FL h h' ∧ RX B len k0 s2 h' := by
  obtain ⟨-, t3, t5, -, -, t2, t4, -⟩ := fol_tab
  rcases R with ⟨k, lk, es, R⟩ | R
  · unfold f_R_signed
    have hi : f_R_is 5 h = some (if tkK B len k = 5 then 1 else 0) := is_ok T R (x := 5) (by decide)
    rw [hi, Option.bind_some]
    have hs0 : s ≠ 0 := by omega
    have hfs : ∀ κ, fol s κ ≠ 9 ↔ κ = 5 ∨ κ = 2 := by
      rcases hs with ⟨e, -, -⟩ | ⟨e, -, -⟩
      · rw [e]; exact t2
      · rw [e]; exact t4
    have hf1 : ∀ κ, fol s1 κ ≠ 9 ↔ κ = 2 := by
      rcases hs with ⟨-, e, -⟩ | ⟨-, e, -⟩
      · rw [e]; exact t3
      · rw [e]; exact t5
    have g1 : fol s 5 = s1 := by
      rcases hs with ⟨a, b, -⟩ | ⟨a, b, -⟩
      · rw [a, b]; decide
      · rw [a, b]; decide
    have g2 : fol s 2 = s2 := by
      rcases hs with ⟨a, -, b⟩ | ⟨a, -, b⟩
      · rw [a, b]; decide
      · rw [a, b]; decide
    have g3 : fol s1 2 = s2 := by
      rcases hs with ⟨-, a, b⟩ | ⟨-, a, b⟩
      · rw [a, b]; decide
      · rw [a, b]; decide
    by_cases q : tkK B len k = 5
    · rw [if_pos q, if_neg (by decide)]
      obtain ⟨a, b, c, d⟩ := R
      obtain ⟨h1, e1, e2, e3⟩ := passes_ok T a b (by rw [np_s (by omega)]; exact c) d (by omega) (by rw [es, q]; exact (hfs 5).mpr (Or.inl rfl)) (fun z => by omega)
      rw [e1, Option.bind_some]
      have X : RX B len k0 s1 h1 := e3.elim (fun z => Or.inl ⟨k + 1, by omega, by show fol (ssK (tkK B len) k) (tkK B len k) = s1; rw [es, q, g1], z⟩) Or.inr
      obtain ⟨h2, f1, f2, f3⟩ := mustX (e2.tks T) (x := 2) (by decide) (by decide) (by decide) (by omega) hf1 g3 X
      have f1 : f_R_must 2 h1 = some h2 := f1
      rw [f1]
      exact ⟨h2, rfl, e2.trans f2, f3⟩
    · rw [if_neg q, if_pos rfl]
      obtain ⟨h', a1, a2, a3⟩ := must_ok T R (x := 2) (by decide) (by decide) (by decide) (by rw [es]; exact hs0) (by rw [es]; exact (hfs _).trans ⟨fun z => z.elim (fun y => absurd y q) id, Or.inr⟩)
      have a1 : f_R_must 2 h = some h' := a1
      rw [a1]
      refine ⟨h', rfl, a2, a3.elim (fun z => Or.inl ⟨k + 1, by omega, ?_, z.1⟩) Or.inr⟩
      show fol (ssK (tkK B len) k) (tkK B len k) = s2
      rw [es, z.2, g2]
  · exact ⟨h, signed_F R, Fp.rfl', Or.inr R⟩
theorem line_ok (T : TKS B len cnt h) {k : Nat} (R : RS (tkK B len) k h) (hs : ssK (tkK B len) k = 0) (k0 : tkK B len k ≠ 0) : ∃ h', f_R_line h = some h' ∧ FL h h' ∧ RX B len k 0 h' := by
  obtain ⟨t1, -, -, t6, t7, -, -, t0⟩ := fol_tab
  unfold f_R_line
  have hi : f_R_is 20 h = some (if tkK B len k = 20 then 1 else 0) := is_ok T R (x := 20) (by decide)
  have hi2 : f_R_is 21 h = some (if tkK B len k = 21 then 1 else 0) := is_ok T R (x := 21) (by decide)
  rw [hi, hi2, Option.bind_some, Option.bind_some]
  obtain ⟨a, b, c, d⟩ := R
  by_cases q : tkK B len k = 20
  · rw [if_pos q, if_neg (by decide), c, show (12 : Int32) = nI 12 from rfl]
    have nl := (npK_le k d).1
    simp only [nI_eqI (show npK (tkK B len) k ≤ 100000 by omega) (show 12 ≤ 100000 by omega)]
    by_cases n12 : npK (tkK B len) k = 12
    · rw [if_pos n12]
      obtain ⟨h', e1, e2, e3⟩ := fail_ok T (f := 2) a b d (by unfold hfK; rw [if_neg k0, if_neg (by rw [hs]; exact (t0 _).mpr (Or.inl q)), if_pos (Or.inr ⟨q, n12⟩)]) (by decide)
      have e1 : f_R_fail 2 h = some h' := e1
      rw [e1]
      exact ⟨h', rfl, e2, Or.inr e3⟩
    · rw [if_neg n12, nI_1]
      have F0 : FL h (sI h 79 21 (nI (npK (tkK B len) k + 1))) := Fp.rfl'.set (by unfold FLp; omega)
      obtain ⟨h1, e1, e2, e3⟩ := passes_ok (F0.tks T) (k := k) (by rw [hI_n (by omega)]; exact a) (by rw [hI_n (by omega)]; exact b) (by rw [hI_s]; show _ = nI (npK (tkK B len) k + if tkK B len k = 20 then 1 else 0); rw [if_pos q]) d k0 (by rw [hs]; exact (t0 _).mpr (Or.inl q)) (fun z => n12 z.2)
      rw [e1, Option.bind_some]
      have X1 : RX B len k 1 h1 := e3.elim (fun z => Or.inl ⟨k + 1, by omega, by show fol (ssK (tkK B len) k) (tkK B len k) = 1; rw [hs, q]; decide, z⟩) Or.inr
      have F1 : FL h h1 := F0.trans e2
      obtain ⟨h2, f1, f2, X2⟩ := mustX (F1.tks T) (x := 1) (s' := 2) (by decide) (by decide) (by decide) (by decide) t1 (by decide) X1
      have f1 : f_R_must 1 h1 = some h2 := f1
      rw [f1, Option.bind_some]
      have F2 : FL h h2 := F1.trans f2
      obtain ⟨h3, g1, g2, X3⟩ := signedX (F2.tks T) (s := 2) (s1 := 3) (s2 := 4) (by omega) X2
      rw [g1, Option.bind_some]
      have F3 : FL h h3 := F2.trans g2
      obtain ⟨h4, i1, i2, X4⟩ := signedX (F3.tks T) (s := 4) (s1 := 5) (s2 := 7) (by omega) X3
      rw [i1, Option.bind_some]
      have F4 : FL h h4 := F3.trans i2
      obtain ⟨h5, j1, j2, X5⟩ := mustX (F4.tks T) (x := 4) (s' := 0) (by decide) (by decide) (by decide) (by decide) t7 (by decide) X4
      have j1 : f_R_must 4 h4 = some h5 := j1
      rw [j1]
      exact ⟨h5, rfl, F4.trans j2, X5⟩
  · rw [if_neg q, if_pos rfl]
    by_cases q2 : tkK B len k = 21
    · rw [if_pos q2, if_neg (by decide)]
      obtain ⟨h1, e1, e2, e3⟩ := passes_ok T a b (by rw [np_s q]; exact c) d k0 (by rw [hs]; exact (t0 _).mpr (Or.inr q2)) (fun z => q z.1)
      rw [e1, Option.bind_some]
      have X1 : RX B len k 6 h1 := e3.elim (fun z => Or.inl ⟨k + 1, by omega, by show fol (ssK (tkK B len) k) (tkK B len k) = 6; rw [hs, q2]; decide, z⟩) Or.inr
      obtain ⟨h2, f1, f2, X2⟩ := mustX (e2.tks T) (x := 2) (s' := 7) (by decide) (by decide) (by decide) (by decide) t6 (by decide) X1
      have f1 : f_R_must 2 h1 = some h2 := f1
      rw [f1, Option.bind_some]
      have F2 : FL h h2 := e2.trans f2
      obtain ⟨h3, j1, j2, X3⟩ := mustX (F2.tks T) (x := 4) (s' := 0) (by decide) (by decide) (by decide) (by decide) t7 (by decide) X2
      have j1 : f_R_must 4 h2 = some h3 := j1
      rw [j1]
      exact ⟨h3, rfl, F2.trans j2, X3⟩
    · rw [if_neg q2, if_pos rfl]
      obtain ⟨h', e1, e2, e3⟩ := fail_ok T (f := 1) a b d (by
        unfold hfK
        rw [if_neg k0, if_pos (Classical.byContradiction (fun z => by rw [hs] at z; exact ((t0 _).mp z).elim q q2))]) (by decide)
      have e1 : f_R_fail 1 h = some h' := e1
      rw [e1]
      exact ⟨h', rfl, e2, Or.inr e3⟩
theorem lines_ok (T : TKS B len cnt h0) (a : hI h0 79 12 = 0) (b : hI h0 79 11 = 0) (c : hI h0 79 21 = 0) (Q : Int32 × pH → Prop) (H1 : ∀ h' q, FL h0 h' → hI h' 79 12 = 0 → q ≤ 400 → (∀ j, j < q → gdK (tkK B len) j) → ssK (tkK B len) q = 0 → tkK B len q = 0 → ∃ r, f_R_read_J3 h' = some r ∧ Q r) (H2 : ∀ h', FL h0 h' → RF B len h' → ∃ r, f_R_read_J3 h' = some r ∧ Q r) : ∃ r, lp (fun s => f_R_read_L2 s) lpN h0 = some r ∧ Q r := by
  refine lp_wf (f := fun s => f_R_read_L2 s) (fun m h' => FL h0 h' ∧ ((∃ k, m = 402 - k ∧ ssK (tkK B len) k = 0 ∧ RS (tkK B len) k h') ∨ (m = 0 ∧ RF B len h'))) Q ?_ lpN 402 h0 (by unfold lpN; omega) ⟨Fp.rfl', Or.inl ⟨0, rfl, rfl, a, b, c, fun j hj => absurd hj (by omega)⟩⟩
  rintro m h' ⟨F, ⟨k, rfl, hs, R⟩ | ⟨rfl, R⟩⟩
  · have T' := F.tks T
    have ki := k_in T' R.2.2.2
    show (∃ s' m', f_R_read_L2 h' = some (.inl s') ∧ _) ∨ ∃ r, f_R_read_L2 h' = some (.inr r) ∧ _
    unfold f_R_read_L2
    have hi : f_R_is 0 h' = some (if tkK B len k = 0 then 1 else 0) := is_ok T' R (x := 0) (by decide)
    rw [R.1, if_pos rfl, hi, Option.bind_some]
    by_cases k0 : tkK B len k = 0
    · right
      obtain ⟨r, r1, r2⟩ := H1 h' k F R.1 ki.2 R.2.2.2 hs k0
      rw [if_pos k0, if_neg (by decide), r1]
      exact ⟨r, rfl, r2⟩
    · left
      obtain ⟨h'', e1, e2, e3⟩ := line_ok T' R hs k0
      rw [if_neg k0, if_pos rfl, e1]
      rcases e3 with ⟨k', l, s', R'⟩ | R'
      · exact ⟨h'', 402 - k', rfl, by omega, F.trans e2, Or.inl ⟨k', rfl, s', R'⟩⟩
      · exact ⟨h'', 0, rfl, by omega, F.trans e2, Or.inr ⟨rfl, R'⟩⟩
  · right
    show ∃ r, f_R_read_L2 h' = some (.inr r) ∧ _
    unfold f_R_read_L2
    obtain ⟨f, e, f1, f2⟩ := R.ne
    obtain ⟨r, r1, r2⟩ := H2 h' F R
    rw [e, if_neg (show ¬ nI f = 0 from fun z => absurd ((nI_eqI (b := 0) (by omega) (by omega)).mp z) (by omega)), r1]
    exact ⟨r, rfl, r2⟩
end LN
