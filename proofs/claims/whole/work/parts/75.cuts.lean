/-! the sets that are cut off: what the class marks -/
def MB (lf rt on ah t : Nat) : Prop := t = lf ||| ah ∨ t = lf ||| mns on ah ∨ t = rt ||| ah ∨ t = rt ||| mns on ah
def onS (n : Nat) (X Y : Nat → Int) (p q : Nat) : Nat := sdS n X Y p q 0 ||| 2 ^ p ||| 2 ^ q
def upS (n : Nat) (X Y : Nat → Int) (p q r : Nat) : Nat := bs (fun s => decide (DT3 X Y p q s ≤ DT3 X Y p q r)) n
def CA (n : Nat) (X Y : Nat → Int) (p q t : Nat) : Prop := MB (sdS n X Y p q 1) (sdS n X Y p q (-1)) (onS n X Y p q) 0 t ∨ ∃ r, r < n ∧ (onS n X Y p q).testBit r = true ∧ MB (sdS n X Y p q 1) (sdS n X Y p q (-1)) (onS n X Y p q) (upS n X Y p q r &&& onS n X Y p q) t
def CM (n : Nat) (X Y : Nat → Int) (t : Nat) : Prop := t = 0 ∨ t = 2 ^ n - 1 ∨ ∃ p q, p < q ∧ q < n ∧ CA n X Y p q t
/-- marked just then when before, or of these -/
def AddM (h h' : pH) (P : Nat → Prop) : Prop := ∀ t, t < 4096 → (wbit h' 23 t = true ↔ wbit h 23 t = true ∨ P t)
theorem markBoth_ok {h : pH} {lf rt on ah : Nat} (h1 : lf < 4096) (h2 : rt < 4096) (h3 : on < 4096) (h4 : ah < 4096) : ∃ h', f_Cuts_markBoth (nI lf) (nI rt) (nI on) (nI ah) h = some h' ∧ Fs [23] h h' ∧ AddM h h' (MB lf rt on ah) := by
  unfold f_Cuts_markBoth
  have h5 : mns on ah < 2 ^ 12 := mns_lt (n := 12) ah h3
  have o1 : lf ||| ah < 2 ^ 12 := Nat.or_lt_two_pow h1 h4
  have o2 : lf ||| mns on ah < 2 ^ 12 := Nat.or_lt_two_pow h1 h5
  have o3 : rt ||| ah < 2 ^ 12 := Nat.or_lt_two_pow h2 h4
  have o4 : rt ||| mns on ah < 2 ^ 12 := Nat.or_lt_two_pow h2 h5
  rw [andn_ok, nI_or, nI_or, nI_or, nI_or]
  obtain ⟨t1, e1, f1, w1⟩ := mark_ok (h := h) rf22 o1
  rw [e1]
  simp only [Option.bind_some]
  obtain ⟨t2, e2, f2, w2⟩ := mark_ok (h := t1) rf22 o2
  rw [e2]
  simp only [Option.bind_some]
  obtain ⟨t3, e3, f3, w3⟩ := mark_ok (h := t2) rf22 o3
  rw [e3]
  simp only [Option.bind_some]
  obtain ⟨t4, e4, f4, w4⟩ := mark_ok (h := t3) rf22 o4
  rw [e4]
  refine ⟨t4, rfl, ((f1.trans f2).trans f3).trans f4, fun t ht => ?_⟩
  rw [w4 t ht, w3 t ht, w2 t ht, w1 t ht]
  simp only [Bool.or_eq_true, decide_eq_true_eq]
  unfold MB
  constructor
  · rintro (e | e | e | e | e)
    · exact Or.inr (Or.inr (Or.inr (Or.inr e)))
    · exact Or.inr (Or.inr (Or.inr (Or.inl e)))
    · exact Or.inr (Or.inr (Or.inl e))
    · exact Or.inr (Or.inl e)
    · exact Or.inl e
  · rintro (e | e | e | e | e)
    · exact Or.inr (Or.inr (Or.inr (Or.inr e)))
    · exact Or.inr (Or.inr (Or.inr (Or.inl e)))
    · exact Or.inr (Or.inr (Or.inl e))
    · exact Or.inr (Or.inl e)
    · exact Or.inl e
theorem AddM.trans {h1 h2 h3 : pH} {P Q : Nat → Prop} (A : AddM h1 h2 P) (B : AddM h2 h3 Q) : AddM h1 h3 (fun t => P t ∨ Q t) := fun t ht => by
  rw [B t ht, A t ht, or_assoc]
theorem AddM.cong {h1 h2 : pH} {P Q : Nat → Prop} (A : AddM h1 h2 P) (B : ∀ t, P t ↔ Q t) : AddM h1 h2 Q := fun t ht => by
  rw [A t ht, B t]
section CU
variable {n g : Nat} {X Y : Nat → Int} {h : pH}
theorem upTo_ok {o : Nat} (C : CC h o n g X Y) (G : GC n g X Y) {p q r : Nat} (hp : p < n) (hq : q < n) (hr : r < n) : f_Cuts_upTo o (nI p) (nI q) (nI r) h = some (nI (upS n X Y p q r)) := by
  have hn := G.1
  unfold f_Cuts_upTo upS
  rw [wayAlong_ok C hn hp hq hr]
  simp only [Option.bind_some]
  exact lp_bs (f := fun t => f_Cuts_upTo_L1 o (nI p) (nI q) (iI (DT3 X Y p q r)) h t.1 t.2) _ (fun a => a) hn (fun s hs a => by
    show f_Cuts_upTo_L1 o (nI p) (nI q) (iI (DT3 X Y p q r)) h a (nI s) = _
    unfold f_Cuts_upTo_L1
    rw [C.1, if_neg (lt_no hs (by omega)), wayAlong_ok C hn hp hq hs]
    simp only [Option.bind_some]
    simp only [iI_lt (InR_100 (DT3_in G hp hq hr)) (InR_100 (DT3_in G hp hq hs))]
    by_cases e : DT3 X Y p q r < DT3 X Y p q s
    · rw [if_pos e, if_neg (by simp; omega)]
    · rw [if_neg e, if_pos (by simp; omega)]) (fun a => by
    show f_Cuts_upTo_L1 o (nI p) (nI q) (iI (DT3 X Y p q r)) h a (nI n) = _
    unfold f_Cuts_upTo_L1
    rw [C.1, if_pos (ge_yes (Nat.le_refl _) (by omega))])
theorem onS_lt (hn : n ≤ 12) {p q : Nat} (hp : p < n) (hq : q < n) : onS n X Y p q < 2 ^ n := Nat.or_lt_two_pow (Nat.or_lt_two_pow (sdS_lt p q 0) (Nat.pow_lt_pow_right (by decide) hp)) (Nat.pow_lt_pow_right (by decide) hq)
theorem cutAlong_ok (C : CC h 8 n g X Y) (G : GC n g X Y) {p q : Nat} (hp : p < n) (hq : q < n) : ∃ h', f_Cuts_cutAlong 8 (nI p) (nI q) h = some h' ∧ Fs [23] h h' ∧ AddM h h' (CA n X Y p q) := by
  have hn := G.1
  have l12 := p12 hn
  have a1 := sideBits_ok C G hp hq (sd := 1) (by omega)
  have a1 : f_Cloud_sideBits 8 (nI p) (nI q) 1 h = some (nI (sdS n X Y p q 1)) := a1
  have a0 := sideBits_ok C G hp hq (sd := 0) (by omega)
  have a0 : f_Cloud_sideBits 8 (nI p) (nI q) 0 h = some (nI (sdS n X Y p q 0)) := a0
  have L : sdS n X Y p q 1 < 4096 := Nat.lt_of_lt_of_le (sdS_lt p q 1) l12
  have R : sdS n X Y p q (-1) < 4096 := Nat.lt_of_lt_of_le (sdS_lt p q (-1)) l12
  have O : onS n X Y p q < 4096 := Nat.lt_of_lt_of_le (onS_lt hn hp hq) l12
  unfold f_Cuts_cutAlong
  rw [a1, sbM C G hp hq, a0]
  simp only [Option.bind_some]
  rw [jshl_ok p (by omega), jshl_ok q (by omega), nI_or, nI_or, show sdS n X Y p q 0 ||| 2 ^ p ||| 2 ^ q = onS n X Y p q from rfl]
  obtain ⟨t0, e0, f0, w0⟩ := markBoth_ok (h := h) L R O (show 0 < 4096 by omega)
  rw [show f_Cuts_markBoth (nI (sdS n X Y p q 1)) (nI (sdS n X Y p q (-1))) (nI (onS n X Y p q)) 0 h = some t0 from e0]
  simp only [Option.bind_some]
  obtain ⟨r, d1, d2, d3⟩ := lp_inv (f := fun s => f_Cuts_cutAlong_L1 8 (nI p) (nI q) (nI (sdS n X Y p q 1)) (nI (sdS n X Y p q (-1))) (nI (onS n X Y p q)) s.1 s.2) (fun k s => s.1 = nI k ∧ Fs [23] h s.2 ∧ AddM h s.2 (fun t => MB (sdS n X Y p q 1) (sdS n X Y p q (-1)) (onS n X Y p q) 0 t ∨ ∃ r, r < k ∧ (onS n X Y p q).testBit r = true ∧ MB (sdS n X Y p q 1) (sdS n X Y p q (-1)) (onS n X Y p q) (upS n X Y p q r &&& onS n X Y p q) t)) (fun r => Fs [23] h r ∧ AddM h r (CA n X Y p q)) n (by
    rintro k ⟨a, h'⟩ hk ⟨rfl, d1, d2⟩
    have d1 : Fs [23] h h' := d1
    have C' : CC h' 8 n g X Y := C.fs d1 (by decide) (by rw [rf8_0]; decide) (by rw [rf8_1]; decide)
    show ∃ s', f_Cuts_cutAlong_L1 8 (nI p) (nI q) (nI (sdS n X Y p q 1)) (nI (sdS n X Y p q (-1))) (nI (onS n X Y p q)) (nI k) h' = some (.inl s') ∧ _
    unfold f_Cuts_cutAlong_L1
    rw [C'.1, if_neg (lt_no hk (by omega)), bit_ok (by omega) (by omega), upTo_ok C' G hp hq hk, nI_1]
    simp only [Option.bind_some]
    have step : ∀ (t : Nat) (Q : Nat → Prop), (∃ r, r < k + 1 ∧ Q r) ↔ (∃ r, r < k ∧ Q r) ∨ Q k := by
      intro t Q
      constructor
      · rintro ⟨r, hr, hq⟩
        by_cases e : r = k
        · subst e; exact Or.inr hq
        · exact Or.inl ⟨r, by omega, hq⟩
      · rintro (⟨r, hr, hq⟩ | hq)
        · exact ⟨r, by omega, hq⟩
        · exact ⟨k, by omega, hq⟩
    cases hb : (onS n X Y p q).testBit k with
    | false =>
      rw [if_neg (by decide)]
      refine ⟨_, rfl, rfl, d1, AddM.cong d2 (fun t => ?_)⟩
      rw [step t]
      constructor
      · rintro (e | e)
        · exact Or.inl e
        · exact Or.inr (Or.inl e)
      · rintro (e | e | e)
        · exact Or.inl e
        · exact Or.inr e
        · rw [hb] at e; exact absurd e.1 (by decide)
    | true =>
      rw [if_pos (by decide), nI_and]
      obtain ⟨t1, e1, f1, w1⟩ := markBoth_ok (h := h') L R O (and_lt4 (a := upS n X Y p q k) O)
      rw [e1]
      refine ⟨_, rfl, rfl, d1.trans f1, AddM.cong (AddM.trans d2 w1) (fun t => ?_)⟩
      rw [step t]
      constructor
      · rintro ((e | e) | e)
        · exact Or.inl e
        · exact Or.inr (Or.inl e)
        · exact Or.inr (Or.inr ⟨hb, e⟩)
      · rintro (e | e | e)
        · exact Or.inl (Or.inl e)
        · exact Or.inl (Or.inr e)
        · exact Or.inr e.2) (by
    rintro ⟨a, h'⟩ ⟨rfl, d1, d2⟩
    have d1 : Fs [23] h h' := d1
    have C' : CC h' 8 n g X Y := C.fs d1 (by decide) (by rw [rf8_0]; decide) (by rw [rf8_1]; decide)
    show ∃ s', f_Cuts_cutAlong_L1 8 (nI p) (nI q) (nI (sdS n X Y p q 1)) (nI (sdS n X Y p q (-1))) (nI (onS n X Y p q)) (nI n) h' = some (.inr s') ∧ _
    unfold f_Cuts_cutAlong_L1
    rw [C'.1, if_pos (ge_yes (Nat.le_refl _) (by omega))]
    exact ⟨_, rfl, d1, d2⟩) (n := lpN) (s := (0, t0)) ⟨rfl, f0, AddM.cong w0 (fun t => by
      constructor
      · exact Or.inl
      · rintro (e | ⟨r, hr, -⟩)
        · exact e
        · omega)⟩ (by unfold lpN; omega)
  exact ⟨r, d1, d2, d3⟩
theorem ex_step {k : Nat} (Q : Nat → Prop) : (∃ r, r < k + 1 ∧ Q r) ↔ (∃ r, r < k ∧ Q r) ∨ Q k := by
  constructor
  · rintro ⟨r, hr, hq⟩
    by_cases e : r = k
    · subst e; exact Or.inr hq
    · exact Or.inl ⟨r, by omega, hq⟩
  · rintro (⟨r, hr, hq⟩ | hq)
    · exact ⟨r, by omega, hq⟩
    · exact ⟨k, by omega, hq⟩
/-- the pairs (p, q) of one p, and all of them -/
theorem find_run (C : CC h 8 n g X Y) (G : GC n g X Y) : ∃ h', lp (fun s => f_Cuts_find_L1 8 s.1 s.2) lpN (0, h) = some h' ∧ Fs [23] h h' ∧ AddM h h' (fun t => ∃ p, p < n ∧ ∃ q, q < n ∧ (p < q ∧ CA n X Y p q t)) := by
  have hn := G.1
  have cf : ∀ h', Fs [23] h h' → CC h' 8 n g X Y := fun h' F => C.fs F (by decide) (by rw [rf8_0]; decide) (by rw [rf8_1]; decide)
  refine lp_inv (f := fun s => f_Cuts_find_L1 8 s.1 s.2) (fun k s => s.1 = nI k ∧ Fs [23] h s.2 ∧ AddM h s.2 (fun t => ∃ p, p < k ∧ ∃ q, q < n ∧ (p < q ∧ CA n X Y p q t))) _ n ?_ ?_ ⟨rfl, Fs.rfl', fun t ht => by
    constructor
    · exact Or.inl
    · rintro (e | ⟨p, hp, -⟩)
      · exact e
      · omega⟩ (by unfold lpN; omega)
  · rintro p ⟨a, h'⟩ hp ⟨rfl, d1, d2⟩
    have d1 : Fs [23] h h' := d1
    have d2 : AddM h h' (fun t => ∃ p', p' < p ∧ ∃ q, q < n ∧ (p' < q ∧ CA n X Y p' q t)) := d2
    have C' := cf h' d1
    show ∃ s', f_Cuts_find_L1 8 (nI p) h' = some (.inl s') ∧ _
    unfold f_Cuts_find_L1
    rw [C'.1, if_neg (lt_no hp (by omega)), nI_1]
    obtain ⟨r, e1, s2, rfl, e2, e3, e4⟩ := lp_inv (f := fun s => f_Cuts_find_L2 8 (nI p) s.1 s.2) (fun k s => s.1 = nI (p + 1 + k) ∧ Fs [23] h s.2 ∧ AddM h' s.2 (fun t => ∃ q, q < p + 1 + k ∧ (p < q ∧ CA n X Y p q t))) (fun r => ∃ s' : Int32 × pH, r = .inl s' ∧ s'.1 = nI (p + 1) ∧ Fs [23] h s'.2 ∧ AddM h' s'.2 (fun t => ∃ q, q < n ∧ (p < q ∧ CA n X Y p q t))) (n - (p + 1)) (by
      rintro k ⟨a, h2⟩ hk ⟨rfl, d1, d2⟩
      have d1 : Fs [23] h h2 := d1
      have d2 : AddM h' h2 (fun t => ∃ q, q < p + 1 + k ∧ (p < q ∧ CA n X Y p q t)) := d2
      have C2 := cf h2 d1
      show ∃ s', f_Cuts_find_L2 8 (nI p) (nI (p + 1 + k)) h2 = some (.inl s') ∧ _
      unfold f_Cuts_find_L2
      obtain ⟨h3, e1, f3, w3⟩ := cutAlong_ok C2 G hp (show p + 1 + k < n by omega)
      rw [C2.1, if_neg (lt_no (by omega) (by omega)), e1, nI_1]
      refine ⟨_, rfl, rfl, d1.trans f3, AddM.cong (AddM.trans d2 w3) (fun t => ?_)⟩
      show _ ↔ ∃ q, q < p + 1 + k + 1 ∧ (p < q ∧ CA n X Y p q t)
      rw [ex_step]
      constructor
      · rintro (e | e)
        · exact Or.inl e
        · exact Or.inr ⟨by omega, e⟩
      · rintro (e | e)
        · exact Or.inl e
        · exact Or.inr e.2) (by
      rintro ⟨a, h2⟩ ⟨rfl, d1, d2⟩
      have d1 : Fs [23] h h2 := d1
      have d2 : AddM h' h2 (fun t => ∃ q, q < p + 1 + (n - (p + 1)) ∧ (p < q ∧ CA n X Y p q t)) := d2
      have C2 := cf h2 d1
      rw [show p + 1 + (n - (p + 1)) = n by omega] at d2
      show ∃ s', f_Cuts_find_L2 8 (nI p) (nI (p + 1 + (n - (p + 1)))) h2 = some (.inr s') ∧ _
      unfold f_Cuts_find_L2
      rw [C2.1, show p + 1 + (n - (p + 1)) = n by omega, if_pos (ge_yes (Nat.le_refl _) (by omega)), nI_1]
      exact ⟨_, rfl, _, rfl, rfl, d1, d2⟩) (n := lpN) (s := (nI (p + 1), h')) ⟨rfl, d1, fun t ht => by
        constructor
        · exact Or.inl
        · rintro (e | ⟨q, hq, hpq, -⟩)
          · exact e
          · omega⟩ (by unfold lpN; omega)
    rw [e1]
    refine ⟨s2, rfl, e2, e3, AddM.cong (AddM.trans d2 e4) (fun t => ?_)⟩
    rw [ex_step]
  · rintro ⟨a, h'⟩ ⟨rfl, d1, d2⟩
    have d1 : Fs [23] h h' := d1
    have C' := cf h' d1
    show ∃ s', f_Cuts_find_L1 8 (nI n) h' = some (.inr s') ∧ _
    unfold f_Cuts_find_L1
    rw [C'.1, if_pos (ge_yes (Nat.le_refl _) (by omega))]
    exact ⟨_, rfl, d1, d2⟩
theorem find_new (C : CC h 8 n g X Y) (G : GC n g X Y) (hne : ¬ hI h 21 1 = hI h 8 4) : ∃ h', f_Cuts_find 8 h = some h' ∧ Fs [21, 23] h h' ∧ hI h' 21 1 = hI h 8 4 ∧ ∀ t, t < 4096 → (wbit h' 23 t = true ↔ CM n X Y t) := by
  have hn := G.1
  unfold f_Cuts_find
  rw [if_neg hne]
  have F0 : Fs [21, 23] h (sI h 21 1 (hI h 8 4)) := Fs.rfl'.set (by decide)
  obtain ⟨h1, e1, f1, w1⟩ := clearM_ok (h := sI h 21 1 (hI h 8 4)) rf22 cx23
  rw [e1]
  simp only [Option.bind_some]
  have F1 : Fs [21, 23] h h1 := F0.trans (f1.mono (by decide))
  have q1 : hI h1 21 1 = hI h 8 4 := by rw [f1.1 21 1 (by decide), hI_s]
  obtain ⟨h2, e2, f2, w2⟩ := mark_ok (h := h1) rf22 (show 0 < 4096 by omega)
  rw [show f_SetMarks_mark 22 0 h1 = some h2 from e2]
  simp only [Option.bind_some]
  have F2 : Fs [21, 23] h h2 := F1.trans (f2.mono (by decide))
  have C2 : CC h2 8 n g X Y := C.fs F2 (by decide) (by rw [rf8_0]; decide) (by rw [rf8_1]; decide)
  obtain ⟨h3, e3, f3, w3⟩ := mark_ok (h := h2) rf22 (full_lt hn)
  rw [every_ok C2 hn, e3]
  simp only [Option.bind_some]
  have F3 : Fs [21, 23] h h3 := F2.trans (f3.mono (by decide))
  have C3 : CC h3 8 n g X Y := C.fs F3 (by decide) (by rw [rf8_0]; decide) (by rw [rf8_1]; decide)
  obtain ⟨h4, e4, f4, w4⟩ := find_run C3 G
  refine ⟨h4, e4, F3.trans (f4.mono (by decide)), by rw [f4.1 21 1 (by decide), f3.1 21 1 (by decide), f2.1 21 1 (by decide), q1], fun t ht => ?_⟩
  rw [w4 t ht, w3 t ht, w2 t ht, w1 t ht]
  simp only [Bool.or_eq_true, decide_eq_true_eq, Bool.or_false]
  unfold CM
  constructor
  · rintro ((e | e) | ⟨p, hp, q, hq, e1, e2⟩)
    · exact Or.inr (Or.inl e)
    · exact Or.inl e
    · exact Or.inr (Or.inr ⟨p, q, e1, hq, e2⟩)
  · rintro (e | e | ⟨p, q, e1, hq, e2⟩)
    · exact Or.inl (Or.inr e)
    · exact Or.inl (Or.inl e)
    · exact Or.inr ⟨p, by omega, q, hq, e1, e2⟩
end CU
