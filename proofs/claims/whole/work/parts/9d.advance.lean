/-! the class's advance -/
section AD
variable {h : pH} {len : Nat} {B : Nat → Nat}
theorem spells_pt (V : VCt h len B) (hl : len ≤ 2000) (hB : ∀ i, i < len → B i < 256) {s m : Nat} (hm8 : m ≤ 8) (hL' : ∀ k, k < m → isLt (B (s + k)) = true) (hm : s + m ≤ len) (e2 : hI h 1 2 = nI s) (e6 : hI h 1 6 = nI (s + m)) : f_Tape_spells 200 h = some (if nm B s m = pCode then 1 else 0) ∧ f_Tape_spells 201 h = some (if nm B s m = gCode then 1 else 0) := by
  obtain ⟨w1, w2⟩ := nm_word hm8 hL'
  constructor
  · by_cases z : m = 5
    · subst z
      rw [spell_ok V hl hB 200 (by decide) (by decide) hm e2 e6 (fun i => if i = 0 then 112 else if i = 1 then 111 else if i = 2 then 105 else if i = 3 then 110 else 116) (by decide)]
      by_cases y : nm B s 5 = pCode
      · rw [if_pos y]
        have := (w1.mp y).2
        rw [ex_no.mpr (fun k hk => by
          have : k = 0 ∨ k = 1 ∨ k = 2 ∨ k = 3 ∨ k = 4 := by omega
          rcases this with rfl | rfl | rfl | rfl | rfl <;> simp_all)]
        rfl
      · rw [if_neg y]
        cases q : ex (fun i => decide (B (s + i) ≠ if i = 0 then 112 else if i = 1 then 111 else if i = 2 then 105 else if i = 3 then 110 else 116)) 5 with
        | true => rfl
        | false =>
          have n := ex_no.mp q
          have n0 := n 0 (by omega)
          have n1 := n 1 (by omega)
          have n2 := n 2 (by omega)
          have n3 := n 3 (by omega)
          have n4 := n 4 (by omega)
          simp at n0 n1 n2 n3 n4
          exact absurd (w1.mpr ⟨rfl, n0, n1, n2, n3, n4⟩) y
    · rw [spell_len 200 5 (by decide) (by decide) (by omega) e2 e6 z, if_neg (fun x => z (w1.mp x).1)]
  · by_cases z : m = 4
    · subst z
      rw [spell_ok V hl hB 201 (by decide) (by decide) hm e2 e6 (fun i => if i = 0 then 103 else if i = 1 then 114 else if i = 2 then 105 else 100) (by decide)]
      by_cases y : nm B s 4 = gCode
      · rw [if_pos y]
        have := (w2.mp y).2
        rw [ex_no.mpr (fun k hk => by
          have : k = 0 ∨ k = 1 ∨ k = 2 ∨ k = 3 := by omega
          rcases this with rfl | rfl | rfl | rfl <;> simp_all)]
        rfl
      · rw [if_neg y]
        cases q : ex (fun i => decide (B (s + i) ≠ if i = 0 then 103 else if i = 1 then 114 else if i = 2 then 105 else 100)) 4 with
        | true => rfl
        | false =>
          have n := ex_no.mp q
          have n0 := n 0 (by omega)
          have n1 := n 1 (by omega)
          have n2 := n 2 (by omega)
          have n3 := n 3 (by omega)
          simp at n0 n1 n2 n3
          exact absurd (w2.mpr ⟨rfl, n0, n1, n2, n3⟩) y
    · rw [spell_len 201 4 (by decide) (by decide) (by omega) e2 e6 z, if_neg (fun x => z (w2.mp x).1)]
theorem scanLetters_ok (V : VCt h len B) (hl : len ≤ 2000) (hB : ∀ i, i < len → B i < 256) {s : Nat} (hs : s < len) (e2 : hI h 1 2 = nI s) (e6 : hI h 1 6 = nI s) : ∃ h', f_Tape_scanLetters h = some h' ∧ T1 h h' ∧ hI h' 1 2 = nI s ∧ hI h' 1 6 = nI (s + run isLt B len s) ∧ hI h' 1 3 = nI (if 8 < run isLt B len s then 0 else if nm B s (run isLt B len s) = pCode then 1 else if nm B s (run isLt B len s) = gCode then 2 else 3) ∧ hL h' 1 5 = Int64.ofNat (nm B s (run isLt B len s)) := by
  have re := run_end (P := isLt) (B := B) (Nat.le_of_lt hs)
  have ri := fun k (hk : k < run isLt B len s) => run_in (P := isLt) (B := B) hk
  generalize run isLt B len s = m at *
  unfold f_Tape_scanLetters
  have J : ∀ h', T1 h h' → hI h' 1 2 = nI s → hI h' 1 6 = nI (s + m) → hL h' 1 5 = Int64.ofNat (nm B s m) → ∃ h'', f_Tape_scanLetters_J2 h' = some h'' ∧ T1 h h'' ∧ hI h'' 1 2 = nI s ∧ hI h'' 1 6 = nI (s + m) ∧ hI h'' 1 3 = nI (if 8 < m then 0 else if nm B s m = pCode then 1 else if nm B s m = gCode then 2 else 3) ∧ hL h'' 1 5 = Int64.ofNat (nm B s m) := by
    intro h' T a2 a6 a5
    have fin : ∀ v : Nat, v = (if 8 < m then 0 else if nm B s m = pCode then 1 else if nm B s m = gCode then 2 else 3) → T1 h (sI h' 1 3 (nI v)) ∧ hI (sI h' 1 3 (nI v)) 1 2 = nI s ∧ hI (sI h' 1 3 (nI v)) 1 6 = nI (s + m) ∧ hI (sI h' 1 3 (nI v)) 1 3 = nI (if 8 < m then 0 else if nm B s m = pCode then 1 else if nm B s m = gCode then 2 else 3) ∧ hL (sI h' 1 3 (nI v)) 1 5 = Int64.ofNat (nm B s m) := by
      intro v hv
      exact ⟨T.set (by decide), by rw [hI_n (by omega)]; exact a2, by rw [hI_n (by omega)]; exact a6, by rw [hI_s, hv], a5⟩
    unfold f_Tape_scanLetters_J2
    rw [a2, a6, pk_sub (by omega), show s + m - s = m by omega]
    by_cases c : 8 < m
    · rw [if_neg (show ¬ nI m ≤ 8 from nI_ge (a := 8) (by omega) (by omega))]
      exact ⟨_, rfl, fin 0 (by rw [if_pos c])⟩
    · rw [if_pos (show nI m ≤ 8 from nI_le (b := 8) (by omega) (by omega))]
      obtain ⟨p1, p2⟩ := spells_pt (V.t1 T) hl hB (by omega) (fun k hk => (ri k hk).2) re.1 a2 a6
      rw [p1, p2]
      simp only [Option.bind_some]
      by_cases y1 : nm B s m = pCode
      · rw [if_pos y1, if_neg (by decide)]
        exact ⟨_, rfl, fin 1 (by rw [if_neg c, if_pos y1])⟩
      · rw [if_neg y1, if_pos rfl]
        by_cases y2 : nm B s m = gCode
        · rw [if_pos y2, if_neg (by decide)]
          exact ⟨_, rfl, fin 2 (by rw [if_neg c, if_neg y1, if_pos y2])⟩
        · rw [if_neg y2, if_pos rfl]
          exact ⟨_, rfl, fin 3 (by rw [if_neg c, if_neg y1, if_neg y2])⟩
  refine lp_inv (f := fun s => f_Tape_scanLetters_L1 s) (fun k h' => T1 h h' ∧ hI h' 1 2 = nI s ∧ hI h' 1 6 = nI (s + k) ∧ hL h' 1 5 = Int64.ofNat (nm B s k)) _ m ?_ ?_ ⟨T1.rfl'.setL, e2, e6, by rw [hL_sL, if_pos ⟨rfl, rfl⟩]; rfl⟩ (by unfold lpN; omega)
  · rintro k h' hk ⟨T, a2, a6, a5⟩
    obtain ⟨r1, r2⟩ := ri k hk
    have V' := V.t1 T
    have b := hB _ r1
    have dg : 97 ≤ B (s + k) ∧ B (s + k) ≤ 122 := by simpa [isLt] using r2
    show ∃ s', f_Tape_scanLetters_L1 h' = some (.inl s') ∧ _
    unfold f_Tape_scanLetters_L1
    rw [V'.1, a6, if_neg (lt_no (by omega) (by omega)), byteAt_ok V' hl r1]
    simp only [Option.bind_some]
    rw [isLt_ok _ b, r2, if_pos rfl, if_neg (by decide), hI_sL, a6, a5, nI_1, show (97 : Int32) = nI 97 from rfl, pk_sub (by omega), nI_1, i64_d _ (by omega), i64_step]
    refine ⟨_, rfl, T.setL.set (by decide), ?_, ?_, ?_⟩
    · rw [hI_n (by omega), hI_sL]; exact a2
    · rw [hI_s]; rfl
    · rw [hL_sI, hL_sL, if_pos ⟨rfl, rfl⟩]
      show Int64.ofNat (27 * nm B s k + (B (s + k) - 97 + 1)) = Int64.ofNat (27 * nm B s k + (B (s + k) - 96))
      rw [show B (s + k) - 97 + 1 = B (s + k) - 96 by omega]
  · rintro h' ⟨T, a2, a6, a5⟩
    have V' := V.t1 T
    obtain ⟨h'', j1, j2⟩ := J h' T a2 a6 a5
    show ∃ s', f_Tape_scanLetters_L1 h' = some (.inr s') ∧ _
    unfold f_Tape_scanLetters_L1
    rw [V'.1, a6]
    by_cases c : s + m < len
    · rw [if_neg (lt_no c (by omega)), byteAt_ok V' hl c]
      simp only [Option.bind_some]
      have nb : isLt (B (s + m)) = false := nt (fun z => re.2 ⟨c, z⟩)
      rw [isLt_ok _ (hB _ c), nb, if_pos (by rfl), j1]
      exact ⟨_, rfl, j2⟩
    · rw [if_pos (ge_yes (by omega) (by omega)), j1]
      exact ⟨_, rfl, j2⟩
/-- what the class knows of the token at s -/
def TKc (B : Nat → Nat) (len s : Nat) (h : pH) : Prop := hI h 1 2 = nI s ∧ hI h 1 6 = nI (tnx B len s) ∧ hI h 1 3 = nI (ck (kd B len s)) ∧ (kd B len s = 2 → hI h 1 4 = nI (dv B s (run isDg B len s))) ∧ (kd B len s = 1 → hL h 1 5 = Int64.ofNat (nm B s (run isLt B len s)))
theorem advJ2_no (V : VCt h len B) (hl : len ≤ 2000) {s : Nat} (hs : ¬ s < len) (hs2 : s ≤ len) (e2 : hI h 1 2 = nI s) : f_Tape_advance_J2 h = some (0, sI h 1 6 (nI s)) := by
  unfold f_Tape_advance_J2
  rw [hI_n (h := h) (k := 6) (by omega), hI_n (h := h) (k := 6) (by omega), e2, V.1, if_neg (fun x => hs ((nI_ltI (by omega) (by omega)).mp x))]
theorem advJ2_yes (V : VCt h len B) (hl : len ≤ 2000) (hB : ∀ i, i < len → B i < 256) {s : Nat} (hs : s < len) (e2 : hI h 1 2 = nI s) : ∃ h', f_Tape_advance_J2 h = some (1, h') ∧ T1 h h' ∧ TKc B len s h' := by
  have b := hB s hs
  have T : T1 h (sI h 1 6 (nI s)) := T1.rfl'.set (by decide)
  have V' := V.t1 T
  have f2 : hI (sI h 1 6 (nI s)) 1 2 = nI s := by rw [hI_n (by omega)]; exact e2
  have f6 : hI (sI h 1 6 (nI s)) 1 6 = nI s := hI_s
  unfold f_Tape_advance_J2
  rw [e2, f2, V'.1, if_pos ((nI_ltI (by omega) (by omega)).mpr hs), byteAt_ok V' hl hs]
  generalize hg : sI h 1 6 (nI s) = g at *
  simp only [Option.bind_some]
  rw [isLt_ok _ b, isDg_ok _ b]
  have ekd : kd B len s = kd B len s := rfl
  conv at ekd => rhs; unfold kd
  have etn : tnx B len s = tnx B len s := rfl
  conv at etn => rhs; unfold tnx
  cases h1 : isLt (B s) with
  | true =>
    rw [if_pos rfl, if_neg (by decide)]
    obtain ⟨h', a1, a2, a3, a4, a5, a6⟩ := scanLetters_ok V' hl hB hs f2 f6
    rw [a1]
    simp only [h1, if_true] at ekd etn
    refine ⟨h', rfl, T.trans a2, a3, by rw [etn]; exact a4, ?_, ?_, fun _ => a6⟩
    · rw [a5, ekd]
      split
      · rfl
      · split
        · rfl
        · split <;> rfl
    · intro q
      rw [ekd] at q
      exfalso
      revert q
      split
      · decide
      · split
        · decide
        · split <;> decide
  | false =>
    rw [if_pos (show (if false = true then (1 : Int32) else 0) = 0 from rfl)]
    cases h2 : isDg (B s) with
    | true =>
      rw [if_pos rfl, if_neg (by decide)]
      obtain ⟨h', a1, a2, a3, a4, a5, a6⟩ := scanDigits_ok V' hl hB hs f2 f6
      rw [a1]
      simp only [h1, h2, if_true, Bool.false_eq_true, if_false] at ekd etn
      refine ⟨h', rfl, T.trans a2, a3, by rw [etn]; exact a4, ?_, fun _ => a6, ?_⟩
      · rw [a5, ekd]
        split <;> rfl
      · intro q
        rw [ekd] at q
        exfalso
        revert q
        split <;> decide
    | false =>
      rw [if_pos (show (if false = true then (1 : Int32) else 0) = 0 from rfl)]
      simp only [h1, h2, Bool.false_eq_true, if_false] at ekd etn
      rw [show (45 : Int32) = nI 45 from rfl, show (59 : Int32) = nI 59 from rfl]
      simp only [nI_eqI (show B s ≤ 100000 by omega) (show 45 ≤ 100000 by omega), nI_eqI (show B s ≤ 100000 by omega) (show 59 ≤ 100000 by omega)]
      rw [nI_1]
      have fin : ∀ v : Nat, v = ck (kd B len s) → kd B len s ≠ 2 → kd B len s ≠ 1 → T1 h (sI (sI g 1 6 (nI (s + 1))) 1 3 (nI v)) ∧ TKc B len s (sI (sI g 1 6 (nI (s + 1))) 1 3 (nI v)) := by
        intro v hv n2 n1
        refine ⟨(T.set (by decide)).set (by decide), ?_, ?_, ?_, fun q => absurd q n2, fun q => absurd q n1⟩
        · rw [hI_n (by omega), hI_n (by omega)]; exact f2
        · rw [hI_n (by omega), hI_s, etn]
        · rw [hI_s, hv]
      by_cases c1 : B s = 45
      · rw [if_pos c1]
        have e : kd B len s = 5 := by rw [ekd, if_neg (by omega), if_pos c1]
        exact ⟨_, rfl, fin 5 (by rw [e]; rfl) (by omega) (by omega)⟩
      · rw [if_neg c1]
        by_cases c2 : B s = 59
        · rw [if_pos c2]
          have e : kd B len s = 4 := by rw [ekd, if_pos c2]
          exact ⟨_, rfl, fin 6 (by rw [e]; rfl) (by omega) (by omega)⟩
        · rw [if_neg c2]
          have e : kd B len s = 3 := by rw [ekd, if_neg c2, if_neg c1]
          exact ⟨_, rfl, fin 0 (by rw [e]; rfl) (by omega) (by omega)⟩
theorem advance_ok (V : VCt h len B) (hl : len ≤ 2000) (hB : ∀ i, i < len → B i < 256) {i : Nat} (hi : i ≤ len) (e6 : hI h 1 6 = nI i) : ∃ r, f_Tape_advance h = some r ∧ T1 h r.2 ∧ ((tst B len i < len ∧ r.1 = 1 ∧ TKc B len (tst B len i) r.2) ∨ (¬ tst B len i < len ∧ r.1 = 0)) := by
  have re := run_end (P := isBl) (B := B) hi
  have ri := fun k (hk : k < run isBl B len i) => run_in (P := isBl) (B := B) hk
  unfold tst f_Tape_advance
  generalize run isBl B len i = m at *
  refine lp_inv (f := fun s => f_Tape_advance_L1 s) (fun k h' => T1 h h' ∧ hI h' 1 2 = nI (i + k)) _ m ?_ ?_ ⟨T1.rfl'.set (by decide), by rw [hI_s, e6]; rfl⟩ (by unfold lpN; omega)
  · rintro k h' hk ⟨T, a2⟩
    obtain ⟨r1, r2⟩ := ri k hk
    have V' := V.t1 T
    show ∃ s', f_Tape_advance_L1 h' = some (.inl s') ∧ _
    unfold f_Tape_advance_L1
    rw [V'.1, a2, if_neg (lt_no (by omega) (by omega)), byteAt_ok V' hl r1]
    simp only [Option.bind_some]
    rw [isBl_ok _ (hB _ r1), r2, if_pos rfl, if_neg (by decide), nI_1]
    exact ⟨_, rfl, T.set (by decide), by rw [hI_s]; rfl⟩
  · rintro h' ⟨T, a2⟩
    have V' := V.t1 T
    show ∃ s', f_Tape_advance_L1 h' = some (.inr s') ∧ _
    unfold f_Tape_advance_L1
    rw [V'.1, a2]
    by_cases c : i + m < len
    · rw [if_neg (lt_no c (by omega)), byteAt_ok V' hl c]
      simp only [Option.bind_some]
      have nb : isBl (B (i + m)) = false := nt (fun z => re.2 ⟨c, z⟩)
      obtain ⟨h'', j1, j2, j3⟩ := advJ2_yes V' hl hB c a2
      rw [isBl_ok _ (hB _ c), nb, if_pos (by rfl), j1]
      exact ⟨_, rfl, T.trans j2, Or.inl ⟨c, rfl, j3⟩⟩
    · rw [if_pos (ge_yes (by omega) (by omega)), advJ2_no V' hl c re.1 a2]
      exact ⟨_, rfl, T.set (by decide), Or.inr ⟨c, rfl⟩⟩
end AD
