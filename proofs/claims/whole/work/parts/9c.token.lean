/-! one token of the class -/
theorem isBl_ok : ∀ b, b < 256 → f_Tape_isBlank (nI b) = if isBl b then 1 else 0 := by decide +kernel
theorem isLt_ok : ∀ b, b < 256 → f_Tape_isLetter (nI b) = if isLt b then 1 else 0 := by decide +kernel
theorem isDg_ok : ∀ b, b < 256 → f_Tape_isDigit (nI b) = if isDg b then 1 else 0 := by decide +kernel
def T1 (h h' : pH) : Prop := (∀ o k, o ≠ 1 → hI h' o k = hI h o k) ∧ hI h' 1 1 = hI h 1 1 ∧ ∀ o k, o ≠ 1 → hL h' o k = hL h o k
theorem T1.rfl' {h : pH} : T1 h h := ⟨fun _ _ _ => rfl, rfl, fun _ _ _ => rfl⟩
theorem T1.trans {a b c : pH} (A : T1 a b) (B : T1 b c) : T1 a c := ⟨fun o k x => (B.1 o k x).trans (A.1 o k x), B.2.1.trans A.2.1, fun o k x => (B.2.2 o k x).trans (A.2.2 o k x)⟩
theorem T1.set {h h' : pH} (A : T1 h h') {k : Nat} {v : Int32} (hk : k ≠ 1) : T1 h (sI h' 1 k v) := ⟨fun o j x => by rw [hI_n (by omega)]; exact A.1 o j x, by rw [hI_n (by omega)]; exact A.2.1, fun o j x => A.2.2 o j x⟩
theorem T1.setL {h h' : pH} (A : T1 h h') {k : Nat} {v : Int64} : T1 h (sL h' 1 k v) := ⟨fun o j x => A.1 o j x, A.2.1, fun o j x => by rw [hL_sL, if_neg (by omega)]; exact A.2.2 o j x⟩
theorem VCt.t1 {h h' : pH} {len : Nat} {B : Nat → Nat} (V : VCt h len B) (A : T1 h h') : VCt h' len B := ⟨by rw [A.2.1]; exact V.1, fun i hi => by rw [A.1 2 i (by decide)]; exact V.2 i hi⟩
section TK
variable {h : pH} {len : Nat} {B : Nat → Nat}
theorem byteAt_ok (V : VCt h len B) (hl : len ≤ 2000) {i : Nat} (hi : i < len) : f_Tape_byteAt (nI i) h = some (nI (B i)) := by
  unfold f_Tape_byteAt
  rw [if_neg (by rw [lt0x, nI_iI, iI_toInt (by unfold InR; omega)]; omega), if_neg (show ¬ (2000 : Int32) ≤ nI i from nI_ge (b := 2000) (by omega) (by omega)), if_neg (gd (by omega) (by omega)), cla (by omega), V.2 i hi]
theorem scanDigits_ok (V : VCt h len B) (hl : len ≤ 2000) (hB : ∀ i, i < len → B i < 256) {s : Nat} (hs : s < len) (e2 : hI h 1 2 = nI s) (e6 : hI h 1 6 = nI s) : ∃ h', f_Tape_scanDigits h = some h' ∧ T1 h h' ∧ hI h' 1 2 = nI s ∧ hI h' 1 6 = nI (s + run isDg B len s) ∧ hI h' 1 3 = nI (if 4 < run isDg B len s then 0 else 4) ∧ hI h' 1 4 = nI (dv B s (run isDg B len s)) := by
  have re := run_end (P := isDg) (B := B) (Nat.le_of_lt hs)
  have ri := fun k (hk : k < run isDg B len s) => run_in (P := isDg) (B := B) hk
  generalize run isDg B len s = m at *
  unfold f_Tape_scanDigits
  have J : ∀ h', T1 h h' → hI h' 1 2 = nI s → hI h' 1 6 = nI (s + m) → hI h' 1 4 = nI (dv B s m) → ∃ h'', f_Tape_scanDigits_J2 h' = some h'' ∧ T1 h h'' ∧ hI h'' 1 2 = nI s ∧ hI h'' 1 6 = nI (s + m) ∧ hI h'' 1 3 = nI (if 4 < m then 0 else 4) ∧ hI h'' 1 4 = nI (dv B s m) := by
    intro h' T a2 a6 a4
    unfold f_Tape_scanDigits_J2
    rw [a2, a6, pk_sub (by omega), show s + m - s = m by omega]
    by_cases c : 4 < m
    · rw [if_neg (show ¬ nI m ≤ 4 from nI_ge (a := 4) (by omega) (by omega)), if_pos c]
      exact ⟨_, rfl, T.set (by decide), by rw [hI_n (by omega)]; exact a2, by rw [hI_n (by omega)]; exact a6, by rw [hI_s]; rfl, by rw [hI_n (by omega)]; exact a4⟩
    · rw [if_pos (show nI m ≤ 4 from nI_le (b := 4) (by omega) (by omega)), if_neg c]
      exact ⟨_, rfl, T.set (by decide), by rw [hI_n (by omega)]; exact a2, by rw [hI_n (by omega)]; exact a6, by rw [hI_s]; rfl, by rw [hI_n (by omega)]; exact a4⟩
  refine lp_inv (f := fun s => f_Tape_scanDigits_L1 s) (fun k h' => T1 h h' ∧ hI h' 1 2 = nI s ∧ hI h' 1 6 = nI (s + k) ∧ hI h' 1 4 = nI (dv B s k)) _ m ?_ ?_ ⟨T1.rfl'.set (by decide), by rw [hI_n (by omega)]; exact e2, by rw [hI_n (by omega)]; exact e6, by rw [hI_s]; rfl⟩ (by unfold lpN; omega)
  · rintro k h' hk ⟨T, a2, a6, a4⟩
    obtain ⟨r1, r2⟩ := ri k hk
    have V' := V.t1 T
    have b := hB _ r1
    have dg : 48 ≤ B (s + k) ∧ B (s + k) ≤ 57 := by simpa [isDg] using r2
    show ∃ s', f_Tape_scanDigits_L1 h' = some (.inl s') ∧ _
    unfold f_Tape_scanDigits_L1
    rw [V'.1, a6, if_neg (lt_no (by omega) (by omega)), byteAt_ok V' hl r1]
    simp only [Option.bind_some]
    rw [isDg_ok _ b, r2, if_pos rfl, if_neg (by decide), hI_n (h := h') (by omega), a4, a6, nI_1, show (10 : Int32) = nI 10 from rfl, pk_mul, show (48 : Int32) = nI 48 from rfl, pk_sub (by omega), nI_add]
    refine ⟨_, rfl, (T.set (by decide)).set (by decide), ?_, ?_, ?_⟩
    · rw [hI_n (by omega), hI_n (by omega)]; exact a2
    · rw [hI_s]; rfl
    · rw [hI_n (by omega), hI_s]
      congr 1
      show dv B s k * 10 + _ = 10 * dv B s k + _
      omega
  · rintro h' ⟨T, a2, a6, a4⟩
    have V' := V.t1 T
    obtain ⟨h'', j1, j2⟩ := J h' T a2 a6 a4
    show ∃ s', f_Tape_scanDigits_L1 h' = some (.inr s') ∧ _
    unfold f_Tape_scanDigits_L1
    rw [V'.1, a6]
    by_cases c : s + m < len
    · rw [if_neg (lt_no c (by omega)), byteAt_ok V' hl c]
      simp only [Option.bind_some]
      have nb : isDg (B (s + m)) = false := nt (fun z => re.2 ⟨c, z⟩)
      rw [isDg_ok _ (hB _ c), nb, if_pos (by rfl), j1]
      exact ⟨_, rfl, j2⟩
    · rw [if_pos (ge_yes (by omega) (by omega)), j1]
      exact ⟨_, rfl, j2⟩
theorem i64_d : ∀ d, d < 27 → (nI d).toInt64 = Int64.ofNat d := by decide +kernel
theorem i64_step (a d : Nat) : Int64.ofNat a * 27 + Int64.ofNat d = Int64.ofNat (27 * a + d) := by
  rw [show (27 : Int64) = Int64.ofNat 27 from rfl, ← Int64.ofNat_mul, ← Int64.ofNat_add, Nat.mul_comm]
theorem spell_len {s m : Nat} (o w : Nat) (hw : sLn o = w) (hw2 : w ≤ 10) (hm : s + m ≤ 2000) (e2 : hI h 1 2 = nI s) (e6 : hI h 1 6 = nI (s + m)) (hne : m ≠ w) : f_Tape_spells o h = some 0 := by
  unfold f_Tape_spells
  rw [e2, e6, pk_sub (by omega), show s + m - s = m by omega, hw, if_neg (fun e => hne ((nI_eqI (by omega) (by omega)).mp e))]
theorem spell_ok (V : VCt h len B) (hl : len ≤ 2000) (hB : ∀ i, i < len → B i < 256) {s m : Nat} (o : Nat) (hw : sLn o = m) (hw2 : m ≤ 10) (hm : s + m ≤ len) (e2 : hI h 1 2 = nI s) (e6 : hI h 1 6 = nI (s + m)) (c : Nat → Nat) (hc : ∀ i, i < m → sCh o i = nI (c i) ∧ c i < 256) : f_Tape_spells o h = some (if ex (fun i => decide (B (s + i) ≠ c i)) m then 0 else 1) := by
  unfold f_Tape_spells
  rw [e2, e6, pk_sub (by omega), show s + m - s = m by omega, hw, if_pos rfl]
  refine lp_any (f := fun t => f_Tape_spells_L1 o h t) (fun k => nI k) (fun i => decide (B (s + i) ≠ c i)) m (fun i hi => ?_) ?_ (by unfold lpN; omega)
  · show f_Tape_spells_L1 o h (nI i) = _
    unfold f_Tape_spells_L1
    obtain ⟨c1, c2⟩ := hc i hi
    have b := hB (s + i) (by omega)
    rw [hw, if_neg (lt_no hi (by omega)), e2, nI_add, byteAt_ok V hl (by omega)]
    simp only [Option.bind_some]
    rw [if_neg (gd (by omega) (by omega)), cla (by omega), c1, nI_1]
    simp only [nI_eqI (show B (s + i) ≤ 100000 by omega) (show c i ≤ 100000 by omega)]
    by_cases z : B (s + i) = c i
    · rw [if_pos z, if_neg (by simp [z])]
    · rw [if_neg z, if_pos (by simp [z])]
  · show f_Tape_spells_L1 o h (nI m) = _
    unfold f_Tape_spells_L1
    rw [hw, if_pos (ge_yes (Nat.le_refl _) (by omega))]
end TK
