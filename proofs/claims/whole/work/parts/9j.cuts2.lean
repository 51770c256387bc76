/-! the reference cuts a text: numbers, signs, all of it -/
theorem run_bl {P : Nat → Bool} {B : Nat → Nat} {len i : Nat} (h : i < len) : run P B len i = if P (B i) = true then run P B len (i + 1) + 1 else 0 := by
  unfold run
  rw [show len - i = (len - (i + 1)) + 1 by omega]
  show (if i < len ∧ P (B i) = true then _ else _) = _
  by_cases c : P (B i) = true
  · rw [if_pos ⟨h, c⟩, if_pos c]
  · rw [if_neg (fun z => c z.2), if_neg c]
theorem tst_bl {B : Nat → Nat} {len i : Nat} (h : i < len) (c : isBl (B i) = true) : tst B len (i + 1) = tst B len i := by
  unfold tst
  rw [run_bl (P := isBl) h, if_pos c]
  omega
theorem tst_no {B : Nat → Nat} {len i : Nat} (h : i < len) (c : ¬ isBl (B i) = true) : tst B len i = i := by
  unfold tst
  rw [run_bl (P := isBl) h, if_neg c]
  rfl
theorem tst_len {B : Nat → Nat} {len : Nat} : tst B len len = len := by
  have := tst_in (B := B) (Nat.le_refl len)
  omega
theorem bl_no : ∀ b, b < 256 → isBl b = false → ¬ nI b = 9 ∧ ¬ nI b = 10 ∧ ¬ nI b = 13 ∧ ¬ nI b = 32 := by decide +kernel
theorem bl_yes : ∀ b, b < 256 → isBl b = true → nI b = 9 ∨ nI b = 10 ∨ nI b = 13 ∨ nI b = 32 := by decide +kernel
section CU
variable {h : pH} {len : Nat} {B : Nat → Nat}
theorem digits_ok (R : RB h len B) (hl : len ≤ 2000) (hB : ∀ i, i < len → B i < 256) {c s : Nat} (hc : hI h 79 10 = nI c) (hc2 : c < 403) (hs : s < len) (nLt : ¬ isLt (B s) = true) (hDg : isDg (B s) = true) : ∃ h', lp (fun s' => f_R_cutsText_L6 (nI s) h s'.1 s'.2) lpN (0, 0) = some (.inl (nI (tnx B len s), h')) ∧ TA c h h' ∧ TL B len s c h' := by
  have re := run_end (P := isDg) (B := B) (Nat.le_of_lt hs)
  have ri := fun k (hk : k < run isDg B len s) => run_in (P := isDg) (B := B) hk
  have etn : tnx B len s = s + run isDg B len s := by unfold tnx; rw [if_neg nLt, if_pos hDg]
  have ekd : kd B len s = if 4 < run isDg B len s then 3 else 2 := by unfold kd; rw [if_neg nLt, if_pos hDg]
  rw [etn]
  generalize hm : run isDg B len s = m at *
  have F : ∀ v : Nat, (m ≤ 4 → v = dv B s m) → ∃ h', f_R_cutsText_J7 (nI s) (nI m) (nI v) (if m ≤ 4 then 2 else 3) h = some (.inl (nI (s + m), h')) ∧ TA c h h' ∧ TL B len s c h' := by
    intro v hv
    unfold f_R_cutsText_J7
    obtain ⟨h', a1, a2⟩ := lay_ok (B := B) (len := len) (s := s) (kk := kd B len s) (vv := v) (w := 0) hc hc2 rfl (fun q => by rw [hm]; exact hv (by rw [ekd] at q; split at q <;> omega)) (fun q => by rw [ekd] at q; split at q <;> omega)
    have e : nI (kd B len s) = if m ≤ 4 then 2 else 3 := by
      rw [ekd]
      by_cases q : m ≤ 4
      · rw [if_neg (by omega), if_pos q]; rfl
      · rw [if_pos (by omega), if_neg q]; rfl
    rw [e] at a1
    rw [a1, jaddr]
    exact ⟨h', rfl, a2⟩
  obtain ⟨r, e1, h', e2, e3⟩ := lp_inv (f := fun s' => f_R_cutsText_L6 (nI s) h s'.1 s'.2) (fun k s' => s'.1 = nI k ∧ s'.2 = nI (dv B s (if 4 ≤ k then 4 else k))) (fun r => ∃ h', r = .inl (nI (s + m), h') ∧ TA c h h' ∧ TL B len s c h') m (by
    rintro k ⟨x3, x4⟩ hk ⟨d1, d2⟩
    have d1 : x3 = nI k := d1
    have d2 : x4 = nI (dv B s (if 4 ≤ k then 4 else k)) := d2
    subst d1 d2
    obtain ⟨r1, r2⟩ := ri k hk
    have b := hB _ r1
    have dg : 48 ≤ B (s + k) ∧ B (s + k) ≤ 57 := by simpa [isDg] using r2
    show ∃ s', f_R_cutsText_L6 (nI s) h (nI k) _ = some (.inl s') ∧ _
    unfold f_R_cutsText_L6
    rw [jaddr, rbyte R hl hB _ (by omega), if_pos r1]
    simp only [Option.bind_some]
    rw [rDg_ok _ b, r2, if_pos rfl, if_neg (by decide), show (4 : Int32) = nI 4 from rfl, nI_1]
    by_cases q : 4 ≤ k
    · rw [if_pos (ge_yes q (by omega))]
      refine ⟨_, rfl, rfl, ?_⟩
      show nI (dv B s (if 4 ≤ k then 4 else k)) = nI (dv B s (if 4 ≤ k + 1 then 4 else k + 1))
      rw [if_pos q, if_pos (by omega)]
    · rw [if_neg (lt_no (by omega) (by omega)), if_neg q]
      refine ⟨_, rfl, rfl, ?_⟩
      show (10 : Int32) * nI (dv B s k) + nI (B (s + k)) - 48 = nI (dv B s (if 4 ≤ k + 1 then 4 else k + 1))
      have : (if 4 ≤ k + 1 then 4 else k + 1) = k + 1 := by split <;> omega
      rw [this, show (10 : Int32) = nI 10 from rfl, show (48 : Int32) = nI 48 from rfl, pk_mul, nI_add, pk_sub (by omega)]
      congr 1
      show _ = 10 * dv B s k + (B (s + k) - 48)
      omega) (by
    rintro ⟨x3, x4⟩ ⟨d1, d2⟩
    have d1 : x3 = nI m := d1
    have d2 : x4 = nI (dv B s (if 4 ≤ m then 4 else m)) := d2
    subst d1 d2
    obtain ⟨h', j1, j2⟩ := F (dv B s (if 4 ≤ m then 4 else m)) (fun q => by
      have : (if 4 ≤ m then 4 else m) = m := by split <;> omega
      rw [this])
    show ∃ s', f_R_cutsText_L6 (nI s) h (nI m) _ = some (.inr s') ∧ _
    unfold f_R_cutsText_L6
    rw [jaddr, rbyte R hl hB _ (by omega)]
    simp only [Option.bind_some]
    have lb : f_R_isDigit (nI (if s + m < len then B (s + m) else 0)) = 0 := by
      by_cases q : s + m < len
      · rw [if_pos q, rDg_ok _ (hB _ q), nt (fun z => re.2 ⟨q, z⟩)]; rfl
      · rw [if_neg q]; decide
    rw [lb, if_pos rfl, show (4 : Int32) = nI 4 from rfl]
    by_cases q : m ≤ 4
    · rw [if_pos (ge_yes q (by omega))]
      rw [if_pos q] at j1
      rw [j1]
      exact ⟨_, rfl, h', rfl, j2⟩
    · rw [if_neg (lt_no (by omega) (by omega))]
      rw [if_neg q] at j1
      rw [j1]
      exact ⟨_, rfl, h', rfl, j2⟩) (n := lpN) (s := (0, 0)) ⟨rfl, rfl⟩ (by unfold lpN; omega)
  rw [e1, e2]
  exact ⟨h', rfl, e3⟩
theorem sign_ok (hB : ∀ i, i < len → B i < 256) {c s : Nat} (hc : hI h 79 10 = nI c) (hc2 : c < 403) (hs : s < len) (nLt : ¬ isLt (B s) = true) (nDg : ¬ isDg (B s) = true) : ∃ h', f_R_sign (nI s) (nI (B s)) h = some (1, h') ∧ TA c h h' ∧ TL B len s c h' := by
  have b := hB s hs
  have ekd : kd B len s = if B s = 59 then 4 else if B s = 45 then 5 else 3 := by unfold kd; rw [if_neg nLt, if_neg nDg]
  have ne : kd B len s ≠ 2 ∧ kd B len s ≠ 1 := by
    rw [ekd]
    split
    · omega
    · split <;> omega
  obtain ⟨h', a1, a2⟩ := lay_ok (B := B) (len := len) (s := s) (kk := kd B len s) (vv := 0) (w := 0) hc hc2 rfl (fun q => absurd q ne.1) (fun q => absurd q ne.2)
  unfold f_R_sign
  rw [show (59 : Int32) = nI 59 from rfl, show (45 : Int32) = nI 45 from rfl]
  simp only [nI_eqI (show B s ≤ 100000 by omega) (show 45 ≤ 100000 by omega), nI_eqI (show B s ≤ 100000 by omega) (show 59 ≤ 100000 by omega)]
  rw [ekd] at a1
  by_cases q1 : B s = 59
  · rw [if_pos q1]
    rw [if_pos q1] at a1
    have a1 : f_R_token 4 (nI s) 0 0 h = some h' := a1
    rw [a1]
    exact ⟨h', rfl, a2⟩
  · rw [if_neg q1]
    rw [if_neg q1] at a1
    by_cases q2 : B s = 45
    · rw [if_pos q2]
      rw [if_pos q2] at a1
      have a1 : f_R_token 5 (nI s) 0 0 h = some h' := a1
      rw [a1]
      exact ⟨h', rfl, a2⟩
    · rw [if_neg q2]
      rw [if_neg q2] at a1
      have a1 : f_R_token 3 (nI s) 0 0 h = some h' := a1
      rw [a1]
      exact ⟨h', rfl, a2⟩
/-- the tokens as they lie -/
def TLk (B : Nat → Nat) (len j : Nat) (h : pH) : Prop := hI h 82 j = nI (tkK B len j) ∧ hI h 83 j = nI (tsk B len j) ∧ (tkK B len j = 2 → hI h 84 j = nI (tkV B len j)) ∧ (tkK B len j = 1 → hL h 85 j = tkW B len j)
theorem TLk.keep {c j : Nat} {h h' : pH} (A : TA c h h') (hj : j ≠ c) (T : TLk B len j h) : TLk B len j h' := by
  obtain ⟨a, b, d, e⟩ := A.2.2 j hj
  unfold TLk
  rw [a, b, d, e]
  exact T
theorem TLk.of {j : Nat} {h : pH} (c : tsk B len j < len) (T : TL B len (tsk B len j) j h) : TLk B len j h := by
  have e : tkK B len j = kd B len (tsk B len j) := by unfold tkK; rw [if_pos c]
  unfold TLk tkV tkW
  rw [e]
  exact T
def TKS (B : Nat → Nat) (len cnt : Nat) (h : pH) : Prop := (1 ≤ cnt ∧ cnt ≤ 401) ∧ hI h 79 10 = nI cnt ∧ (∀ j, j < cnt → TLk B len j h) ∧ (∀ j, j + 1 < cnt → tkK B len j ≠ 0) ∧ (cnt = 401 ∨ tkK B len (cnt - 1) = 0)
theorem cuts_ok (R : RB h len B) (hl : len ≤ 2000) (hB : ∀ i, i < len → B i < 256) : ∃ h', f_R_cutsText h = some h' ∧ FX h h' ∧ ∃ cnt, TKS B len cnt h' := by
  unfold f_R_cutsText
  refine lp_wf (f := fun s => f_R_cutsText_L1 s.1 s.2) (fun m s => ∃ i k, s.1 = nI i ∧ i ≤ len ∧ m = len - i ∧ tst B len i = tsk B len k ∧ k ≤ 401 ∧ FX h s.2 ∧ hI s.2 79 10 = nI k ∧ ∀ j, j < k → tkK B len j ≠ 0 ∧ TLk B len j s.2) (fun h' => FX h h' ∧ ∃ cnt, TKS B len cnt h') ?_ lpN len _ (by unfold lpN; omega) ⟨0, 0, rfl, by omega, by omega, rfl, by omega, ⟨fun o j x y z w => by rw [hI_n w], fun _ _ _ => rfl⟩, hI_s, fun j hj => absurd hj (by omega)⟩
  rintro m ⟨x, h'⟩ ⟨i, k, d1, hi, rfl, hk, hk2, F, hc, ht⟩
  have d1 : x = nI i := d1
  subst d1
  have F : FX h h' := F
  have hc : hI h' 79 10 = nI k := hc
  have ht : ∀ j, j < k → tkK B len j ≠ 0 ∧ TLk B len j h' := ht
  have R' := R.fx F
  show (∃ s' m', f_R_cutsText_L1 (nI i) h' = some (.inl s') ∧ _) ∨ ∃ r, f_R_cutsText_L1 (nI i) h' = some (.inr r) ∧ _
  unfold f_R_cutsText_L1
  rw [hc, show (400 : Int32) = nI 400 from rfl, R'.1]
  simp only [nI_ltI (a := 400) (b := k) (by omega) (by omega), nI_ltI (a := i) (b := len) (by omega) (by omega)]
  by_cases c1 : 400 < k
  · right
    rw [if_pos c1]
    exact ⟨_, rfl, F, k, ⟨by omega, by omega⟩, hc, fun j hj => (ht j hj).2, fun j hj => (ht j (by omega)).1, Or.inl (by omega)⟩
  · rw [if_neg c1, rbyte R' hl hB i (by omega)]
    simp only [Option.bind_some]
    by_cases c2 : i < len
    · left
      have b := hB i c2
      rw [if_pos c2, if_pos c2]
      by_cases bl : isBl (B i) = true
      · have st : ∃ s' m', some (Sum.inl (nI i + 1, h') : (Int32 × pH) ⊕ pH) = some (.inl s') ∧ m' < len - i ∧ ∃ i' k', s'.1 = nI i' ∧ i' ≤ len ∧ m' = len - i' ∧ tst B len i' = tsk B len k' ∧ k' ≤ 401 ∧ FX h s'.2 ∧ hI s'.2 79 10 = nI k' ∧ ∀ j, j < k' → tkK B len j ≠ 0 ∧ TLk B len j s'.2 := ⟨_, len - (i + 1), rfl, by omega, i + 1, k, by show nI i + 1 = _; rw [nI_1], by omega, rfl, by rw [tst_bl c2 bl]; exact hk, hk2, F, hc, ht⟩
        rcases bl_yes _ b bl with e | e | e | e
        · rw [if_pos e]; exact st
        · rw [if_neg (by rw [e]; decide), if_pos e]; exact st
        · rw [if_neg (by rw [e]; decide), if_neg (by rw [e]; decide), if_pos e]; exact st
        · rw [if_neg (by rw [e]; decide), if_neg (by rw [e]; decide), if_neg (by rw [e]; decide), if_pos e]; exact st
      · obtain ⟨n1, n2, n3, n4⟩ := bl_no _ b (nt bl)
        rw [if_neg n1, if_neg n2, if_neg n3, if_neg n4, rLt_ok _ b, rDg_ok _ b]
        have ei : i = tsk B len k := (tst_no c2 bl).symm.trans hk
        have tl : tsk B len k < len := by omega
        have nx := tnx_in (B := B) c2
        have fin : ∀ h'', TA k h' h'' → TL B len i k h'' → ∃ m', m' < len - i ∧ ∃ i' k', nI (tnx B len i) = nI i' ∧ i' ≤ len ∧ m' = len - i' ∧ tst B len i' = tsk B len k' ∧ k' ≤ 401 ∧ FX h h'' ∧ hI h'' 79 10 = nI k' ∧ ∀ j, j < k' → tkK B len j ≠ 0 ∧ TLk B len j h'' := by
          intro h'' A T
          refine ⟨len - tnx B len i, by omega, tnx B len i, k + 1, rfl, nx.2, rfl, ?_, by omega, F.trans A.1, A.2.1, fun j hj => ?_⟩
          · show tst B len (tnx B len i) = tst B len (tps B len (k + 1))
            rw [tps_s tl, ← ei]
          · by_cases ej : j = k
            · rw [ej]
              exact ⟨tkK_0.mpr tl, TLk.of tl (by rw [← ei]; exact T)⟩
            · have := ht j (by omega)
              exact ⟨this.1, this.2.keep A ej⟩
        cases l1 : isLt (B i) with
        | true =>
          rw [if_neg (show ¬ (if true = true then (1 : Int32) else 0) = 0 by decide)]
          obtain ⟨h'', a1, a2, a3⟩ := letters_ok R' hl hB hc (by omega) c2 l1
          obtain ⟨m', f1, f2⟩ := fin h'' a2 a3
          rw [a1]
          exact ⟨_, m', rfl, f1, f2⟩
        | false =>
          rw [if_pos (show (if false = true then (1 : Int32) else 0) = 0 by decide)]
          cases l2 : isDg (B i) with
          | true =>
            rw [if_neg (show ¬ (if true = true then (1 : Int32) else 0) = 0 by decide)]
            obtain ⟨h'', a1, a2, a3⟩ := digits_ok R' hl hB hc (by omega) c2 (by rw [l1]; decide) l2
            obtain ⟨m', f1, f2⟩ := fin h'' a2 a3
            rw [a1]
            exact ⟨_, m', rfl, f1, f2⟩
          | false =>
            rw [if_pos (show (if false = true then (1 : Int32) else 0) = 0 by decide)]
            obtain ⟨h'', a1, a2, a3⟩ := sign_ok hB hc (by omega) c2 (by rw [l1]; decide) (by rw [l2]; decide)
            obtain ⟨m', f1, f2⟩ := fin h'' a2 a3
            have etn : tnx B len i = i + 1 := by unfold tnx; rw [l1, l2]; rfl
            rw [a1]
            simp only [Option.bind_some]
            rw [nI_1, ← etn]
            exact ⟨_, m', rfl, f1, f2⟩
    · right
      rw [if_neg c2]
      have el : i = len := by omega
      have tl : tsk B len k = len := by rw [← hk, el, tst_len]
      obtain ⟨h'', a1, a2, a3, ⟨b1, b2, -, -⟩, a5⟩ := token_ok hc (by omega) 0 (nI len) 0 0
      rw [a1]
      have k0 : tkK B len k = 0 := by unfold tkK; rw [if_neg (by omega)]
      refine ⟨_, rfl, F.trans a2, k + 1, ⟨by omega, by omega⟩, a3, fun j hj => ?_, fun j hj => (ht j (by omega)).1, Or.inr k0⟩
      by_cases ej : j = k
      · rw [ej]
        exact ⟨by rw [b1, k0]; rfl, by rw [b2, tl], fun z => by omega, fun z => by omega⟩
      · exact (ht j (by omega)).2.keep ⟨a2, a3, a5⟩ ej
end CU
