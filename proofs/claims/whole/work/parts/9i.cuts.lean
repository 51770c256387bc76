/-! the reference cuts a text -/
theorem lp_wf {σ ρ : Type} {f : σ → Option (σ ⊕ ρ)} (I : Nat → σ → Prop) (Q : ρ → Prop) (hs : ∀ m s, I m s → (∃ s' m', f s = some (.inl s') ∧ m' < m ∧ I m' s') ∨ ∃ r, f s = some (.inr r) ∧ Q r) : ∀ n m s, m < n → I m s → ∃ r, lp f n s = some r ∧ Q r := by
  intro n
  induction n with
  | zero => intro m s hm; omega
  | succ n ih =>
    intro m s hm hI
    rcases hs m s hI with ⟨s', m', e, l, i⟩ | ⟨r, e, q⟩
    · obtain ⟨r, e2, q⟩ := ih m' s' (by omega) i
      exact ⟨r, by unfold lp; rw [e]; exact e2, q⟩
    · exact ⟨r, by unfold lp; rw [e], q⟩
def RB (h : pH) (len : Nat) (B : Nat → Nat) : Prop := hI h 79 4 = nI len ∧ (∀ i, i < len → hI h 81 i = (nI (B i)).toInt8.toInt32) ∧ hL h 86 0 = jletters 112 111 105 110 116 0 0 ∧ hL h 86 1 = jletters 103 114 105 100 0 0 0
def FX (h h' : pH) : Prop := (∀ o j, o ≠ 82 → o ≠ 83 → o ≠ 84 → ¬ (o = 79 ∧ j = 10) → hI h' o j = hI h o j) ∧ ∀ o j, o ≠ 85 → hL h' o j = hL h o j
theorem FX.rfl' {h : pH} : FX h h := ⟨fun _ _ _ _ _ _ => rfl, fun _ _ _ => rfl⟩
theorem FX.trans {a b c : pH} (A : FX a b) (B : FX b c) : FX a c := ⟨fun o j x y z w => (B.1 o j x y z w).trans (A.1 o j x y z w), fun o j x => (B.2 o j x).trans (A.2 o j x)⟩
theorem RB.fx {h h' : pH} {len : Nat} {B : Nat → Nat} (R : RB h len B) (F : FX h h') : RB h' len B := ⟨by rw [F.1 79 4 (by decide) (by decide) (by decide) (by decide)]; exact R.1, fun i hi => by rw [F.1 81 i (by decide) (by decide) (by decide) (by omega)]; exact R.2.1 i hi, by rw [F.2 86 0 (by decide)]; exact R.2.2.1, by rw [F.2 86 1 (by decide)]; exact R.2.2.2⟩
theorem and255 : ∀ b, b < 256 → (nI b).toInt8.toInt32 &&& 255 = nI b := by decide +kernel
theorem rLt_ok : ∀ b, b < 256 → f_R_isLetter (nI b) = if isLt b then 1 else 0 := by decide +kernel
theorem rDg_ok : ∀ b, b < 256 → f_R_isDigit (nI b) = if isDg b then 1 else 0 := by decide +kernel
theorem jl_p : jletters 112 111 105 110 116 0 0 = Int64.ofNat pCode := by decide +kernel
theorem jl_g : jletters 103 114 105 100 0 0 0 = Int64.ofNat gCode := by decide +kernel
theorem nm_lt {B : Nat → Nat} {s : Nat} : ∀ k, (∀ j, j < k → isLt (B (s + j)) = true) → nm B s k < 27 ^ k := by
  intro k
  induction k with
  | zero => intro _; exact Nat.zero_lt_one
  | succ k ih =>
    intro h
    have a := ih (fun j hj => h j (by omega))
    have b : 97 ≤ B (s + k) ∧ B (s + k) ≤ 122 := by simpa [isLt] using h k (by omega)
    show 27 * nm B s k + (B (s + k) - 96) < 27 ^ (k + 1)
    rw [Nat.pow_succ]
    omega
theorem i64_inj {a b : Nat} (ha : a < 2 ^ 63) (hb : b < 2 ^ 63) : Int64.ofNat a = Int64.ofNat b ↔ a = b := by
  constructor
  · intro h
    have := congrArg Int64.toInt h
    rw [Int64.toInt_ofNat_of_lt ha, Int64.toInt_ofNat_of_lt hb] at this
    omega
  · intro h; rw [h]
section CT
variable {h : pH} {len : Nat} {B : Nat → Nat}
theorem rbyte (R : RB h len B) (hl : len ≤ 2000) (hB : ∀ i, i < len → B i < 256) (i : Nat) (hi : i ≤ 2000) : f_R_byteAt (nI i) h = some (nI (if i < len then B i else 0)) := by
  unfold f_R_byteAt
  rw [R.1]
  by_cases c : i < len
  · rw [if_neg (lt_no c (by omega)), if_neg (gd (by omega) (by omega)), cla (by omega), R.2.1 i c, and255 _ (hB i c), if_pos c]
  · rw [if_pos (ge_yes (by omega) (by omega)), if_neg c]
    rfl
theorem token_ok {c : Nat} (hc : hI h 79 10 = nI c) (hc2 : c < 403) (k p v : Int32) (w : Int64) : ∃ h', f_R_token k p v w h = some h' ∧ FX h h' ∧ hI h' 79 10 = nI (c + 1) ∧ (hI h' 82 c = k ∧ hI h' 83 c = p ∧ hI h' 84 c = v ∧ hL h' 85 c = w) ∧ (∀ j, j ≠ c → hI h' 82 j = hI h 82 j ∧ hI h' 83 j = hI h 83 j ∧ hI h' 84 j = hI h 84 j ∧ hL h' 85 j = hL h 85 j) := by
  unfold f_R_token
  rw [hc, if_neg (gd hc2 (by omega)), cla (by omega)]
  have e1 : hI (sI h 82 c k) 79 10 = nI c := by rw [hI_n (by omega)]; exact hc
  rw [e1, if_neg (gd hc2 (by omega)), cla (by omega)]
  have e2 : hI (sI (sI h 82 c k) 83 c p) 79 10 = nI c := by rw [hI_n (by omega)]; exact e1
  rw [e2, if_neg (gd hc2 (by omega)), cla (by omega)]
  have e3 : hI (sI (sI (sI h 82 c k) 83 c p) 84 c v) 79 10 = nI c := by rw [hI_n (by omega)]; exact e2
  rw [e3, if_neg (gd hc2 (by omega)), cla (by omega), hI_sL, e3, nI_1]
  refine ⟨_, rfl, ⟨fun o j x y z w => ?_, fun o j x => ?_⟩, hI_s, ⟨?_, ?_, ?_, ?_⟩, fun j hj => ⟨?_, ?_, ?_, ?_⟩⟩
  · rw [hI_n (by omega), hI_sL, hI_n (by omega), hI_n (by omega), hI_n (by omega)]
  · rw [hL_sI, hL_sL, if_neg (by omega)]; rfl
  · rw [hI_n (by omega), hI_sL, hI_n (by omega), hI_n (by omega), hI_s]
  · rw [hI_n (by omega), hI_sL, hI_n (by omega), hI_s]
  · rw [hI_n (by omega), hI_sL, hI_s]
  · rw [hL_sI, hL_sL, if_pos ⟨rfl, rfl⟩]
  · rw [hI_n (by omega), hI_sL, hI_n (by omega), hI_n (by omega), hI_n (by omega)]
  · rw [hI_n (by omega), hI_sL, hI_n (by omega), hI_n (by omega), hI_n (by omega)]
  · rw [hI_n (by omega), hI_sL, hI_n (by omega), hI_n (by omega), hI_n (by omega)]
  · rw [hL_sI, hL_sL, if_neg (by omega)]; rfl
/-- the token at s laid as the c-th -/
def TL (B : Nat → Nat) (len s c : Nat) (h : pH) : Prop := hI h 82 c = nI (kd B len s) ∧ hI h 83 c = nI s ∧ (kd B len s = 2 → hI h 84 c = nI (dv B s (run isDg B len s))) ∧ (kd B len s = 1 → hL h 85 c = Int64.ofNat (nm B s (run isLt B len s)))
/-- all else stays, the count is one more -/
def TA (c : Nat) (h h' : pH) : Prop := FX h h' ∧ hI h' 79 10 = nI (c + 1) ∧ ∀ j, j ≠ c → hI h' 82 j = hI h 82 j ∧ hI h' 83 j = hI h 83 j ∧ hI h' 84 j = hI h 84 j ∧ hL h' 85 j = hL h 85 j
theorem min8 (k : Nat) : min k 8 = if 8 ≤ k then 8 else k := by split <;> omega
theorem lay_ok {c s kk vv : Nat} {w : Int64} (hc : hI h 79 10 = nI c) (hc2 : c < 403) (ek : kk = kd B len s) (h2 : kk = 2 → vv = dv B s (run isDg B len s)) (h1 : kk = 1 → w = Int64.ofNat (nm B s (run isLt B len s))) : ∃ h', f_R_token (nI kk) (nI s) (nI vv) w h = some h' ∧ TA c h h' ∧ TL B len s c h' := by
  obtain ⟨h', a1, a2, a3, ⟨b1, b2, b3, b4⟩, a5⟩ := token_ok hc hc2 (nI kk) (nI s) (nI vv) w
  exact ⟨h', a1, ⟨a2, a3, a5⟩, by rw [b1, ek], b2, fun q => by rw [b3, h2 (ek.trans q)], fun q => by rw [b4, h1 (ek.trans q)]⟩
theorem jaddr {m : Nat} (s : Nat) : nI s + nI m = nI (s + m) := nI_add _ _
theorem lettersJ3 (R : RB h len B) {c s m : Nat} (hc : hI h 79 10 = nI c) (hc2 : c < 403) (em : m = run isLt B len s) (hm : m ≤ 2000) (hLt : isLt (B s) = true) (ri : ∀ k, k < m → isLt (B (s + k)) = true) (x4 : Int64) (hx : m ≤ 8 → x4 = Int64.ofNat (nm B s m)) : ∃ h', f_R_cutsText_J3 (nI s) (nI m) x4 (if m ≤ 8 then 1 else 3) h = some (.inl (nI (s + m), h')) ∧ TA c h h' ∧ TL B len s c h' := by
  have ekd : kd B len s = kd B len s := rfl
  conv at ekd => rhs; unfold kd
  simp only [hLt, if_true] at ekd
  rw [← em] at ekd
  unfold f_R_cutsText_J3
  rw [show (8 : Int32) = nI 8 from rfl]
  simp only [nI_ltI (a := 8) (b := m) (by omega) (by omega)]
  by_cases c8 : 8 < m
  · rw [if_pos c8, if_neg (by omega)]
    rw [if_pos c8] at ekd
    unfold f_R_cutsText_J5
    obtain ⟨h', a1, a2⟩ := lay_ok (B := B) (len := len) (s := s) (kk := 3) (vv := 0) (w := x4) hc hc2 ekd.symm (fun q => absurd q (by decide)) (fun q => absurd q (by decide))
    have a1 : f_R_token 3 (nI s) 0 x4 h = some h' := a1
    rw [a1, jaddr]
    exact ⟨h', rfl, a2⟩
  · rw [if_neg c8, if_pos (by omega)]
    rw [if_neg c8] at ekd
    have hx := hx (by omega)
    have hlt : nm B s m < 2 ^ 63 := by
      have a := nm_lt (B := B) (s := s) m ri
      have b : 27 ^ m ≤ 27 ^ 8 := Nat.pow_le_pow_right (by decide) (by omega)
      have : 27 ^ 8 < 2 ^ 63 := by decide
      omega
    obtain ⟨h', a1, a2⟩ := lay_ok (B := B) (len := len) (s := s) (kk := kd B len s) (vv := 0) (w := x4) hc hc2 rfl (fun q => by
      exfalso
      rw [ekd] at q
      split at q
      · omega
      · split at q <;> omega) (fun _ => by rw [hx, em])
    have a1 : f_R_token (nI (kd B len s)) (nI s) 0 x4 h = some h' := a1
    obtain ⟨r, e1, e2⟩ := lp_inv (f := fun s' => f_R_cutsText_L4 (nI s) (nI m) x4 h s'.1 s'.2) (fun k s' => s'.2 = nI k ∧ s'.1 = nI (if k = 0 then 1 else if k = 1 then (if nm B s m = pCode then 20 else 1) else kd B len s)) (fun r => r = .inl (nI (s + m), h')) 2 (by
      rintro k ⟨x6, x7⟩ hk ⟨d1, d2⟩
      have d1 : x7 = nI k := d1
      have d2 : x6 = nI (if k = 0 then 1 else if k = 1 then (if nm B s m = pCode then 20 else 1) else kd B len s) := d2
      subst d1 d2
      show ∃ s', f_R_cutsText_L4 (nI s) (nI m) x4 h (nI (if k = 0 then 1 else if k = 1 then (if nm B s m = pCode then 20 else 1) else kd B len s)) (nI k) = some (.inl s') ∧ _
      unfold f_R_cutsText_L4
      rw [if_neg (show ¬ (2 : Int32) ≤ nI k from lt_no (n := 2) hk (by omega)), if_neg (gd (by omega) (by omega)), cla (by omega), nI_1, hx]
      simp only [lg_cmp_eq]
      have : k = 0 ∨ k = 1 := by omega
      rcases this with rfl | rfl
      · rw [R.2.2.1, jl_p]
        simp only [i64_inj (show pCode < 2 ^ 63 by decide) hlt]
        by_cases q : pCode = nm B s m
        · rw [if_pos q]
          refine ⟨_, rfl, rfl, ?_⟩
          show (20 : Int32) + nI 0 = nI (if nm B s m = pCode then 20 else 1)
          rw [if_pos q.symm]; rfl
        · rw [if_neg q]
          refine ⟨_, rfl, rfl, ?_⟩
          show nI 1 = nI (if nm B s m = pCode then 20 else 1)
          rw [if_neg (fun z => q z.symm)]
      · rw [R.2.2.2, jl_g]
        simp only [i64_inj (show gCode < 2 ^ 63 by decide) hlt]
        by_cases q : gCode = nm B s m
        · rw [if_pos q]
          refine ⟨_, rfl, rfl, ?_⟩
          show (20 : Int32) + nI 1 = nI (kd B len s)
          rw [ekd, if_neg (show ¬ nm B s m = pCode from by rw [← q]; decide), if_pos q.symm]; rfl
        · rw [if_neg q]
          refine ⟨_, rfl, rfl, ?_⟩
          show nI (if nm B s m = pCode then 20 else 1) = nI (kd B len s)
          rw [ekd, if_neg (show ¬ nm B s m = gCode from fun z => q z.symm)]) (by
      rintro ⟨x6, x7⟩ ⟨d1, d2⟩
      have d1 : x7 = nI 2 := d1
      have d2 : x6 = nI (kd B len s) := d2
      subst d1 d2
      show ∃ s', f_R_cutsText_L4 (nI s) (nI m) x4 h (nI (kd B len s)) (nI 2) = some (.inr s') ∧ _
      unfold f_R_cutsText_L4 f_R_cutsText_J5
      rw [if_pos (show (2 : Int32) ≤ nI 2 by decide), a1, jaddr]
      exact ⟨_, rfl, rfl⟩) (n := lpN) (s := (1, 0)) ⟨rfl, rfl⟩ (by unfold lpN; omega)
    rw [e1, e2]
    exact ⟨h', rfl, a2⟩
theorem letters_ok (R : RB h len B) (hl : len ≤ 2000) (hB : ∀ i, i < len → B i < 256) {c s : Nat} (hc : hI h 79 10 = nI c) (hc2 : c < 403) (hs : s < len) (hLt : isLt (B s) = true) : ∃ h', lp (fun s' => f_R_cutsText_L2 (nI s) h s'.1 s'.2) lpN (0, 0) = some (.inl (nI (tnx B len s), h')) ∧ TA c h h' ∧ TL B len s c h' := by
  have re := run_end (P := isLt) (B := B) (Nat.le_of_lt hs)
  have ri := fun k (hk : k < run isLt B len s) => run_in (P := isLt) (B := B) hk
  have etn : tnx B len s = s + run isLt B len s := by unfold tnx; rw [if_pos hLt]
  rw [etn]
  have J3 := fun x4 hx => lettersJ3 R hc hc2 (m := run isLt B len s) rfl (by omega) hLt (fun k hk => (ri k hk).2) x4 hx
  generalize hm : run isLt B len s = m at *
  obtain ⟨r, e1, h', e2, e3⟩ := lp_inv (f := fun s' => f_R_cutsText_L2 (nI s) h s'.1 s'.2) (fun k s' => s'.1 = nI k ∧ s'.2 = Int64.ofNat (nm B s (if 8 ≤ k then 8 else k))) (fun r => ∃ h', r = .inl (nI (s + m), h') ∧ TA c h h' ∧ TL B len s c h') m (by
    rintro k ⟨x3, x4⟩ hk ⟨d1, d2⟩
    have d1 : x3 = nI k := d1
    have d2 : x4 = Int64.ofNat (nm B s (if 8 ≤ k then 8 else k)) := d2
    subst d1 d2
    obtain ⟨r1, r2⟩ := ri k hk
    have b := hB _ r1
    have dg : 97 ≤ B (s + k) ∧ B (s + k) ≤ 122 := by simpa [isLt] using r2
    show ∃ s', f_R_cutsText_L2 (nI s) h (nI k) _ = some (.inl s') ∧ _
    unfold f_R_cutsText_L2
    rw [jaddr, rbyte R hl hB _ (by omega), if_pos r1]
    simp only [Option.bind_some]
    rw [rLt_ok _ b, r2, if_pos rfl, if_neg (by decide), show (8 : Int32) = nI 8 from rfl, nI_1]
    by_cases q : 8 ≤ k
    · rw [if_pos (ge_yes q (by omega))]
      refine ⟨_, rfl, rfl, ?_⟩
      show Int64.ofNat (nm B s (if 8 ≤ k then 8 else k)) = Int64.ofNat (nm B s (if 8 ≤ k + 1 then 8 else k + 1))
      rw [if_pos q, if_pos (by omega)]
    · rw [if_neg (lt_no (by omega) (by omega)), if_neg q]
      refine ⟨_, rfl, rfl, ?_⟩
      show f_R_appends (Int64.ofNat (nm B s k)) (nI (B (s + k))) = Int64.ofNat (nm B s (if 8 ≤ k + 1 then 8 else k + 1))
      have : (if 8 ≤ k + 1 then 8 else k + 1) = k + 1 := by split <;> omega
      rw [this]
      unfold f_R_appends
      rw [if_neg (show ¬ nI (B (s + k)) = 0 from fun z => absurd ((nI_eqI (b := 0) (by omega) (by omega)).mp z) (by omega)), show (97 : Int32) = nI 97 from rfl, pk_sub (by omega), nI_1, i64_d _ (by omega), Int64.mul_comm, i64_step]
      show Int64.ofNat (27 * nm B s k + (B (s + k) - 97 + 1)) = Int64.ofNat (27 * nm B s k + (B (s + k) - 96))
      rw [show B (s + k) - 97 + 1 = B (s + k) - 96 by omega]) (by
    rintro ⟨x3, x4⟩ ⟨d1, d2⟩
    have d1 : x3 = nI m := d1
    have d2 : x4 = Int64.ofNat (nm B s (if 8 ≤ m then 8 else m)) := d2
    subst d1 d2
    obtain ⟨h', j1, j2⟩ := J3 (Int64.ofNat (nm B s (if 8 ≤ m then 8 else m))) (fun q => by
      have : (if 8 ≤ m then 8 else m) = m := by split <;> omega
      rw [this])
    show ∃ s', f_R_cutsText_L2 (nI s) h (nI m) _ = some (.inr s') ∧ _
    unfold f_R_cutsText_L2
    rw [jaddr, rbyte R hl hB _ (by omega)]
    simp only [Option.bind_some]
    have lb : f_R_isLetter (nI (if s + m < len then B (s + m) else 0)) = 0 := by
      by_cases q : s + m < len
      · rw [if_pos q, rLt_ok _ (hB _ q), nt (fun z => re.2 ⟨q, z⟩)]; rfl
      · rw [if_neg q]; decide
    rw [lb, if_pos rfl, show (8 : Int32) = nI 8 from rfl]
    by_cases q : m ≤ 8
    · rw [if_pos (ge_yes q (by omega))]
      rw [if_pos q] at j1
      rw [j1]
      exact ⟨_, rfl, h', rfl, j2⟩
    · rw [if_neg (lt_no (by omega) (by omega))]
      rw [if_neg q] at j1
      rw [j1]
      exact ⟨_, rfl, h', rfl, j2⟩) (n := lpN) (s := (0, 0)) ⟨rfl, rfl⟩ (by unfold lpN; omega)
  rw [e1, e2]
  exact ⟨h', rfl, e3⟩
end CT
