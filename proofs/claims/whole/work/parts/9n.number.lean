/-! the reference's numbers and names of a point -/
section NU
variable {h : pH}
theorem num_ok {n i a x4 v p f pl kk : Nat} (hn : n < 12) (hx4 : x4 < 2) (hs : (a = i ∧ kk ≠ 5) ∨ (a = i + 1 ∧ kk = 5)) (hi : hI h 82 i = nI kk) (hkk : kk < 22) (ha : a < 403) (hv : hI h 84 a = nI v) (hv2 : v ≤ 9999) (hp : hI h 83 a = nI p) (hp2 : p ≤ 2000) (R : WR f pl h) (hpl : pl ≤ 2000) (hc : f ≠ 0 → pl < p) : ∃ h', f_R_meansPoint_L2 (nI n) (nI i) (nI x4) h = some (.inl (nI (a + 1), nI (x4 + 1), h')) ∧ FM n h h' ∧ hI h' 88 (2 + 2 * n + x4) = iI (if kk = 5 then -(v : Int) else (v : Int)) ∧ (∀ k, k ≠ 2 + 2 * n + x4 → hI h' 88 k = hI h 88 k) ∧ (∀ o k, hL h' o k = hL h o k) ∧ WR (if f ≠ 0 then f else if v ≤ 50 then 0 else 5) (if f ≠ 0 then pl else p) h' ∧ (v ≤ 50 → hI h' 90 n = hI h 90 n) := by
  have J : ∀ t0 : Int32, ∃ h', f_R_meansPoint_J4 (nI n) (nI a) (nI x4) t0 (nI (2 + 2 * n + x4)) h = some (.inl (nI (a + 1), nI (x4 + 1), h')) ∧ FM n h h' ∧ hI h' 88 (2 + 2 * n + x4) = t0 ∧ (∀ k, k ≠ 2 + 2 * n + x4 → hI h' 88 k = hI h 88 k) ∧ (∀ o k, hL h' o k = hL h o k) ∧ WR (if f ≠ 0 then f else if v ≤ 50 then 0 else 5) (if f ≠ 0 then pl else p) h' ∧ (v ≤ 50 → hI h' 90 n = hI h 90 n) := by
    intro t0
    unfold f_R_meansPoint_J4
    rw [if_neg (gd (by omega) (by omega)), if_neg (gd ha (by omega)), cla (by omega), cla (by omega), hI_n (h := h) (by omega), hv, nI_1, nI_1, show (50 : Int32) = nI 50 from rfl]
    have F1 : FM n h (sI h 88 (2 + 2 * n + x4) t0) := FM.rfl'.set (by omega)
    have R1 : WR f pl (sI h 88 (2 + 2 * n + x4) t0) := R.fr (fun j _ => by rw [hI_n (by omega)])
    by_cases c : v ≤ 50
    · rw [if_pos (ge_yes c (by omega))]
      refine ⟨_, rfl, F1, hI_s, fun k hk => by rw [hI_n (by omega)], fun _ _ => rfl, ?_, fun _ => by rw [hI_n (by omega)]⟩
      by_cases f0 : f = 0
      · subst f0
        rw [if_neg (show ¬ ((0 : Nat) ≠ 0) from fun y => y rfl), if_pos c]
        exact ⟨by omega, R1.2.1, R1.2.2.1, fun z => absurd rfl z⟩
      · rw [if_pos f0, if_pos f0]; exact R1
    · rw [if_neg (lt_no (by omega) (by omega))]
      obtain ⟨h', w1, w2, w3⟩ := wrong_ok (x := 5) (j := a) (p := p) R1 hpl ha (by rw [hI_n (by omega)]; exact hp) hp2 (Or.inr rfl) (fun z => Or.inl (hc z))
      have w1 : f_R_wrong 5 (nI a) (sI h 88 (2 + 2 * n + x4) t0) = some h' := w1
      rw [w1, Option.bind_some, if_neg (gd hn (by omega)), cla (by omega), nb0]
      refine ⟨_, rfl, (F1.trans w2.fm).set (by omega), ?_, fun k hk => ?_, fun o k => ?_, ?_, fun z => absurd z c⟩
      · rw [hI_n (by omega), w2.1 88 _ (by unfold FWp; omega), hI_s]
      · rw [hI_n (by omega), w2.1 88 _ (by unfold FWp; omega), hI_n (by omega)]
      · show hL h' o k = _
        unfold hL; rw [w2.2]; rfl
      · rw [if_neg c]
        exact w3.fr (fun j _ => by rw [hI_n (by omega)])
  have e1 : (2 + 2 * nI n : Int32) + nI x4 = nI (2 + 2 * n + x4) := by
    rw [show (2 : Int32) = nI 2 from rfl, pk_mul, nI_add, nI_add]
  unfold f_R_meansPoint_L2
  rw [if_neg (show ¬ (2 : Int32) ≤ nI x4 from lt_no (n := 2) hx4 (by omega)), if_neg (gd (by omega) (by omega)), cla (by omega), hi, show (5 : Int32) = nI 5 from rfl]
  simp only [nI_eqI (show kk ≤ 100000 by omega) (show 5 ≤ 100000 by omega)]
  rcases hs with ⟨e, k5⟩ | ⟨e, k5⟩
  · subst e
    rw [if_neg k5, if_pos trivial]
    unfold f_R_meansPoint_J3
    rw [if_pos rfl, if_neg (gd ha (by omega)), cla (by omega), hv, e1, if_neg k5, ← nI_iI]
    exact J _
  · subst e
    rw [if_pos k5, if_neg (by decide), nI_1]
    unfold f_R_meansPoint_J3
    rw [if_neg (by decide), if_neg (gd ha (by omega)), cla (by omega), hv, e1, if_pos k5, nIv]
    exact J _
theorem names_ok {n j p f pl : Nat} {w : Int64} (hn : n < 12) (hj : j < 403) (hw : hL h 85 j = w) (hp : hI h 83 j = nI p) (hp2 : p ≤ 2000) (R : WR f pl h) (hpl : pl ≤ 2000) (hc : f ≠ 0 → pl < p) (h9 : hI h 90 n = 1) (Q : pH → Prop) (H : ∀ h', FM n h h' → (∀ k, hI h' 88 k = hI h 88 k) → hL h' 89 n = w → WR (if f ≠ 0 then f else if ex (fun i => decide (hL h 89 i = w)) n then 3 else 0) (if f ≠ 0 then pl else p) h' → (f = 0 → ex (fun i => decide (hL h 89 i = w)) n = false → hI h' 90 n = 1) → ∃ r, lp (fun s => f_R_meansPoint_L2 (nI n) s.1 s.2.1 s.2.2) lpN (nI (j + 1), 0, h') = some r ∧ Q r) : ∃ r, lp (fun s => f_R_meansPoint_L1 (nI j) (nI n) s.1 s.2) lpN (0, h) = some r ∧ Q r := by
  refine lp_inv (f := fun s => f_R_meansPoint_L1 (nI j) (nI n) s.1 s.2) (fun k s => s.1 = nI k ∧ FM n h s.2 ∧ (∀ k, hI s.2 88 k = hI h 88 k) ∧ (∀ o k, hL s.2 o k = hL h o k) ∧ WR (if f ≠ 0 then f else if ex (fun i => decide (hL h 89 i = w)) k then 3 else 0) (if f ≠ 0 then pl else p) s.2 ∧ (f = 0 → ex (fun i => decide (hL h 89 i = w)) k = false → hI s.2 90 n = 1)) Q n ?_ ?_ ⟨rfl, FM.rfl', fun _ => rfl, fun _ _ => rfl, ?_, fun _ _ => h9⟩ (by unfold lpN; omega)
  · rintro k ⟨y, h'⟩ hk ⟨d1, d2, d3, d4, d5, d6⟩
    have d1 : y = nI k := d1
    subst d1
    have d2 : FM n h h' := d2
    have d3 : ∀ k, hI h' 88 k = hI h 88 k := d3
    have d4 : ∀ o k, hL h' o k = hL h o k := d4
    have d5 : WR (if f ≠ 0 then f else if ex (fun i => decide (hL h 89 i = w)) k then 3 else 0) (if f ≠ 0 then pl else p) h' := d5
    have d6 : f = 0 → ex (fun i => decide (hL h 89 i = w)) k = false → hI h' 90 n = 1 := d6
    have e83 : hI h' 83 j = nI p := by rw [d2.1 83 j (by omega) (by omega) (by omega)]; exact hp
    have exs : ex (fun i => decide (hL h 89 i = w)) (k + 1) = (ex (fun i => decide (hL h 89 i = w)) k || decide (hL h 89 k = w)) := rfl
    show ∃ s', f_R_meansPoint_L1 (nI j) (nI n) (nI k) h' = some (.inl s') ∧ _
    unfold f_R_meansPoint_L1
    rw [if_neg (lt_no hk (by omega)), if_neg (gd (by omega) (by omega)), if_neg (gd hj (by omega)), cla (by omega), cla (by omega), d4, d4, hw, nI_1]
    simp only [lg_cmp_eq]
    by_cases c : hL h 89 k = w
    · rw [if_pos c]
      obtain ⟨h'', w1, w2, w3⟩ := wrong_ok (x := 3) d5 (by split <;> omega) hj e83 hp2 (Or.inl rfl) (by
        intro z
        by_cases f0 : f = 0
        · subst f0
          right
          refine ⟨by simp, ?_⟩
          revert z
          simp
        · simp only [if_pos f0]
          exact Or.inl (hc f0))
      have w1 : f_R_wrong 3 (nI j) h' = some h'' := w1
      rw [w1, Option.bind_some, if_neg (gd hn (by omega)), cla (by omega), nb0]
      have ee : ex (fun i => decide (hL h 89 i = w)) (k + 1) = true := by rw [exs]; simp [c]
      refine ⟨_, rfl, rfl, (d2.trans w2.fm).set (by omega), fun i => ?_, fun o i => ?_, ?_, fun f0 z => ?_⟩
      · show hI (sI h'' 90 n 0) 88 i = _
        rw [hI_n (by omega), w2.1 88 i (by unfold FWp; omega)]; exact d3 i
      · show hL h'' o i = _
        have : hL h'' o i = hL h' o i := by unfold hL; rw [w2.2]
        rw [this]; exact d4 o i
      · have w4 : WR _ _ (sI h'' 90 n 0) := w3.fr (fun j _ => by rw [hI_n (by omega)])
        rw [ee]
        by_cases f0 : f = 0
        · subst f0
          simp at w4 ⊢
          by_cases y : ex (fun i => decide (hL h 89 i = w)) k = true
          · simpa [y] using w4
          · simpa [y] using w4
        · simp only [if_pos f0] at w4 ⊢
          exact w4
      · rw [ee] at z
        exact absurd z (by decide)
    · rw [if_neg c]
      have no : ex (fun i => decide (hL h 89 i = w)) (k + 1) = ex (fun i => decide (hL h 89 i = w)) k := by rw [exs]; simp [c]
      exact ⟨_, rfl, rfl, d2, d3, d4, by rw [no]; exact d5, by rw [no]; exact d6⟩
  · rintro ⟨y, h'⟩ ⟨d1, d2, d3, d4, d5, d6⟩
    have d1 : y = nI n := d1
    subst d1
    have d2 : FM n h h' := d2
    have d3 : ∀ k, hI h' 88 k = hI h 88 k := d3
    have d4 : ∀ o k, hL h' o k = hL h o k := d4
    show ∃ s', f_R_meansPoint_L1 (nI j) (nI n) (nI n) h' = some (.inr s') ∧ _
    unfold f_R_meansPoint_L1
    rw [if_pos (ge_yes (Nat.le_refl _) (by omega)), if_neg (gd hj (by omega)), if_neg (gd hn (by omega)), cla (by omega), cla (by omega), d4, hw, nI_1]
    obtain ⟨r, r1, r2⟩ := H (sL h' 89 n w) d2.setL d3 (by rw [hL_sL, if_pos ⟨rfl, rfl⟩]) (WR.fr (h := h') (fun _ _ => rfl) d5) d6
    rw [r1]
    exact ⟨r, rfl, r2⟩
  · show WR (if f ≠ 0 then f else if ex (fun i => decide (hL h 89 i = w)) 0 then 3 else 0) (if f ≠ 0 then pl else p) h
    by_cases f0 : f = 0
    · subst f0
      show WR 0 p h
      exact ⟨Nat.zero_le _, R.2.1, R.2.2.1, fun z => absurd rfl z⟩
    · rw [if_pos f0, if_pos f0]
      exact R
end NU
