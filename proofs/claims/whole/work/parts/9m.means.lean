/-! the reference's meaning of a line -/
theorem nb0 : vp_nar .boolean 0 = 0 := by decide
def WR (f pl : Nat) (h : pH) : Prop := f ≤ 5 ∧ hI h 79 12 = 0 ∧ hI h 79 14 = nI f ∧ (f ≠ 0 → hI h 79 15 = nI pl)
abbrev FWp (o k : Nat) : Prop := o = 79 ∧ (k = 14 ∨ k = 15)
section MN
variable {h : pH}
theorem WR.fr {f pl : Nat} {h h' : pH} (A : ∀ k, k = 12 ∨ k = 14 ∨ k = 15 → hI h' 79 k = hI h 79 k) (R : WR f pl h) : WR f pl h' := ⟨R.1, by rw [A 12 (by omega)]; exact R.2.1, by rw [A 14 (by omega)]; exact R.2.2.1, fun z => by rw [A 15 (by omega)]; exact R.2.2.2 z⟩
theorem wrong_ok {f pl x j p : Nat} (R : WR f pl h) (hpl : pl ≤ 2000) (hj : j < 403) (hp : hI h 83 j = nI p) (hp2 : p ≤ 2000) (hx : x = 3 ∨ x = 5) (hc : f ≠ 0 → pl < p ∨ (pl = p ∧ f = x)) : ∃ h', f_R_wrong (nI x) (nI j) h = some h' ∧ Fp FWp h h' ∧ WR (if f ≠ 0 then f else x) (if f ≠ 0 then pl else p) h' := by
  obtain ⟨r1, r2, r3, r4⟩ := R
  unfold f_R_wrong
  rw [if_neg (gd hj (by omega)), cla (by omega), r2, if_neg (by decide), r3, hp]
  by_cases z : f = 0
  · subst z
    rw [if_pos (by rfl), if_neg (show ¬ ((0 : Nat) ≠ 0) from fun y => y rfl), if_neg (show ¬ ((0 : Nat) ≠ 0) from fun y => y rfl)]
    refine ⟨_, rfl, (Fp.rfl'.set (by unfold FWp; omega)).set (by unfold FWp; omega), by omega, ?_, ?_, fun _ => hI_s⟩
    · rw [hI_n (by omega), hI_n (by omega)]; exact r2
    · rw [hI_n (by omega), hI_s]
  · rw [if_neg (show ¬ nI f = 0 from fun y => z ((nI_eqI (b := 0) (by omega) (by omega)).mp y)), r4 z, if_pos z, if_pos z]
    simp only [nI_ltI (a := pl) (b := p) (by omega) (by omega), nI_ltI (a := x) (b := f) (by omega) (by omega), nI_eqI (a := p) (b := pl) (by omega) (by omega)]
    rcases hc z with c | ⟨c, d⟩
    · rw [if_pos c]
      exact ⟨h, rfl, Fp.rfl', r1, r2, r3, r4⟩
    · rw [if_neg (by omega), if_pos c.symm, if_neg (by omega)]
      exact ⟨h, rfl, Fp.rfl', r1, r2, r3, r4⟩
/-- all that a point's line may change -/
def FM (n : Nat) (h h' : pH) : Prop := (∀ o k, ¬ (o = 79 ∧ (k = 14 ∨ k = 15)) → ¬ (o = 88 ∧ (k = 0 ∨ k = 2 + 2 * n ∨ k = 3 + 2 * n)) → ¬ (o = 90 ∧ k = n) → hI h' o k = hI h o k) ∧ ∀ o k, ¬ (o = 89 ∧ k = n) → hL h' o k = hL h o k
theorem FM.rfl' {n : Nat} : FM n h h := ⟨fun _ _ _ _ _ => rfl, fun _ _ _ => rfl⟩
theorem FM.trans {n : Nat} {a b c : pH} (A : FM n a b) (B : FM n b c) : FM n a c := ⟨fun o k x y z => (B.1 o k x y z).trans (A.1 o k x y z), fun o k x => (B.2 o k x).trans (A.2 o k x)⟩
theorem Fp.fm {n : Nat} {a b : pH} (A : Fp FWp a b) : FM n a b := ⟨fun o k x _ _ => A.1 o k (by unfold FWp; omega), fun o k _ => by unfold hL; rw [A.2]⟩
theorem FM.set {n : Nat} {a b : pH} (A : FM n a b) {o k : Nat} {v : Int32} (ho : (o = 88 ∧ (k = 0 ∨ k = 2 + 2 * n ∨ k = 3 + 2 * n)) ∨ (o = 90 ∧ k = n)) : FM n a (sI b o k v) := ⟨fun o' k' x y z => by rw [hI_n (by omega)]; exact A.1 o' k' x y z, fun o' k' x => A.2 o' k' x⟩
theorem FM.setL {n : Nat} {a b : pH} (A : FM n a b) {v : Int64} : FM n a (sL b 89 n v) := ⟨fun o' k' x y z => A.1 o' k' x y z, fun o' k' x => by rw [hL_sL, if_neg x]; exact A.2 o' k' x⟩
/-- the same place twice -/
def dupM (n : Nat) (h : pH) (k : Nat) : Bool := decide (¬ hI h 90 k = 0 ∧ hI h 88 (2 + 2 * k) = hI h 88 (2 + 2 * n) ∧ hI h 88 (3 + 2 * k) = hI h 88 (3 + 2 * n))
theorem dup_ok {n b p f pl : Nat} (hn : n < 12) (hb : b < 403) (R : WR f pl h) (hpl : pl ≤ 2000) (hp : hI h 83 b = nI p) (hp2 : p ≤ 2000) (h0 : hI h 88 0 = nI n) (hc : f ≠ 0 → pl < p ∨ ∀ k, k < n → dupM n h k = false) : ∃ h', lp (fun s => f_R_meansPoint_L5 (nI n) (nI (b + 1)) s.1 s.2) lpN (0, h) = some h' ∧ FM n h h' ∧ (∀ k, k ≠ 0 → hI h' 88 k = hI h 88 k) ∧ hI h' 88 0 = nI (n + 1) ∧ (∀ o k, hL h' o k = hL h o k) ∧ WR (if f ≠ 0 then f else if ex (dupM n h) n then 3 else 0) (if f ≠ 0 then pl else p) h' ∧ (f = 0 → ex (dupM n h) n = false → hI h' 90 n = hI h 90 n) := by
  refine lp_inv (f := fun s => f_R_meansPoint_L5 (nI n) (nI (b + 1)) s.1 s.2) (fun k s => s.1 = nI k ∧ FM n h s.2 ∧ (∀ k, hI s.2 88 k = hI h 88 k) ∧ (∀ o k, hL s.2 o k = hL h o k) ∧ WR (if f ≠ 0 then f else if ex (dupM n h) k then 3 else 0) (if f ≠ 0 then pl else p) s.2 ∧ (f = 0 → ex (dupM n h) k = false → hI s.2 90 n = hI h 90 n)) _ n ?_ ?_ ⟨rfl, FM.rfl', fun _ => rfl, fun _ _ => rfl, ?_, fun _ _ => rfl⟩ (by unfold lpN; omega)
  · rintro k ⟨y, h'⟩ hk ⟨d1, d2, d3, d4, d5, d6⟩
    have d1 : y = nI k := d1
    subst d1
    have d2 : FM n h h' := d2
    have d3 : ∀ k, hI h' 88 k = hI h 88 k := d3
    have d4 : ∀ o k, hL h' o k = hL h o k := d4
    have d5 : WR (if f ≠ 0 then f else if ex (dupM n h) k then 3 else 0) (if f ≠ 0 then pl else p) h' := d5
    have d6 : f = 0 → ex (dupM n h) k = false → hI h' 90 n = hI h 90 n := d6
    have e9 : hI h' 90 k = hI h 90 k := d2.1 90 k (by omega) (by omega) (by omega)
    have e83 : hI h' 83 b = nI p := by rw [d2.1 83 b (by omega) (by omega) (by omega)]; exact hp
    have exs : ex (dupM n h) (k + 1) = (ex (dupM n h) k || dupM n h k) := rfl
    have no : dupM n h k = false → (ex (dupM n h) (k + 1) = ex (dupM n h) k) := fun z => by rw [exs, z, Bool.or_false]
    have keep : dupM n h k = false → ∃ s', some (Sum.inl (nI (k + 1), h') : (Int32 × pH) ⊕ pH) = some (.inl s') ∧ (s'.1 = nI (k + 1) ∧ FM n h s'.2 ∧ (∀ k, hI s'.2 88 k = hI h 88 k) ∧ (∀ o k, hL s'.2 o k = hL h o k) ∧ WR (if f ≠ 0 then f else if ex (dupM n h) (k + 1) then 3 else 0) (if f ≠ 0 then pl else p) s'.2 ∧ (f = 0 → ex (dupM n h) (k + 1) = false → hI s'.2 90 n = hI h 90 n)) := fun z => ⟨_, rfl, rfl, d2, d3, d4, by rw [no z]; exact d5, by rw [no z]; exact d6⟩
    show ∃ s', f_R_meansPoint_L5 (nI n) (nI (b + 1)) (nI k) h' = some (.inl s') ∧ _
    unfold f_R_meansPoint_L5
    rw [if_neg (lt_no hk (by omega)), if_neg (gd (by omega) (by omega)), cla (by omega), e9, nI_1]
    by_cases c1 : hI h 90 k = 0
    · rw [if_pos c1]
      exact keep (by unfold dupM; simp [c1])
    · rw [if_neg c1, show (2 : Int32) = nI 2 from rfl, pk_mul, pk_mul, nI_add, nI_add, if_neg (gd (by omega) (by omega)), if_neg (gd (by omega) (by omega)), cla (by omega), cla (by omega), d3, d3]
      by_cases c2 : hI h 88 (2 + 2 * k) = hI h 88 (2 + 2 * n)
      · rw [if_pos c2, nI_1, nI_1, if_neg (gd (by omega) (by omega)), if_neg (gd (by omega) (by omega)), cla (by omega), cla (by omega), d3, d3, show 2 + 2 * k + 1 = 3 + 2 * k by omega, show 2 + 2 * n + 1 = 3 + 2 * n by omega]
        by_cases c3 : hI h 88 (3 + 2 * k) = hI h 88 (3 + 2 * n)
        · have dm : dupM n h k = true := by unfold dupM; simp [c1, c2, c3]
          rw [if_pos c3, show nI (b + 1) - 1 = nI b from pk_sub (b := 1) (by omega)]
          obtain ⟨h'', w1, w2, w3⟩ := wrong_ok (x := 3) d5 (by split <;> omega) hb e83 hp2 (Or.inl rfl) (by
            intro z
            by_cases f0 : f = 0
            · subst f0
              right
              refine ⟨by simp, ?_⟩
              revert z
              simp
            · simp only [if_pos f0]
              rcases hc f0 with u | u
              · exact Or.inl u
              · exact absurd dm (by rw [u k hk]; decide))
          have w1 : f_R_wrong 3 (nI b) h' = some h'' := w1
          rw [w1, Option.bind_some, if_neg (gd hn (by omega)), cla (by omega), nb0]
          refine ⟨_, rfl, rfl, (d2.trans w2.fm).set (by omega), fun j => ?_, fun o j => ?_, ?_, fun f0 z => ?_⟩
          · show hI (sI h'' 90 n 0) 88 j = _
            rw [hI_n (by omega), w2.1 88 j (by unfold FWp; omega)]; exact d3 j
          · show hL h'' o j = _
            have : hL h'' o j = hL h' o j := by unfold hL; rw [w2.2]
            rw [this]; exact d4 o j
          · have w4 : WR _ _ (sI h'' 90 n 0) := w3.fr (fun j _ => by rw [hI_n (by omega)])
            have ee : ex (dupM n h) (k + 1) = true := by rw [exs, dm, Bool.or_true]
            rw [ee]
            by_cases f0 : f = 0
            · subst f0
              simp at w4 ⊢
              by_cases y : ex (dupM n h) k = true
              · simpa [y] using w4
              · simpa [y] using w4
            · simp only [if_pos f0] at w4 ⊢
              exact w4
          · rw [exs, dm, Bool.or_true] at z
            exact absurd z (by decide)
        · rw [if_neg c3]
          exact keep (by unfold dupM; simp [c3])
      · rw [if_neg c2]
        exact keep (by unfold dupM; simp [c2])
  · rintro ⟨y, h'⟩ ⟨d1, d2, d3, d4, d5, d6⟩
    have d1 : y = nI n := d1
    subst d1
    have d2 : FM n h h' := d2
    have d3 : ∀ k, hI h' 88 k = hI h 88 k := d3
    show ∃ s', f_R_meansPoint_L5 (nI n) (nI (b + 1)) (nI n) h' = some (.inr s') ∧ _
    unfold f_R_meansPoint_L5
    rw [if_pos (ge_yes (Nat.le_refl _) (by omega)), d3, h0, nI_1]
    refine ⟨_, rfl, d2.set (by omega), fun k hk => by rw [hI_n (by omega)]; exact d3 k, hI_s, d4, WR.fr (h := h') (fun j _ => by rw [hI_n (by omega)]) d5, fun a z => by rw [hI_n (by omega)]; exact d6 a z⟩
  · show WR (if f ≠ 0 then f else if ex (dupM n h) 0 then 3 else 0) (if f ≠ 0 then pl else p) h
    by_cases f0 : f = 0
    · subst f0
      show WR 0 p h
      exact ⟨Nat.zero_le _, R.2.1, R.2.2.1, fun z => absurd rfl z⟩
    · rw [if_pos f0, if_pos f0]
      exact R
end MN
