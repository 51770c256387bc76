/-! fits: the points by x, the fit of a line -/
def pxn (X : Nat → Int) (S : Nat → Nat) (x : Nat) : Nat → Nat
  | 0 => 0
  | m + 1 => if X x < X (S m) then pxn X S x m else m + 1
def insN (S : Nat → Nat) (a x : Nat) : Nat → Nat := fun k => if k < a then S k else if k = a then x else S (k - 1)
def sgm (X : Nat → Int) : Nat → Nat → Nat
  | 0 => fun _ => 0
  | p + 1 => insN (sgm X p) (pxn X (sgm X p) p p) p
theorem pxn_ok (X : Nat → Int) (S : Nat → Nat) (x : Nat) : ∀ m, pxn X S x m ≤ m ∧ (∀ i, pxn X S x m < i → i ≤ m → X x < X (S (i - 1))) ∧ (pxn X S x m = 0 ∨ ¬ X x < X (S (pxn X S x m - 1))) := by
  intro m
  induction m with
  | zero => exact ⟨Nat.le_refl _, fun i h1 h2 => by omega, Or.inl rfl⟩
  | succ m ih =>
    unfold pxn
    by_cases c : X x < X (S m)
    · rw [if_pos c]
      refine ⟨by omega, fun i h1 h2 => ?_, ih.2.2⟩
      by_cases e : i = m + 1
      · subst e; exact c
      · exact ih.2.1 i h1 (by omega)
    · rw [if_neg c]
      exact ⟨Nat.le_refl _, fun i h1 h2 => by omega, Or.inr c⟩
theorem insN_lt {S : Nat → Nat} {a x m b : Nat} (ha : a ≤ m) (hS : ∀ k, k < m → S k < b) (hx : x < b) : ∀ k, k < m + 1 → insN S a x k < b := by
  intro k hk
  unfold insN
  by_cases c1 : k < a
  · rw [if_pos c1]; exact hS k (by omega)
  · rw [if_neg c1]
    by_cases c2 : k = a
    · rw [if_pos c2]; exact hx
    · rw [if_neg c2]; exact hS (k - 1) (by omega)
theorem sgm_lt (X : Nat → Int) : ∀ p k, k < p → sgm X p k < p := by
  intro p
  induction p with
  | zero => intro k hk; omega
  | succ p ih => exact insN_lt (pxn_ok X (sgm X p) p p).1 (fun k hk => by have := ih k hk; omega) (by omega)
theorem ctn_ins (P : Nat → Bool) {S : Nat → Nat} {a x m : Nat} (ha : a ≤ m) : ctn (fun k => P (insN S a x k)) (m + 1) = ctn (fun k => P (S k)) m + (if P x then 1 else 0) := by
  have e1 : ctn (fun k => P (insN S a x k)) (m + 1) = ctn (fun k => P (S k)) a + (ctn (fun k => P (insN S a x (a + k))) 1 + ctn (fun k => P (insN S a x (a + (1 + k)))) (m - a)) := by
    rw [show m + 1 = a + (1 + (m - a)) by omega, ctn_split, ctn_split]
    congr 1
    exact ctn_cong (fun k hk => by unfold insN; rw [if_pos hk])
  have e2 : ctn (fun k => P (S k)) m = ctn (fun k => P (S k)) a + ctn (fun k => P (S (a + k))) (m - a) := by
    rw [← ctn_split, show a + (m - a) = m by omega]
  have e3 : ctn (fun k => P (insN S a x (a + k))) 1 = if P x then 1 else 0 := by
    show 0 + (if P (insN S a x (a + 0)) then 1 else 0) = _
    rw [Nat.zero_add, show insN S a x (a + 0) = x from by unfold insN; rw [if_neg (by omega), if_pos (by omega)]]
  have e4 : ctn (fun k => P (insN S a x (a + (1 + k)))) (m - a) = ctn (fun k => P (S (a + k))) (m - a) := ctn_cong (fun k _ => by
    rw [show insN S a x (a + (1 + k)) = S (a + k) from by unfold insN; rw [if_neg (by omega), if_neg (by omega)]; congr 1; omega])
  rw [e1, e2, e3, e4]
  omega
theorem sgm_ct (X : Nat → Int) (P : Nat → Bool) : ∀ p, ctn (fun k => P (sgm X p k)) p = ctn P p := by
  intro p
  induction p with
  | zero => rfl
  | succ p ih =>
    show ctn (fun k => P (insN (sgm X p) (pxn X (sgm X p) p p) p k)) (p + 1) = ctn P p + (if P p then 1 else 0)
    rw [ctn_ins P (pxn_ok X (sgm X p) p p).1, ih]
theorem sgm_on (X : Nat → Int) {n p : Nat} (hp : p < n) : ∃ k, k < n ∧ sgm X n k = p := by
  by_cases z : ∃ k, k < n ∧ sgm X n k = p
  · exact z
  · exfalso
    have e := sgm_ct X (fun q => decide (q = p)) n
    rw [ctn_none (fun k hk => by
      rw [decide_eq_false_iff_not]
      exact fun y => z ⟨k, hk, y⟩), ctn_one (j := p) hp (by simp) (fun i _ hi => by simpa using hi)] at e
    omega
theorem sgm_srt (X : Nat → Int) : ∀ p j k, j ≤ k → k < p → X (sgm X p j) ≤ X (sgm X p k) := by
  intro p
  induction p with
  | zero => intro j k _ hk; omega
  | succ p ih =>
    intro j k hjk hk
    obtain ⟨p1, p2, p3⟩ := pxn_ok X (sgm X p) p p
    show X (insN (sgm X p) (pxn X (sgm X p) p p) p j) ≤ X (insN (sgm X p) (pxn X (sgm X p) p p) p k)
    generalize pxn X (sgm X p) p p = a at *
    unfold insN
    have up : ∀ i, a ≤ i → i < p → X p < X (sgm X p i) := fun i h1 h2 => p2 (i + 1) (by omega) (by omega)
    have dn : ∀ i, i < a → X (sgm X p i) ≤ X p := fun i h1 => by
      have z := p3.resolve_left (by omega)
      have := ih i (a - 1) (by omega) (by omega)
      omega
    by_cases c1 : j < a
    · rw [if_pos c1]
      by_cases c2 : k < a
      · rw [if_pos c2]; exact ih j k hjk (by omega)
      · rw [if_neg c2]
        by_cases c3 : k = a
        · rw [if_pos c3]; exact dn j c1
        · rw [if_neg c3]
          have := dn j c1
          have := up (k - 1) (by omega) (by omega)
          omega
    · rw [if_neg c1, if_neg (show ¬ k < a by omega)]
      by_cases c3 : j = a
      · rw [if_pos c3]
        by_cases c4 : k = a
        · rw [if_pos c4]; exact Int.le_refl _
        · rw [if_neg c4]
          have := up (k - 1) (by omega) (by omega)
          omega
      · rw [if_neg c3, if_neg (show ¬ k = a by omega)]
        exact ih (j - 1) (k - 1) (by omega) (by omega)
section FT
variable {n g : Nat} {X Y : Nat → Int} {h h0 : pH}
def ARg (X : Nat → Int) (h0 h : pH) (p : Nat) : Prop := Fs [27] h0 h ∧ ∀ k, k < p → hI h 27 k = nI (sgm X p k)
theorem arrange_ok (C : CC h 8 n g X Y) (G : GC n g X Y) : ∃ h', f_Fits_arrange 8 h = some h' ∧ ARg X h h' n := by
  have hn := G.1
  unfold f_Fits_arrange
  refine lp_inv (f := fun s => f_Fits_arrange_L1 8 s.1 s.2) (fun p s => s.1 = nI p ∧ ARg X h s.2 p) (fun r => ARg X h r n) n ?_ ?_ ⟨rfl, Fs.rfl', fun k hk => by omega⟩ (by unfold lpN; omega)
  · rintro p ⟨b, h'⟩ hp ⟨rfl, A⟩
    have A : ARg X h h' p := A
    have C' : CC h' 8 n g X Y := C.fs A.1 (by decide) (by rw [rf8_0]; decide) (by rw [rf8_1]; decide)
    show ∃ s', f_Fits_arrange_L1 8 (nI p) h' = some (.inl s') ∧ s'.1 = nI (p + 1) ∧ ARg X h s'.2 (p + 1)
    unfold f_Fits_arrange_L1
    rw [C'.1, if_neg (lt_no hp (by omega))]
    obtain ⟨p1, p2, p3⟩ := pxn_ok X (sgm X p) p p
    have sl := sgm_lt X p
    obtain ⟨r, e1, h2, rfl, e2⟩ := lp_inv (f := fun s => f_Fits_arrange_L2 8 (nI p) s.1 s.2) (fun t s => s.1 = nI (p - t) ∧ Fs [27] h s.2 ∧ ∀ k, k < p + 1 → k ≠ p - t → hI s.2 27 k = nI (insN (sgm X p) (p - t) p k)) (fun r => ∃ h2, r = .inl (nI (p + 1), h2) ∧ ARg X h h2 (p + 1)) (p - pxn X (sgm X p) p p) (by
      rintro t ⟨b, h'⟩ ht ⟨rfl, F, H⟩
      have F : Fs [27] h h' := F
      have H : ∀ k, k < p + 1 → k ≠ p - t → hI h' 27 k = nI (insN (sgm X p) (p - t) p k) := H
      have C' : CC h' 8 n g X Y := C.fs F (by decide) (by rw [rf8_0]; decide) (by rw [rf8_1]; decide)
      obtain ⟨i, hi⟩ : ∃ i, p - t = i + 1 := ⟨p - t - 1, by omega⟩
      have hi2 : p - (t + 1) = i := by omega
      show ∃ s', f_Fits_arrange_L2 8 (nI p) (nI (p - t)) h' = some (.inl s') ∧ s'.1 = nI (p - (t + 1)) ∧ Fs [27] h s'.2 ∧ ∀ k, k < p + 1 → k ≠ p - (t + 1) → hI s'.2 27 k = nI (insN (sgm X p) (p - (t + 1)) p k)
      rw [hi] at H
      rw [hi, hi2]
      unfold f_Fits_arrange_L2
      have s1 : nI (i + 1) - 1 = nI i := by rw [show (1 : Int32) = nI 1 from rfl, pk_sub (by omega)]; congr 1
      have s2 : nI (i + 1) + -1 = nI i := by rw [nI_iI, nI_iI, show (-1 : Int32) = iI (-1) from rfl, iI_add]; congr 1; omega
      have hS := H i (by omega) (by omega)
      rw [show insN (sgm X p) (i + 1) p i = sgm X p i from by unfold insN; rw [if_pos (by omega)]] at hS
      have si := sl i (by omega)
      have kl := p2 (i + 1) (by omega) (by omega)
      have kl : X p < X (sgm X p i) := kl
      have b1 := G.2.2.1 p hp
      have b2 := G.2.2.1 (sgm X p i) (by omega)
      rw [if_neg (show ¬ nI (i + 1) ≤ 0 from nI_ge (a := 0) (by omega) (by omega)), s1, if_neg (gd (by omega) (by omega)), cla (k := i) (by omega), hS, if_neg (gd (by omega) (by omega)), if_neg (gd (by omega) (by omega)), cla (k := sgm X p i) (by omega), cla (k := p) (by omega), (C'.2.2 _ (show sgm X p i < n by omega)).1, (C'.2.2 p hp).1, if_neg (by rw [iI_le (by unfold InR; omega) (by unfold InR; omega)]; omega), if_neg (gd (by omega) (by omega)), cla (k := i + 1) (by omega), s2]
      refine ⟨_, rfl, rfl, F.set (by decide), fun k hk hk2 => ?_⟩
      show hI (sI h' 27 (i + 1) _) 27 k = nI (insN (sgm X p) i p k)
      by_cases c : k = i + 1
      · subst c
        rw [hI_s, show insN (sgm X p) i p (i + 1) = sgm X p i from by unfold insN; rw [if_neg (by omega), if_neg (by omega)]; rfl]
      · rw [hI_n (by omega), H k hk c]
        congr 1
        unfold insN
        by_cases c3 : k < i
        · rw [if_pos (by omega), if_pos c3]
        · rw [if_neg (by omega), if_neg c, if_neg c3, if_neg hk2]) (by
      rintro ⟨b, h'⟩ ⟨rfl, F, H⟩
      have F : Fs [27] h h' := F
      have H : ∀ k, k < p + 1 → k ≠ p - (p - pxn X (sgm X p) p p) → hI h' 27 k = nI (insN (sgm X p) (p - (p - pxn X (sgm X p) p p)) p k) := H
      have C' : CC h' 8 n g X Y := C.fs F (by decide) (by rw [rf8_0]; decide) (by rw [rf8_1]; decide)
      have ea : p - (p - pxn X (sgm X p) p p) = pxn X (sgm X p) p p := by omega
      rw [ea] at H
      show ∃ r, f_Fits_arrange_L2 8 (nI p) (nI (p - (p - pxn X (sgm X p) p p))) h' = some (.inr r) ∧ _
      rw [ea]
      have fin : ARg X h (sI h' 27 (pxn X (sgm X p) p p) (nI p)) (p + 1) := by
        refine ⟨F.set (by decide), fun k hk => ?_⟩
        show _ = nI (insN (sgm X p) (pxn X (sgm X p) p p) p k)
        by_cases c : k = pxn X (sgm X p) p p
        · rw [c, hI_s]
          congr 1
          unfold insN
          rw [if_neg (by omega), if_pos rfl]
        · rw [hI_n (by omega)]
          exact H k hk c
      generalize pxn X (sgm X p) p p = a at *
      unfold f_Fits_arrange_L2
      by_cases z : a = 0
      · subst z
        rw [if_pos (show nI 0 ≤ 0 by decide), if_neg (gd (by omega) (by omega)), cla (by omega), nI_1]
        exact ⟨_, rfl, _, rfl, fin⟩
      · have s1 : nI a - 1 = nI (a - 1) := by rw [show (1 : Int32) = nI 1 from rfl, pk_sub (by omega)]
        have hS := H (a - 1) (by omega) (by omega)
        rw [show insN (sgm X p) a p (a - 1) = sgm X p (a - 1) from by unfold insN; rw [if_pos (by omega)]] at hS
        have si := sl (a - 1) (by omega)
        have kl := p3.resolve_left z
        have b1 := G.2.2.1 p hp
        have b2 := G.2.2.1 (sgm X p (a - 1)) (by omega)
        rw [if_neg (show ¬ nI a ≤ 0 from nI_ge (a := 0) (by omega) (by omega)), s1, if_neg (gd (by omega) (by omega)), cla (k := a - 1) (by omega), hS, if_neg (gd (by omega) (by omega)), if_neg (gd (by omega) (by omega)), cla (k := sgm X p (a - 1)) (by omega), cla (k := p) (by omega), (C'.2.2 _ (show sgm X p (a - 1) < n by omega)).1, (C'.2.2 p hp).1, if_pos (by rw [iI_le (by unfold InR; omega) (by unfold InR; omega)]; omega), if_neg (gd (by omega) (by omega)), cla (k := a) (by omega), nI_1]
        exact ⟨_, rfl, _, rfl, fin⟩) (n := lpN) (s := (nI p, h')) ⟨rfl, A.1, fun k hk hk2 => by
          have hk2 : k ≠ p := hk2
          show hI h' 27 k = nI (insN (sgm X p) p p k)
          rw [show insN (sgm X p) p p k = sgm X p k from by unfold insN; rw [if_pos (by omega)]]
          exact A.2 k (by omega)⟩ (by unfold lpN; omega)
    rw [e1]
    exact ⟨_, rfl, rfl, e2⟩
  · rintro ⟨b, h'⟩ ⟨rfl, A⟩
    have A : ARg X h h' n := A
    have C' : CC h' 8 n g X Y := C.fs A.1 (by decide) (by rw [rf8_0]; decide) (by rw [rf8_1]; decide)
    show ∃ r, f_Fits_arrange_L1 8 (nI n) h' = some (.inr r) ∧ _
    unfold f_Fits_arrange_L1
    rw [C'.1, if_pos (ge_yes (Nat.le_refl _) (by omega))]
    exact ⟨_, rfl, A⟩
end FT
