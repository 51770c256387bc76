/-! a cloud changed: the class -/
theorem lp_inv {σ ρ : Type} {f : σ → Option (σ ⊕ ρ)} (I : Nat → σ → Prop) (Q : ρ → Prop) (K : Nat) (hs : ∀ k s, k < K → I k s → ∃ s', f s = some (.inl s') ∧ I (k + 1) s') (hx : ∀ s, I K s → ∃ r, f s = some (.inr r) ∧ Q r) : ∀ {n : Nat} {s : σ}, I 0 s → K < n → ∃ r, lp f n s = some r ∧ Q r := by
  have key : ∀ (d n k : Nat) (s : σ), k + d = K → I k s → d < n → ∃ r, lp f n s = some r ∧ Q r := by
    intro d
    induction d with
    | zero =>
      intro n k s hk hI hn
      have : k = K := by omega
      subst this
      obtain ⟨r, e, q⟩ := hx s hI
      cases n with
      | zero => omega
      | succ n => exact ⟨r, by unfold lp; rw [e], q⟩
    | succ d ih =>
      intro n k s hk hI hn
      obtain ⟨s', e, i⟩ := hs k s (by omega) hI
      cases n with
      | zero => omega
      | succ n =>
        obtain ⟨r, e2, q⟩ := ih n (k + 1) s' (by omega) i (by omega)
        exact ⟨r, by unfold lp; rw [e]; exact e2, q⟩
  intro n s h0 hn
  exact key K n 0 s (by omega) h0 hn
/-- nothing but three objects has changed -/
def Fr3 (o a b : Nat) (h h' : pH) : Prop := (∀ o' k, o' ≠ o → o' ≠ a → o' ≠ b → hI h' o' k = hI h o' k) ∧ h'.2 = h.2
theorem Fr3.rfl' {o a b : Nat} {h : pH} : Fr3 o a b h h := ⟨fun _ _ _ _ _ => rfl, rfl⟩
theorem Fr3.trans {o a b : Nat} {h h' h'' : pH} (A : Fr3 o a b h h') (B : Fr3 o a b h' h'') : Fr3 o a b h h'' := ⟨fun o' k x y z => (B.1 o' k x y z).trans (A.1 o' k x y z), B.2.trans A.2⟩
theorem Fr3.set {o a b : Nat} {h h' : pH} (A : Fr3 o a b h h') {p k : Nat} {v : Int32} (hp : p = o ∨ p = a ∨ p = b) : Fr3 o a b h (sI h' p k v) := ⟨fun o' k' x y z => by rw [hI_n (by omega)]; exact A.1 o' k' x y z, by rw [sI_2]; exact A.2⟩
def Ob (o a b : Nat) : Prop := rf o 0 = a ∧ rf o 1 = b ∧ a ≠ b ∧ a ≠ o ∧ b ≠ o
theorem Ob8 : Ob 8 9 10 := ⟨rf8_0, rf8_1, by decide, by decide, by decide⟩
theorem Ob4 : Ob 4 5 6 := ⟨by decide +kernel, by decide +kernel, by decide, by decide, by decide⟩
theorem Ob11 : Ob 11 12 13 := ⟨by decide +kernel, by decide +kernel, by decide, by decide, by decide⟩
def updF (F : Nat → Int) (p : Nat) (v : Int) : Nat → Int := fun i => if i = p then v else F i
def addC (c : Cfg) (x y : Int) : Cfg := (c.1 + 1, c.2.1, updF c.2.2.1 c.1 x, updF c.2.2.2 c.1 y)
def movC (c : Cfg) (p : Nat) (x y : Int) : Cfg := (c.1, c.2.1, updF c.2.2.1 p x, updF c.2.2.2 p y)
def shF (F : Nat → Int) (p : Nat) : Nat → Int := fun i => if i < p then F i else F (i + 1)
def golC (c : Cfg) (p : Nat) : Cfg := (c.1 - 1, c.2.1, shF c.2.2.1 p, shF c.2.2.2 p)
section CH
variable {h : pH} {o a b : Nat} {c : Cfg}
theorem has_nI (C : CCc h o c) (hn : c.1 ≤ 12) {p : Nat} (hp : p < c.1) : f_Cloud_has o (nI p) h = 1 := by
  rw [has_in C hn, if_pos]
  rw [nI_iI, iI_toInt (by unfold InR; omega)]
  omega
theorem append_ok (hO : Ob o a b) (C : CCc h o c) (hn : c.1 < 12) (x y : Int) : ∃ h', f_Cloud_append o (iI x) (iI y) h = some h' ∧ CCc h' o (addC c x y) ∧ hI h' o 4 = hI h o 4 + nI 1 ∧ Fr3 o a b h h' := by
  obtain ⟨o1, o2, o3, o4, o5⟩ := hO
  obtain ⟨c1, c2, c3⟩ := C
  rw [o1, o2] at c3
  unfold f_Cloud_append
  rw [c1, o1, o2, show (12 : Int32) = nI 12 from rfl, if_neg (lt_no hn (by omega)), if_neg (gd hn (by omega)), hI_n (by omega), c1, if_neg (gd hn (by omega)), cla (by omega)]
  rw [hI_n (by omega), hI_n (by omega), c1, hI_n (by omega), hI_n (by omega), hI_n (by omega), nI_1]
  refine ⟨_, rfl, ⟨?_, ?_, fun i hi => ?_⟩, ?_, ((((Fr3.rfl'.set (by omega)).set (by omega)).set (by omega)).set (by omega))⟩
  · rw [hI_n (by omega), hI_s]; rfl
  · rw [hI_n (by omega), hI_n (by omega), hI_n (by omega), hI_n (by omega)]; exact c2
  · rw [o1, o2]
    have hi' : i < c.1 + 1 := hi
    by_cases e : i = c.1
    · subst e
      constructor
      · rw [hI_n (by omega), hI_n (by omega), hI_n (by omega), hI_s]
        simp [addC, updF]
      · rw [hI_n (by omega), hI_n (by omega), hI_s]
        simp [addC, updF]
    · have := c3 i (by omega)
      constructor
      · repeat rw [hI_n (by omega)]
        simp [addC, updF, e]
        exact this.1
      · repeat rw [hI_n (by omega)]
        simp [addC, updF, e]
        exact this.2
  · rw [hI_s]; rfl
theorem put_ok (hO : Ob o a b) (C : CCc h o c) (hn : c.1 ≤ 12) {p : Nat} (hp : p < c.1) (x y : Int) : ∃ h', f_Cloud_put o (nI p) (iI x) (iI y) h = some h' ∧ CCc h' o (movC c p x y) ∧ hI h' o 4 = hI h o 4 + nI 1 ∧ Fr3 o a b h h' := by
  have Ch := has_nI C hn hp
  obtain ⟨o1, o2, o3, o4, o5⟩ := hO
  obtain ⟨c1, c2, c3⟩ := C
  rw [o1, o2] at c3
  unfold f_Cloud_put
  rw [Ch, if_neg (by decide), if_neg (gd (by omega) (by omega)), cla (by omega), o1, o2, hI_n (by omega), hI_n (by omega)]
  refine ⟨_, rfl, ⟨?_, ?_, fun i hi => ?_⟩, ?_, (((Fr3.rfl'.set (by omega)).set (by omega)).set (by omega))⟩
  · rw [hI_n (by omega), hI_n (by omega), hI_n (by omega)]; exact c1
  · rw [hI_n (by omega), hI_n (by omega), hI_n (by omega)]; exact c2
  · have hi' : i < c.1 := hi
    rw [o1, o2]
    by_cases e : i = p
    · subst e
      constructor
      · rw [hI_n (by omega), hI_n (by omega), hI_s]
        simp [movC, updF]
      · rw [hI_n (by omega), hI_s]
        simp [movC, updF]
    · have := c3 i (by omega)
      constructor
      · repeat rw [hI_n (by omega)]
        simp [movC, updF, e]
        exact this.1
      · repeat rw [hI_n (by omega)]
        simp [movC, updF, e]
        exact this.2
  · rw [hI_s]; rfl
theorem CCc.cong {c' : Cfg} (C : CCc h o c) (h1 : c'.1 = c.1) (h2 : c'.2.1 = c.2.1) (h3 : ∀ i, i < c.1 → c'.2.2.1 i = c.2.2.1 i ∧ c'.2.2.2 i = c.2.2.2 i) : CCc h o c' := by
  obtain ⟨c1, c2, c3⟩ := C
  refine ⟨by rw [h1]; exact c1, by rw [h2]; exact c2, fun i hi => ?_⟩
  rw [h1] at hi
  have := h3 i hi
  rw [this.1, this.2]
  exact c3 i hi
theorem RRc.cong {c' : Cfg} (C : RRc h c) (h1 : c'.1 = c.1) (h2 : c'.2.1 = c.2.1) (h3 : ∀ i, i < c.1 → c'.2.2.1 i = c.2.2.1 i ∧ c'.2.2.2 i = c.2.2.2 i) : RRc h c' := by
  obtain ⟨c1, c2, c3⟩ := C
  refine ⟨by rw [h1]; exact c1, by rw [h2]; exact c2, fun i hi => ?_⟩
  rw [h1] at hi
  have := h3 i hi
  rw [this.1, this.2]
  exact c3 i hi
theorem drop_ok (hO : Ob o a b) (C : CCc h o c) (hn : c.1 ≤ 12) {p : Nat} (hp : p < c.1) : ∃ h', f_Cloud_drop o (nI p) h = some h' ∧ CCc h' o (golC c p) ∧ hI h' o 4 = hI h o 4 + nI 1 ∧ Fr3 o a b h h' := by
  have Ch := has_nI C hn hp
  obtain ⟨o1, o2, o3, o4, o5⟩ := hO
  obtain ⟨c1, c2, c3⟩ := C
  rw [o1, o2] at c3
  unfold f_Cloud_drop
  rw [Ch, if_neg (by decide)]
  refine lp_inv (f := fun s => f_Cloud_drop_L1 o s.1 s.2) (fun k s => s.1 = nI (p + k) ∧ (hI s.2 o 2 = nI c.1 ∧ hI s.2 o 3 = nI c.2.1 ∧ hI s.2 o 4 = hI h o 4) ∧ (∀ i, i < c.1 → hI s.2 a i = iI (if p ≤ i ∧ i < p + k then c.2.2.1 (i + 1) else c.2.2.1 i) ∧ hI s.2 b i = iI (if p ≤ i ∧ i < p + k then c.2.2.2 (i + 1) else c.2.2.2 i)) ∧ Fr3 o a b h s.2) (fun h' => CCc h' o (golC c p) ∧ hI h' o 4 = hI h o 4 + nI 1 ∧ Fr3 o a b h h') (c.1 - 1 - p) ?_ ?_ ⟨rfl, ⟨c1, c2, rfl⟩, fun i hi => by rw [if_neg (by omega), if_neg (by omega)]; exact c3 i hi, Fr3.rfl'⟩ (by unfold lpN; omega)
  · rintro k ⟨x, h'⟩ hk ⟨rfl, ⟨d1, d2, d3⟩, d4, d5⟩
    have d1 : hI h' o 2 = nI c.1 := d1
    have d2 : hI h' o 3 = nI c.2.1 := d2
    have d3 : hI h' o 4 = hI h o 4 := d3
    show ∃ s', f_Cloud_drop_L1 o (nI (p + k)) h' = some (.inl s') ∧ _
    unfold f_Cloud_drop_L1
    rw [nI_1, d1, if_neg (lt_no (by omega) (by omega)), if_neg (gd (by omega) (by omega)), if_neg (gd (by omega) (by omega)), cla (by omega), cla (by omega), o1, o2, hI_n (by omega)]
    refine ⟨_, rfl, rfl, ⟨?_, ?_, ?_⟩, fun i hi => ?_, (d5.set (by omega)).set (by omega)⟩
    · show hI (sI (sI h' _ _ _) _ _ _) _ _ = _
      rw [hI_n (by omega), hI_n (by omega)]; exact d1
    · show hI (sI (sI h' _ _ _) _ _ _) _ _ = _
      rw [hI_n (by omega), hI_n (by omega)]; exact d2
    · show hI (sI (sI h' _ _ _) _ _ _) _ _ = _
      rw [hI_n (by omega), hI_n (by omega)]; exact d3
    · show hI (sI (sI h' a _ _) b _ _) a i = _ ∧ hI (sI (sI h' a _ _) b _ _) b i = _
      have e1 := d4 i hi
      have e2 := d4 (p + k + 1) (by omega)
      rw [if_neg (by omega), if_neg (by omega)] at e2
      have e2a : hI h' a (p + k + 1) = iI (c.2.2.1 (p + k + 1)) := e2.1
      have e2b : hI h' b (p + k + 1) = iI (c.2.2.2 (p + k + 1)) := e2.2
      have e1a : hI h' a i = iI (if p ≤ i ∧ i < p + k then c.2.2.1 (i + 1) else c.2.2.1 i) := e1.1
      have e1b : hI h' b i = iI (if p ≤ i ∧ i < p + k then c.2.2.2 (i + 1) else c.2.2.2 i) := e1.2
      by_cases e : i = p + k
      · constructor
        · rw [hI_n (by omega), e, hI_s, e2a, if_pos (by omega)]
        · rw [e, hI_s, e2b, if_pos (by omega)]
      · have hcc : (p ≤ i ∧ i < p + (k + 1)) ↔ (p ≤ i ∧ i < p + k) := by omega
        constructor
        · rw [hI_n (by omega), hI_n (by omega), e1a]; simp only [hcc]
        · rw [hI_n (by omega), hI_n (by omega), e1b]; simp only [hcc]
  · rintro ⟨x, h'⟩ ⟨rfl, ⟨d1, d2, d3⟩, d4, d5⟩
    have d1 : hI h' o 2 = nI c.1 := d1
    have d2 : hI h' o 3 = nI c.2.1 := d2
    have d3 : hI h' o 4 = hI h o 4 := d3
    show ∃ r, f_Cloud_drop_L1 o (nI (p + (c.1 - 1 - p))) h' = some (.inr r) ∧ _
    unfold f_Cloud_drop_L1
    rw [nI_1, d1, if_pos (ge_yes (by omega) (by omega)), hI_n (by omega), d3, show (1 : Int32) = nI 1 from rfl, pk_sub (by omega)]
    refine ⟨_, rfl, ⟨?_, ?_, fun i hi => ?_⟩, hI_s, (d5.set (by omega)).set (by omega)⟩
    · rw [hI_n (by omega), hI_s]; rfl
    · rw [hI_n (by omega), hI_n (by omega)]; exact d2
    · have hi' : i < c.1 - 1 := hi
      have e1 := d4 i (by omega)
      have e1a : hI h' a i = iI (if p ≤ i ∧ i < p + (c.1 - 1 - p) then c.2.2.1 (i + 1) else c.2.2.1 i) := e1.1
      have e1b : hI h' b i = iI (if p ≤ i ∧ i < p + (c.1 - 1 - p) then c.2.2.2 (i + 1) else c.2.2.2 i) := e1.2
      rw [o1, o2]
      constructor
      · rw [hI_n (by omega), hI_n (by omega), e1a]
        unfold golC shF
        by_cases hq : i < p
        · simp only [hq, if_true]; rw [if_neg (by omega)]
        · simp only [hq, if_false]; rw [if_pos (by omega)]
      · rw [hI_n (by omega), hI_n (by omega), e1b]
        unfold golC shF
        by_cases hq : i < p
        · simp only [hq, if_true]; rw [if_neg (by omega)]
        · simp only [hq, if_false]; rw [if_pos (by omega)]
end CH
