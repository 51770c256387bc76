/-! the rim of a set and its corners -/
/-- a frame: nothing but these objects has changed -/
def Fs (L : List Nat) (h h' : pH) : Prop := (∀ o k, o ∉ L → hI h' o k = hI h o k) ∧ h'.2 = h.2
theorem Fs.rfl' {L : List Nat} {h : pH} : Fs L h h := ⟨fun _ _ _ => rfl, rfl⟩
theorem Fs.trans {L : List Nat} {h h' h'' : pH} (A : Fs L h h') (B : Fs L h' h'') : Fs L h h'' := ⟨fun o k x => (B.1 o k x).trans (A.1 o k x), B.2.trans A.2⟩
theorem Fs.set {L : List Nat} {h h' : pH} (A : Fs L h h') {o k : Nat} {v : Int32} (ho : o ∈ L) : Fs L h (sI h' o k v) := ⟨fun a k' x => by rw [hI_n (show ¬ (a = o ∧ k' = k) from fun e => x (by rw [e.1]; exact ho))]; exact A.1 a k' x, by rw [sI_2]; exact A.2⟩
theorem Fs.mono {L M : List Nat} {h h' : pH} (A : Fs L h h') (s : ∀ o, o ∈ L → o ∈ M) : Fs M h h' := ⟨fun o k x => A.1 o k (fun y => x (s o y)), A.2⟩
theorem CC.fs {L : List Nat} {h h' : pH} {o n g : Nat} {X Y : Nat → Int} (C : CC h o n g X Y) (A : Fs L h h') (h0 : o ∉ L) (h1 : rf o 0 ∉ L) (h2 : rf o 1 ∉ L) : CC h' o n g X Y := ⟨by rw [A.1 _ _ h0]; exact C.1, by rw [A.1 _ _ h0]; exact C.2.1, fun i hi => by rw [A.1 _ _ h1, A.1 _ _ h2]; exact C.2.2 i hi⟩
theorem RR.fs {L : List Nat} {h h' : pH} {n g : Nat} {X Y : Nat → Int} (C : RR h n g X Y) (A : Fs L h h') (h0 : 87 ∉ L) : RR h' n g X Y := ⟨by rw [A.1 _ _ h0]; exact C.1, by rw [A.1 _ _ h0]; exact C.2.1, fun i hi => by rw [A.1 _ _ h0, A.1 _ _ h0]; exact C.2.2 i hi⟩
theorem e0 {a : Int} (h : InR a) : iI a = 0 ↔ a = 0 := iI_eq (b := 0) h (by unfold InR; omega)
theorem le0 {a : Int} (h : InR a) : iI a ≤ 0 ↔ a ≤ 0 := iI_le (b := 0) h (by unfold InR; omega)
theorem ge0 {a : Int} (h : InR a) : 0 ≤ iI a ↔ 0 ≤ a := iI_le (a := 0) (by unfold InR; omega) h
theorem lt0 {a : Int} (h : InR a) : iI a < 0 ↔ a < 0 := iI_lt (b := 0) h (by unfold InR; omega)
theorem gt0 {a : Int} (h : InR a) : 0 < iI a ↔ 0 < a := iI_lt (a := 0) (by unfold InR; omega) h
/-- a set of bits is empty -/
theorem nI_z {a : Nat} (ha : a < 4096) : nI a = 0 ↔ a = 0 := nI_eqI (b := 0) (by omega) (by omega)
theorem and_0 {a b n : Nat} (ha : a < 2 ^ n) : a &&& b = 0 ↔ ∀ i, i < n → a.testBit i = true → b.testBit i = false := by
  constructor
  · intro e i _ hi
    have : (a &&& b).testBit i = false := by rw [e]; exact Nat.zero_testBit i
    rw [Nat.testBit_and, hi] at this
    simpa using this
  · intro H
    apply set_eq (n := n) (Nat.lt_of_le_of_lt Nat.and_le_left ha) (Nat.two_pow_pos n)
    intro i hi
    rw [Nat.testBit_and, Nat.zero_testBit]
    cases ha : a.testBit i with
    | false => rfl
    | true => rw [H i hi ha]; rfl
theorem sbM {n g : Nat} {X Y : Nat → Int} {h : pH} {o : Nat} (C : CC h o n g X Y) (G : GC n g X Y) {p q : Nat} (hp : p < n) (hq : q < n) : f_Cloud_sideBits o (nI p) (nI q) (-1) h = some (nI (sdS n X Y p q (-1))) := by
  have a := sideBits_ok C G hp hq (sd := -1) (by omega)
  exact a
theorem onM {n g : Nat} {X Y : Nat → Int} {h : pH} (C : RR h n g X Y) (G : GC n g X Y) {p q s : Nat} (hp : p < n) (hq : q < n) (hs : s < 4096) : f_R_onSide (nI p) (nI q) (-1) (nI s) h = some (nI (sdS n X Y p q (-1) &&& s)) := by
  have a := R_onSide_ok C G hp hq (s := s) (by omega) (sd := -1) (by omega)
  exact a
theorem onP {n g : Nat} {X Y : Nat → Int} {h : pH} (C : RR h n g X Y) (G : GC n g X Y) {p q s : Nat} (hp : p < n) (hq : q < n) (hs : s < 4096) : f_R_onSide (nI p) (nI q) 1 (nI s) h = some (nI (sdS n X Y p q 1 &&& s)) := by
  have a := R_onSide_ok C G hp hq (s := s) (by omega) (sd := 1) (by omega)
  exact a
section HU
variable {n g : Nat} {X Y : Nat → Int} {h : pH} {o : Nat}
/-- none of s on this side of p and q -/
def noB (n : Nat) (X Y : Nat → Int) (s p q : Nat) (sd : Int) : Bool := decide (sdS n X Y p q sd &&& s = 0)
theorem T3_self (p q : Nat) : T3 X Y p q p = 0 ∧ T3 X Y p q q = 0 := by unfold T3 TR; grind
theorem noB_r {s p q : Nat} : noB n X Y s p q (-1) = true ↔ ∀ r, r < n → s.testBit r = true → 0 ≤ T3 X Y p q r := by
  unfold noB
  rw [decide_eq_true_iff, and_0 (sdS_lt p q (-1))]
  constructor
  · intro H r hr hs
    by_cases hl : T3 X Y p q r < 0
    · have h1 : r ≠ p := by rintro rfl; have := (T3_self (X := X) (Y := Y) r q).1; omega
      have h2 : r ≠ q := by rintro rfl; have := (T3_self (X := X) (Y := Y) p r).2; omega
      have := H r hr (by unfold sdS; rw [bs_bit]; unfold sdP; simp only [hr, decide_true, Bool.true_and, decide_eq_true_eq]; exact ⟨h1, h2, sgn_m.mpr hl⟩)
      rw [hs] at this
      exact absurd this (by decide)
    · omega
  · intro H r hr hd
    cases hs : s.testBit r with
    | false => rfl
    | true =>
      have := H r hr hs
      unfold sdS at hd
      rw [bs_bit] at hd
      unfold sdP at hd
      simp only [hr, decide_true, Bool.true_and, decide_eq_true_eq] at hd
      have := sgn_m.mp hd.2.2
      omega
theorem noB_l {s p q : Nat} : noB n X Y s p q 1 = true ↔ ∀ r, r < n → s.testBit r = true → T3 X Y p q r ≤ 0 := by
  unfold noB
  rw [decide_eq_true_iff, and_0 (sdS_lt p q 1)]
  constructor
  · intro H r hr hs
    by_cases hl : 0 < T3 X Y p q r
    · have h1 : r ≠ p := by rintro rfl; have := (T3_self (X := X) (Y := Y) r q).1; omega
      have h2 : r ≠ q := by rintro rfl; have := (T3_self (X := X) (Y := Y) p r).2; omega
      have := H r hr (by unfold sdS; rw [bs_bit]; unfold sdP; simp only [hr, decide_true, Bool.true_and, decide_eq_true_eq]; exact ⟨h1, h2, sgn_1.mpr hl⟩)
      rw [hs] at this
      exact absurd this (by decide)
    · omega
  · intro H r hr hd
    cases hs : s.testBit r with
    | false => rfl
    | true =>
      have := H r hr hs
      unfold sdS at hd
      rw [bs_bit] at hd
      unfold sdP at hd
      simp only [hr, decide_true, Bool.true_and, decide_eq_true_eq] at hd
      have := sgn_1.mp hd.2.2
      omega
/-- a next one: none of s right of p and q -/
def nxB (n : Nat) (X Y : Nat → Int) (s p q : Nat) : Bool := decide (q ≠ p) && s.testBit q && noB n X Y s p q (-1)
def rimB (n : Nat) (X Y : Nat → Int) (s p : Nat) : Bool := decide (s = 2 ^ p) || ex (nxB n X Y s p) n
theorem one_bit {s p : Nat} (hs : s < 4096) (hp : p < 12) : nI s = jshl 1 (nI p) ↔ s = 2 ^ p := by
  have : 2 ^ p < 2 ^ 12 := Nat.pow_lt_pow_right (by decide) hp
  rw [jshl_ok p (by omega)]
  exact nI_eqI (by omega) (by omega)
theorem isOnRim_ok (C : CC h o n g X Y) (G : GC n g X Y) {s p : Nat} (hs : s < 4096) (hp : p < n) : f_Hulls_isOnRim o (nI s) (nI p) h = some (if rimB n X Y s p then 1 else 0) := by
  have hn := G.1
  unfold f_Hulls_isOnRim rimB
  by_cases e : s = 2 ^ p
  · rw [if_pos ((one_bit hs (by omega)).mpr e)]
    simp [e]
  · rw [if_neg (fun x => e ((one_bit hs (by omega)).mp x))]
    simp only [e, decide_false, Bool.false_or]
    exact lp_any (f := fun t => f_Hulls_isOnRim_L1 o (nI s) (nI p) h t) (fun k => nI k) (nxB n X Y s p) n (fun q hq => by
      show f_Hulls_isOnRim_L1 o (nI s) (nI p) h (nI q) = _
      unfold f_Hulls_isOnRim_L1 nxB noB
      rw [C.1, if_neg (lt_no hq (by omega)), nI_1, sbM C G hp hq, bit_ok (by omega) (by omega)]
      simp only [Option.bind_some]
      rw [nI_and]
      by_cases e1 : q = p
      · subst e1
        simp
      · rw [if_neg (fun x => e1 ((nI_eqI (by omega) (by omega)).mp x))]
        have hl : sdS n X Y p q (-1) &&& s < 4096 := and_lt4 hs
        cases s.testBit q
        · simp
        · by_cases e2 : sdS n X Y p q (-1) &&& s = 0
          · simp [e1, e2]
            rfl
          · simp [e1, e2, nI_z hl]) (by
      show f_Hulls_isOnRim_L1 o (nI s) (nI p) h (nI n) = _
      unfold f_Hulls_isOnRim_L1
      rw [C.1, if_pos (ge_yes (Nat.le_refl _) (by omega))]) (by unfold lpN; omega)
def rmR (n : Nat) (X Y : Nat → Int) (s p q : Nat) : Bool := decide (q ≠ p) && s.testBit q && (noB n X Y s p q 1 || noB n X Y s p q (-1))
theorem R_isRim_ok' (C : RR h n g X Y) (G : GC n g X Y) {s p : Nat} (hs : s < 4096) (hp : p < n) : f_R_isRim (nI p) (nI s) h = some (if (decide (s = 2 ^ p) || ex (rmR n X Y s p) n) then 1 else 0) := by
  have hn := G.1
  unfold f_R_isRim
  by_cases e : s = 2 ^ p
  · rw [if_pos ((one_bit hs (by omega)).mpr e)]
    simp [e]
  · rw [if_neg (fun x => e ((one_bit hs (by omega)).mp x))]
    simp only [e, decide_false, Bool.false_or]
    exact lp_any (f := fun t => f_R_isRim_L1 (nI p) (nI s) h t) (fun k => nI k) (rmR n X Y s p) n (fun q hq => by
      show f_R_isRim_L1 (nI p) (nI s) h (nI q) = _
      unfold f_R_isRim_L1 rmR noB f_R_all
      rw [C.1, if_neg (lt_no hq (by omega)), nI_1, onM C G hp hq hs, onP C G hp hq hs, has_ok (by omega) (by omega)]
      simp only [Option.bind_some]
      by_cases e1 : q = p
      · subst e1
        simp
      · rw [if_neg (fun x => e1 ((nI_eqI (by omega) (by omega)).mp x))]
        have hl : sdS n X Y p q (-1) &&& s < 4096 := and_lt4 hs
        have hl2 : sdS n X Y p q 1 &&& s < 4096 := and_lt4 hs
        cases s.testBit q
        · simp
        · by_cases e2 : sdS n X Y p q 1 &&& s = 0
          · simp [e1, e2, nI_z (show 0 < 4096 by omega)]
          · by_cases e3 : sdS n X Y p q (-1) &&& s = 0
            · simp [e1, e2, e3, nI_z hl2]
              rfl
            · simp [e1, e2, e3, nI_z hl, nI_z hl2]) (by
      show f_R_isRim_L1 (nI p) (nI s) h (nI n) = _
      unfold f_R_isRim_L1 f_R_all
      rw [C.1, if_pos (ge_yes (Nat.le_refl _) (by omega))]) (by unfold lpN; omega)
theorem rim_eq (G : GC n g X Y) {s p : Nat} (hp : p < n) : ex (rmR n X Y s p) n = ex (nxB n X Y s p) n := by
  apply Bool.eq_iff_iff.mpr
  rw [ex_iff, ex_iff]
  constructor
  · rintro ⟨q, hq, e⟩
    unfold rmR at e
    simp only [Bool.and_eq_true, Bool.or_eq_true, decide_eq_true_eq] at e
    obtain ⟨⟨e1, e2⟩, e3 | e3⟩ := e
    · obtain ⟨c, hc, hM, H⟩ := rim_turn (X := X) (Y := Y) (p := p) (fun i => s.testBit i && decide (i ≠ p)) hq (by simp [e1, e2]) (fun i hi hM hx hy => by
        simp only [Bool.and_eq_true, decide_eq_true_eq] at hM
        exact hM.2 (G.2.2.2 i p hi hp hx hy)) (fun r hr hM => by
        simp only [Bool.and_eq_true, decide_eq_true_eq] at hM
        exact noB_l.mp e3 r hr hM.1)
      simp only [Bool.and_eq_true, decide_eq_true_eq] at hM
      refine ⟨c, hc, ?_⟩
      unfold nxB
      simp only [Bool.and_eq_true, decide_eq_true_eq]
      refine ⟨⟨hM.2, hM.1⟩, noB_r.mpr fun r hr hs => ?_⟩
      by_cases er : r = p
      · subst er
        rw [(T3_self r c).1]
        exact Int.le_refl 0
      · exact H r hr (by simp [hs, er])
    · exact ⟨q, hq, by unfold nxB; simp [e1, e2, e3]⟩
  · rintro ⟨q, hq, e⟩
    unfold nxB at e
    simp only [Bool.and_eq_true, decide_eq_true_eq] at e
    exact ⟨q, hq, by unfold rmR; simp [e.1.1, e.1.2, e.2]⟩
theorem R_isRim_ok (C : RR h n g X Y) (G : GC n g X Y) {s p : Nat} (hs : s < 4096) (hp : p < n) : f_R_isRim (nI p) (nI s) h = some (if rimB n X Y s p then 1 else 0) := by
  rw [R_isRim_ok' C G hs hp, rim_eq G hp]
  rfl
/-- the rim of a set -/
def hl (n : Nat) (X Y : Nat → Int) (s : Nat) : Nat := bs (fun p => s.testBit p && rimB n X Y s p) n
theorem hl_lt (s : Nat) : hl n X Y s < 2 ^ n := bs_lt _ n
theorem hl_bit {s p : Nat} (hp : p < n) : (hl n X Y s).testBit p = (s.testBit p && rimB n X Y s p) := by
  unfold hl
  rw [bs_bit, decide_eq_true hp]
  rfl
theorem rimOf_ok (C : CC h o n g X Y) (G : GC n g X Y) {s : Nat} (hs : s < 4096) : f_Hulls_rimOf o (nI s) h = some (nI (hl n X Y s)) := by
  have hn := G.1
  unfold f_Hulls_rimOf hl
  exact lp_bs (f := fun t => f_Hulls_rimOf_L1 o (nI s) h t.1 t.2) _ (fun a => a) hn (fun p hp a => by
    show f_Hulls_rimOf_L1 o (nI s) h a (nI p) = _
    unfold f_Hulls_rimOf_L1
    rw [C.1, if_neg (lt_no hp (by omega)), bit_ok (by omega) (by omega), isOnRim_ok C G hs hp]
    simp only [Option.bind_some]
    cases s.testBit p
    · simp
    · cases rimB n X Y s p <;> simp) (fun a => by
    show f_Hulls_rimOf_L1 o (nI s) h a (nI n) = _
    unfold f_Hulls_rimOf_L1
    rw [C.1, if_pos (ge_yes (Nat.le_refl _) (by omega))])
theorem hullOf_ok (C : RR h n g X Y) (G : GC n g X Y) {s : Nat} (hs : s < 4096) : f_R_hullOf (nI s) h = some (nI (hl n X Y s)) := by
  have hn := G.1
  unfold f_R_hullOf hl
  exact lp_bs (f := fun t => f_R_hullOf_L1 (nI s) h t.1 t.2) _ (fun a => a) hn (fun p hp a => by
    show f_R_hullOf_L1 (nI s) h a (nI p) = _
    unfold f_R_hullOf_L1 f_R_all
    rw [C.1, if_neg (lt_no hp (by omega)), has_ok (by omega) (by omega), R_isRim_ok C G hs hp]
    simp only [Option.bind_some]
    cases s.testBit p
    · simp
    · cases rimB n X Y s p <;> simp) (fun a => by
    show f_R_hullOf_L1 (nI s) h a (nI n) = _
    unfold f_R_hullOf_L1 f_R_all
    rw [C.1, if_pos (ge_yes (Nat.le_refl _) (by omega))])
/-- between two of t -/
def bt2 (X Y : Nat → Int) (t p q r : Nat) : Bool := decide (q ≠ p) && decide (r ≠ p) && t.testBit q && t.testBit r && decide (T3 X Y p q r = 0 ∧ DT3 X Y p q r < 0)
def btB (n : Nat) (X Y : Nat → Int) (t p : Nat) : Bool := ex (fun q => ex (fun i => bt2 X Y t p q (q + 1 + i)) (n - (q + 1))) n
theorem DT3_in (G : GC n g X Y) {p q r : Nat} (hp : p < n) (hq : q < n) (hr : r < n) : -100000 ≤ DT3 X Y p q r ∧ DT3 X Y p q r ≤ 100000 := by
  obtain ⟨-, -, B, -⟩ := G
  have b1 := B p hp
  have b2 := B q hq
  have b3 := B r hr
  have m1 := mul_b (a := X p - X q) (b := X p - X r) (A := 100) (B := 100) (by omega) (by omega)
  have m2 := mul_b (a := Y p - Y q) (b := Y p - Y r) (A := 100) (B := 100) (by omega) (by omega)
  unfold DT3
  omega
theorem wayAlong_ok (C : CC h o n g X Y) (hn : n ≤ 12) {p q r : Nat} (hp : p < n) (hq : q < n) (hr : r < n) : f_Cloud_wayAlong o (nI p) (nI q) (nI r) h = some (iI (DT3 X Y p q r)) := by
  unfold f_Cloud_wayAlong
  rw [if_neg (gd (by omega) (by omega)), if_neg (gd (by omega) (by omega)), if_neg (gd (by omega) (by omega)), cla (by omega), cla (by omega), cla (by omega), (C.2.2 p hp).1, (C.2.2 p hp).2, (C.2.2 q hq).1, (C.2.2 q hq).2, (C.2.2 r hr).1, (C.2.2 r hr).2, iI_sub, iI_sub, iI_sub, iI_sub, iI_mul, iI_mul, iI_add]
  unfold DT3
  congr 2
  grind
theorem isBtw_ok (C : CC h o n g X Y) (G : GC n g X Y) {t p : Nat} (ht : t < 4096) (hp : p < n) : f_Hulls_isBetweenOthers o (nI t) (nI p) h = some (if btB n X Y t p then 1 else 0) := by
  have hn := G.1
  unfold f_Hulls_isBetweenOthers btB
  refine lp_any (f := fun s => f_Hulls_isBetweenOthers_L1 o (nI t) (nI p) h s) (fun k => nI k) _ n (fun q hq => ?_) (by
    show f_Hulls_isBetweenOthers_L1 o (nI t) (nI p) h (nI n) = _
    unfold f_Hulls_isBetweenOthers_L1
    rw [C.1, if_pos (ge_yes (Nat.le_refl _) (by omega))]) (by unfold lpN; omega)
  show f_Hulls_isBetweenOthers_L1 o (nI t) (nI p) h (nI q) = _
  unfold f_Hulls_isBetweenOthers_L1
  rw [C.1, if_neg (lt_no hq (by omega)), nI_1]
  have := lp_any (f := fun s => f_Hulls_isBetweenOthers_L2 o (nI t) (nI p) (nI q) h s) (fun i => nI (q + 1 + i)) (fun i => bt2 X Y t p q (q + 1 + i)) (n - (q + 1)) (r1 := .inr 1) (r0 := .inl (nI (q + 1))) (fun i hi => by
    show f_Hulls_isBetweenOthers_L2 o (nI t) (nI p) (nI q) h (nI (q + 1 + i)) = some (if bt2 X Y t p q (q + 1 + i) then .inr (.inr 1) else .inl (nI (q + 1 + i + 1)))
    have hr : q + 1 + i < n := by omega
    generalize q + 1 + i = r at hr ⊢
    unfold f_Hulls_isBetweenOthers_L2 bt2
    have b1 := DT3_in G hp hq hr
    have hD : (0 ≤ DT3 X Y p q r) ↔ ¬ (DT3 X Y p q r < 0) := by omega
    rw [C.1, if_neg (lt_no hr (by omega)), nI_1, bit_ok (by omega) (by omega), bit_ok (by omega) (by omega), turnOf_ok C hn hp hq hr, wayAlong_ok C hn hp hq hr]
    simp only [Option.bind_some]
    simp only [e0 (InR_100 (T3_in G hp hq hr)), ge0 (InR_100 b1), nI_eqI (show q ≤ 100000 by omega) (show p ≤ 100000 by omega), nI_eqI (show r ≤ 100000 by omega) (show p ≤ 100000 by omega), hD]
    by_cases e1 : q = p
    · rw [if_pos e1]; simp [e1]
    by_cases e2 : r = p
    · rw [if_neg e1, if_pos e2]; simp [e2]
    rw [if_neg e1, if_neg e2]
    cases t.testBit q
    · simp
    cases t.testBit r
    · simp
    rw [if_pos (by rfl), if_pos (by rfl)]
    by_cases e3 : T3 X Y p q r = 0
    · rw [if_pos e3]
      by_cases e4 : DT3 X Y p q r < 0
      · rw [if_neg (by simpa using e4)]
        simp [e1, e2, e3, e4]
      · rw [if_pos e4]
        simp [e4]
    · rw [if_neg e3]
      simp [e3]) (by
    show f_Hulls_isBetweenOthers_L2 o (nI t) (nI p) (nI q) h (nI (q + 1 + (n - (q + 1)))) = _
    unfold f_Hulls_isBetweenOthers_L2
    rw [show q + 1 + (n - (q + 1)) = n by omega, C.1, if_pos (ge_yes (Nat.le_refl _) (by omega)), nI_1]) (by unfold lpN; omega)
  rw [show lp (fun s => f_Hulls_isBetweenOthers_L2 o (nI t) (nI p) (nI q) h s) lpN (nI (q + 1)) = _ from this]
theorem DT3_self (p q : Nat) : 0 ≤ DT3 X Y p q q := by
  unfold DT3
  have h1 : 0 ≤ (X p - X q) * (X p - X q) := by
    rcases Int.le_total 0 (X p - X q) with e | e
    · exact Int.mul_nonneg e e
    · exact Int.mul_nonneg_of_nonpos_of_nonpos e e
  have h2 : 0 ≤ (Y p - Y q) * (Y p - Y q) := by
    rcases Int.le_total 0 (Y p - Y q) with e | e
    · exact Int.mul_nonneg e e
    · exact Int.mul_nonneg_of_nonpos_of_nonpos e e
  omega
theorem bt2_sym (t p q r : Nat) : bt2 X Y t p q r = bt2 X Y t p r q := by
  unfold bt2
  have e1 : T3 X Y p q r = 0 ↔ T3 X Y p r q = 0 := by
    have : T3 X Y p r q = - T3 X Y p q r := by unfold T3 TR; grind
    omega
  have e2 : DT3 X Y p q r = DT3 X Y p r q := by unfold DT3; grind
  rw [e2]
  simp only [e1]
  cases decide (q ≠ p) <;> cases decide (r ≠ p) <;> cases t.testBit q <;> cases t.testBit r <;> simp
theorem bt2_self (t p q : Nat) : bt2 X Y t p q q = false := by
  unfold bt2
  have := DT3_self (X := X) (Y := Y) p q
  have : ¬ DT3 X Y p q q < 0 := by omega
  simp [this]
theorem btB_iff {t p : Nat} : btB n X Y t p = true ↔ ∃ q r, q < n ∧ r < n ∧ bt2 X Y t p q r = true := by
  unfold btB
  rw [ex_iff]
  constructor
  · rintro ⟨q, hq, e⟩
    obtain ⟨i, hi, e⟩ := ex_iff.mp e
    exact ⟨q, q + 1 + i, hq, by omega, e⟩
  · rintro ⟨q, r, hq, hr, e⟩
    rcases Nat.lt_trichotomy q r with l | l | l
    · exact ⟨q, hq, ex_iff.mpr ⟨r - (q + 1), by omega, by rw [show q + 1 + (r - (q + 1)) = r by omega]; exact e⟩⟩
    · subst l
      rw [bt2_self] at e
      exact absurd e (by decide)
    · exact ⟨r, hr, ex_iff.mpr ⟨q - (r + 1), by omega, by rw [show r + 1 + (q - (r + 1)) = q by omega, bt2_sym]; exact e⟩⟩
/-- the corners of a set -/
def co (n : Nat) (X Y : Nat → Int) (s : Nat) : Nat := bs (fun p => (hl n X Y s).testBit p && !btB n X Y (hl n X Y s) p) n
theorem co_lt (s : Nat) : co n X Y s < 2 ^ n := bs_lt _ n
theorem co_bit {s p : Nat} (hp : p < n) : (co n X Y s).testBit p = ((hl n X Y s).testBit p && !btB n X Y (hl n X Y s) p) := by
  unfold co
  rw [bs_bit, decide_eq_true hp]
  rfl
theorem cornersOf_ok (C : CC h o n g X Y) (G : GC n g X Y) {s : Nat} (hs : s < 4096) : f_Hulls_cornersOf o (nI s) h = some (nI (co n X Y s)) := by
  have hn := G.1
  have hl4 : hl n X Y s < 4096 := Nat.lt_of_lt_of_le (hl_lt s) (p12 hn)
  unfold f_Hulls_cornersOf co
  rw [rimOf_ok C G hs]
  simp only [Option.bind_some]
  exact lp_bs (f := fun t => f_Hulls_cornersOf_L1 o (nI (hl n X Y s)) h t.1 t.2) _ (fun a => a) hn (fun p hp a => by
    show f_Hulls_cornersOf_L1 o (nI (hl n X Y s)) h a (nI p) = _
    unfold f_Hulls_cornersOf_L1
    rw [C.1, if_neg (lt_no hp (by omega)), bit_ok (by omega) (by omega), isBtw_ok C G hl4 hp]
    simp only [Option.bind_some]
    cases (hl n X Y s).testBit p
    · simp
    · cases btB n X Y (hl n X Y s) p <;> simp) (fun a => by
    show f_Hulls_cornersOf_L1 o (nI (hl n X Y s)) h a (nI n) = _
    unfold f_Hulls_cornersOf_L1
    rw [C.1, if_pos (ge_yes (Nat.le_refl _) (by omega))])
def bwB (X Y : Nat → Int) (p q r : Nat) : Bool := decide (q ≠ p) && decide (r ≠ p) && decide (T3 X Y p q r = 0 ∧ DT3 X Y p q r < 0)
theorem bt2_bw (t p q r : Nat) : bt2 X Y t p q r = (t.testBit q && t.testBit r && bwB X Y p q r) := by
  unfold bt2 bwB
  cases decide (q ≠ p) <;> cases decide (r ≠ p) <;> cases t.testBit q <;> cases t.testBit r <;> simp
theorem T3_rot (p q r : Nat) : T3 X Y q r p = T3 X Y p q r := by unfold T3 TR; grind
theorem T3_swap (p q r : Nat) : T3 X Y p r q = - T3 X Y p q r := by unfold T3 TR; grind
theorem R_isBetween_ok (C : RR h n g X Y) (G : GC n g X Y) {p q r : Nat} (hp : p < n) (hq : q < n) (hr : r < n) : f_R_isBetween (nI p) (nI q) (nI r) h = some (if bwB X Y p q r then 1 else 0) := by
  have hn := G.1
  unfold f_R_isBetween bwB
  have t1 : InR (sgn (T3 X Y p q r)) := by
    rcases sgn_in (T3 X Y p q r) with e | e | e <;> rw [e] <;> unfold InR <;> omega
  have b1 := InR_100 (DT3_in G hp hq hr)
  have hD : (0 ≤ DT3 X Y p q r) ↔ ¬ (DT3 X Y p q r < 0) := by omega
  rw [R_sideOf_ok C G hq hr hp, T3_rot, R_x_ok C hn hp, R_x_ok C hn hq, R_x_ok C hn hr, R_y_ok C hn hp, R_y_ok C hn hq, R_y_ok C hn hr]
  simp only [Option.bind_some]
  rw [iI_sub, iI_sub, iI_sub, iI_sub, iI_mul, iI_mul, iI_add, show (X p - X q) * (X p - X r) + (Y p - Y q) * (Y p - Y r) = DT3 X Y p q r from rfl]
  simp only [e0 t1, ge0 b1, nI_eqI (show p ≤ 100000 by omega) (show q ≤ 100000 by omega), nI_eqI (show p ≤ 100000 by omega) (show r ≤ 100000 by omega), nI_eqI (show q ≤ 100000 by omega) (show r ≤ 100000 by omega), sgn_0, hD]
  by_cases e1 : p = q
  · rw [if_pos e1]
    simp [e1]
  by_cases e2 : p = r
  · rw [if_neg e1, if_pos e2]
    simp [e2]
  have e1' : ¬ q = p := fun e => e1 e.symm
  have e2' : ¬ r = p := fun e => e2 e.symm
  by_cases e3 : q = r
  · subst e3
    have := DT3_self (X := X) (Y := Y) p q
    have : ¬ DT3 X Y p q q < 0 := by omega
    rw [if_neg e1, if_neg e2, if_pos rfl]
    simp [this]
  rw [if_neg e1, if_neg e2, if_neg e3]
  by_cases e4 : T3 X Y p q r = 0
  · rw [if_pos e4]
    by_cases e5 : DT3 X Y p q r < 0
    · rw [if_neg (by simpa using e5)]
      simp [e1', e2', e4, e5]
    · rw [if_pos e5]
      simp [e5]
  · rw [if_neg e4]
    simp [e4]
end HU
