/-! the class takes what a token means -/
def Ft (h h' : pH) : Prop := (∀ o k, o ≠ 3 → o ≠ 4 → o ≠ 5 → o ≠ 6 → hI h' o k = hI h o k) ∧ (∀ k, k ≠ 1 → k ≠ 4 → k ≠ 8 → k ≠ 9 → hI h' 3 k = hI h 3 k) ∧ ∀ o k, o ≠ 7 → hL h' o k = hL h o k
theorem Ft.rfl' {h : pH} : Ft h h := ⟨fun _ _ _ _ _ _ => rfl, fun _ _ _ _ _ => rfl, fun _ _ _ => rfl⟩
theorem Ft.trans {a b c : pH} (A : Ft a b) (B : Ft b c) : Ft a c := ⟨fun o k x y z w => (B.1 o k x y z w).trans (A.1 o k x y z w), fun k x y z w => (B.2.1 k x y z w).trans (A.2.1 k x y z w), fun o k x => (B.2.2 o k x).trans (A.2.2 o k x)⟩
theorem Ft.set {h h' : pH} (A : Ft h h') {k : Nat} {v : Int32} (hk : k = 1 ∨ k = 4 ∨ k = 8 ∨ k = 9) : Ft h (sI h' 3 k v) := ⟨fun o j x y z w => by rw [hI_n (by omega)]; exact A.1 o j x y z w, fun j x y z w => by rw [hI_n (by omega)]; exact A.2.1 j x y z w, fun o j x => A.2.2 o j x⟩
theorem Ft.set4 {h h' : pH} (A : Ft h h') {o k : Nat} {v : Int32} (ho : o = 4 ∨ o = 5 ∨ o = 6) : Ft h (sI h' o k v) := ⟨fun o j x y z w => by rw [hI_n (by omega)]; exact A.1 o j x y z w, fun j x y z w => by rw [hI_n (by omega)]; exact A.2.1 j x y z w, fun o j x => A.2.2 o j x⟩
theorem Ft.setL {h h' : pH} (A : Ft h h') {k : Nat} {v : Int64} : Ft h (sL h' 7 k v) := ⟨fun o j x y z w => A.1 o j x y z w, fun j x y z w => A.2.1 j x y z w, fun o j x => by rw [hL_sL, if_neg (by omega)]; exact A.2.2 o j x⟩
theorem CC4 {h h' : pH} {c : Cfg} (A : ∀ o k, o = 4 ∨ o = 5 ∨ o = 6 → hI h' o k = hI h o k) (C : CCc h 4 c) : CCc h' 4 c := by
  obtain ⟨a, b, d⟩ := C
  refine ⟨by rw [A 4 2 (by omega)]; exact a, by rw [A 4 3 (by omega)]; exact b, fun i hi => ?_⟩
  have := d i hi
  rw [Ob4.1, Ob4.2.1] at this ⊢
  rw [A 5 i (by omega), A 6 i (by omega)]
  exact this
def SfM (st : Nat) (S : SFt) (h : pH) : Prop := S.1 ≤ 5 ∧ hI h 3 4 = nI S.1 ∧ hI h 3 1 = (if S.1 = 0 then -1 else nI S.2.1) ∧ (S.1 = 0 → CCc h 4 S.2.2.1 ∧ (∀ i, i < S.2.2.1.1 → hL h 7 i = S.2.2.2.1 i) ∧ (2 ≤ st ∧ st ≤ 5 → hL h 7 S.2.2.1.1 = S.2.2.2.1 S.2.2.1.1) ∧ (st = 4 ∨ st = 5 → hI h 3 8 = iI S.2.2.2.2.1) ∧ hI h 3 9 = if S.2.2.2.2.2 then 1 else 0)
theorem SfM.bad {st f pl : Nat} {c : Cfg} {W : Nat → Int64} {x : Int} {m : Bool} {h : pH} (h0 : f ≠ 0) (h5 : f ≤ 5) (a : hI h 3 4 = nI f) (b : hI h 3 1 = nI pl) : SfM st (f, pl, c, W, x, m) h := ⟨h5, a, by rw [if_neg h0]; exact b, fun q => absurd q h0⟩
theorem SfM.good {st pl : Nat} {c : Cfg} {W : Nat → Int64} {x : Int} {m : Bool} {h : pH} (a : hI h 3 4 = 0) (b : hI h 3 1 = -1) (C : CCc h 4 c) (n1 : ∀ i, i < c.1 → hL h 7 i = W i) (n2 : 2 ≤ st ∧ st ≤ 5 → hL h 7 c.1 = W c.1) (hx : st = 4 ∨ st = 5 → hI h 3 8 = iI x) (hm : hI h 3 9 = if m then 1 else 0) : SfM st (0, pl, c, W, x, m) h := ⟨Nat.zero_le _, a, b, fun _ => ⟨C, n1, n2, hx, hm⟩⟩
section TN
variable {h : pH} {c : Cfg} {W : Nat → Int64}
theorem takeName_ok {p : Nat} {w : Int64} (C : CCc h 4 c) (hc : c.1 < 12) (n1 : ∀ i, i < c.1 → hL h 7 i = W i) (e2 : hI h 1 2 = nI p) (e5 : hL h 1 5 = w) : ∃ h', f_TextReader_takeName h = some h' ∧ Ft h h' ∧ (∀ o k, o ≠ 3 → hI h' o k = hI h o k) ∧ (hI h' 3 8 = hI h 3 8 ∧ hI h' 3 9 = hI h 3 9) ∧ (∀ k, hL h' 7 k = if k = c.1 then w else hL h 7 k) ∧ (if ex (fun i => decide (W i = w)) c.1 then hI h' 3 4 = 3 ∧ hI h' 3 1 = nI p else hI h' 3 4 = hI h 3 4 ∧ hI h' 3 1 = hI h 3 1) := by
  unfold f_TextReader_takeName
  have c2 : hI h 4 2 = nI c.1 := C.1
  refine lp_inv (f := fun s => f_TextReader_takeName_L1 s.1 s.2) (fun k s => s.1 = nI k ∧ Ft h s.2 ∧ (∀ o k, o ≠ 3 → hI s.2 o k = hI h o k) ∧ (hI s.2 3 8 = hI h 3 8 ∧ hI s.2 3 9 = hI h 3 9) ∧ (∀ o k, hL s.2 o k = hL h o k) ∧ (if ex (fun i => decide (W i = w)) k then hI s.2 3 4 = 3 ∧ hI s.2 3 1 = nI p else hI s.2 3 4 = hI h 3 4 ∧ hI s.2 3 1 = hI h 3 1)) _ c.1 ?_ ?_ ⟨rfl, Ft.rfl', fun _ _ _ => rfl, ⟨rfl, rfl⟩, fun _ _ => rfl, rfl, rfl⟩ (by unfold lpN; omega)
  · rintro k ⟨x, h'⟩ hk ⟨rfl, d1, d2, d3, d4, d5⟩
    have d1 : Ft h h' := d1
    have d2 : ∀ o k, o ≠ 3 → hI h' o k = hI h o k := d2
    have d3 : hI h' 3 8 = hI h 3 8 ∧ hI h' 3 9 = hI h 3 9 := d3
    have d4 : ∀ o k, hL h' o k = hL h o k := d4
    have d5 : if ex (fun i => decide (W i = w)) k then hI h' 3 4 = 3 ∧ hI h' 3 1 = nI p else hI h' 3 4 = hI h 3 4 ∧ hI h' 3 1 = hI h 3 1 := d5
    show ∃ s', f_TextReader_takeName_L1 (nI k) h' = some (.inl s') ∧ _
    unfold f_TextReader_takeName_L1 f_TextReader_endWith
    rw [d2 4 2 (by omega), c2, if_neg (lt_no hk (by omega)), if_neg (gd (by omega) (by omega)), cla (by omega), d4, d4, d2 1 2 (by omega), e2, e5, n1 k hk, nI_1]
    simp only [lg_cmp_eq]
    by_cases q : W k = w
    · rw [if_pos q]
      refine ⟨_, rfl, rfl, (d1.set (by omega)).set (by omega), fun o j ho => ?_, ⟨?_, ?_⟩, fun o j => d4 o j, ?_⟩
      · show hI (sI (sI h' 3 4 3) 3 1 (nI p)) o j = _
        rw [hI_n (by omega), hI_n (by omega)]; exact d2 o j ho
      · show hI (sI (sI h' 3 4 3) 3 1 (nI p)) 3 8 = _
        rw [hI_n (by omega), hI_n (by omega)]; exact d3.1
      · show hI (sI (sI h' 3 4 3) 3 1 (nI p)) 3 9 = _
        rw [hI_n (by omega), hI_n (by omega)]; exact d3.2
      · rw [if_pos (ex_iff.mpr ⟨k, by omega, by simpa using q⟩)]
        show hI (sI (sI h' 3 4 3) 3 1 (nI p)) 3 4 = 3 ∧ hI (sI (sI h' 3 4 3) 3 1 (nI p)) 3 1 = nI p
        exact ⟨by rw [hI_n (by omega), hI_s], hI_s⟩
    · rw [if_neg q]
      refine ⟨_, rfl, rfl, d1, d2, d3, d4, ?_⟩
      have : ex (fun i => decide (W i = w)) (k + 1) = ex (fun i => decide (W i = w)) k := by
        show (_ || _) = _
        simp [q]
      rw [this]
      exact d5
  · rintro ⟨x, h'⟩ ⟨rfl, d1, d2, d3, d4, d5⟩
    have d1 : Ft h h' := d1
    have d2 : ∀ o k, o ≠ 3 → hI h' o k = hI h o k := d2
    have d4 : ∀ o k, hL h' o k = hL h o k := d4
    show ∃ s', f_TextReader_takeName_L1 (nI c.1) h' = some (.inr s') ∧ _
    unfold f_TextReader_takeName_L1
    rw [d2 4 2 (by omega), c2, if_pos (ge_yes (Nat.le_refl _) (by omega)), if_neg (show ¬ (12 : Int32) ≤ nI c.1 from lt_no (n := 12) hc (by omega)), if_neg (gd (by omega) (by omega)), cla (by omega), d4 1 5, e5]
    refine ⟨_, rfl, d1.setL, d2, d3, fun k => ?_, d5⟩
    rw [hL_sL, d4]
    by_cases e : k = c.1
    · rw [if_pos ⟨rfl, e⟩, if_pos e]
    · rw [if_neg (fun q => e q.2), if_neg e]
theorem nIv (v : Nat) : -(nI v) = iI (-(v : Int)) := by rw [nI_iI, iI_neg]
theorem takeNumber_ok {st np p pl : Nat} {z x : Int} {m : Bool} (hs : st = 2 ∨ st = 3 ∨ st = 4 ∨ st = 5 ∨ st = 6) (es : hI h 3 5 = nI st) (e2 : hI h 1 2 = nI p) (hz : -10000 ≤ z ∧ z ≤ 10000) (M : SfM st (0, pl, c, W, x, m) h) (I : SfI st np (0, pl, c, W, x, m)) (hn : np ≤ 12) : ∃ h', f_TextReader_takeNumber (iI z) h = some h' ∧ Ft h h' ∧ SfM (if st = 2 ∨ st = 3 then 4 else 7) (numS st p z pl c W x) (sI h' 3 9 0) := by
  obtain ⟨-, m4, m1, M⟩ := M
  obtain ⟨C, n1, n2, mx, mm⟩ := M rfl
  obtain ⟨G, e, hx, hm⟩ := I rfl
  have m4 : hI h 3 4 = 0 := m4
  have m1 : hI h 3 1 = -1 := m1
  have C : CCc h 4 c := C
  have n1 : ∀ i, i < c.1 → hL h 7 i = W i := n1
  have n2 : 2 ≤ st ∧ st ≤ 5 → hL h 7 c.1 = W c.1 := n2
  have mx : st = 4 ∨ st = 5 → hI h 3 8 = iI x := mx
  have e : np = c.1 + (if 1 ≤ st ∧ st ≤ 5 then 1 else 0) := e
  have hx : st = 4 ∨ st = 5 → -50 ≤ x ∧ x ≤ 50 := hx
  have zR : InR z := by unfold InR; omega
  have bad : ∀ f s, f ≠ 0 → f ≤ 5 → Ft h ((f_TextReader_endWith (nI f) (nI p) h).2) ∧ SfM s (f, p, c, W, x, false) (sI ((f_TextReader_endWith (nI f) (nI p) h).2) 3 9 0) := by
    intro f s h0 h5
    unfold f_TextReader_endWith
    refine ⟨(Ft.rfl'.set (by omega)).set (by omega), SfM.bad h0 h5 ?_ ?_⟩
    · rw [hI_n (by omega), hI_n (by omega), hI_s]
    · rw [hI_n (by omega), hI_s]
  unfold f_TextReader_takeNumber
  rw [es, show (6 : Int32) = nI 6 from rfl, e2]
  simp only [nI_eqI (show st ≤ 100000 by omega) (show 6 ≤ 100000 by omega)]
  by_cases s6 : st = 6
  · subst s6
    rw [if_pos rfl, numS_g, if_neg (show ¬ ((6 : Nat) = 2 ∨ (6 : Nat) = 3) by decide)]
    unfold f_TextReader_takeGrid f_TextReader_takeGrid_J1
    rw [e2, show (1 : Int32) = iI 1 from rfl, show (20 : Int32) = iI 20 from rfl]
    simp only [iI_lt zR (show InR 1 by unfold InR; omega), iI_le zR (show InR 20 by unfold InR; omega)]
    by_cases c1 : z < 1
    · rw [if_pos c1, if_neg (show ¬ (1 ≤ z ∧ z ≤ 20) by omega)]
      exact ⟨_, rfl, bad 5 _ (by decide) (by decide)⟩
    · rw [if_neg c1]
      by_cases c2 : z ≤ 20
      · rw [if_pos c2, if_pos (show 1 ≤ z ∧ z ≤ 20 by omega)]
        refine ⟨_, rfl, Ft.rfl'.set4 (by omega), SfM.good ?_ ?_ ⟨?_, ?_, fun i hi => ?_⟩ n1 (fun q => absurd q (by decide)) (fun q => absurd q (by decide)) hI_s⟩
        · rw [hI_n (by omega), hI_n (by omega)]; exact m4
        · rw [hI_n (by omega), hI_n (by omega)]; exact m1
        · rw [hI_n (by omega), hI_n (by omega)]; exact C.1
        · rw [hI_n (by omega), hI_s, nI_iI]
          show iI z = iI ((z.toNat : Nat) : Int)
          congr 1; omega
        · have := C.2.2 i hi
          rw [Ob4.1, Ob4.2.1] at this ⊢
          rw [hI_n (by omega), hI_n (by omega), hI_n (by omega), hI_n (by omega)]
          exact this
      · rw [if_neg c2, if_neg (show ¬ (1 ≤ z ∧ z ≤ 20) by omega)]
        exact ⟨_, rfl, bad 5 _ (by decide) (by decide)⟩
  · rw [if_neg s6, reach_ok, iI_toInt zR, show (2 : Int32) = nI 2 from rfl, show (3 : Int32) = nI 3 from rfl]
    simp only [nI_eqI (show st ≤ 100000 by omega) (show 2 ≤ 100000 by omega), nI_eqI (show st ≤ 100000 by omega) (show 3 ≤ 100000 by omega)]
    by_cases r : -50 ≤ z ∧ z ≤ 50
    · rw [if_pos r, if_neg (show ¬ (1 : Int32) = 0 by decide)]
      by_cases sx : st = 2 ∨ st = 3
      · have fin : Ft h (sI h 3 8 (iI z)) ∧ SfM (if st = 2 ∨ st = 3 then 4 else 7) (numS st p z pl c W x) (sI (sI h 3 8 (iI z)) 3 9 0) := by
          rw [numS_x sx, if_pos r, if_pos sx]
          refine ⟨Ft.rfl'.set (by omega), SfM.good ?_ ?_ (CC4 (fun o k q => ?_) C) n1 (fun _ => n2 (by omega)) (fun _ => ?_) hI_s⟩
          · rw [hI_n (by omega), hI_n (by omega)]; exact m4
          · rw [hI_n (by omega), hI_n (by omega)]; exact m1
          · rw [hI_n (by omega), hI_n (by omega)]
          · rw [hI_n (by omega), hI_s]
        by_cases s2 : st = 2
        · rw [if_pos s2]
          exact ⟨_, rfl, fin⟩
        · rw [if_neg s2, if_pos (show st = 3 by omega)]
          exact ⟨_, rfl, fin⟩
      · have sy : st = 4 ∨ st = 5 := by omega
        rw [if_neg (show ¬ st = 2 by omega), if_neg (show ¬ st = 3 by omega), mx sy, isFree_ok C G, iI_toInt zR, iI_toInt (show InR x by have := hx sy; unfold InR; omega), numS_y sy, if_pos r, if_neg sx]
        simp only [Option.bind_some]
        rw [if_pos (show 1 ≤ st ∧ st ≤ 5 by omega)] at e
        by_cases y : frB c x z = true
        · rw [if_pos y, if_neg (show ¬ (1 : Int32) = 0 by decide), if_pos y]
          obtain ⟨h', a1, a2, a3, a4⟩ := append_ok Ob4 C (by omega) x z
          rw [a1]
          have lv : ∀ o k, hL h' o k = hL h o k := fun o k => by unfold hL; rw [a4.2]
          refine ⟨h', rfl, ⟨fun o k x y z w => a4.1 o k y z w, fun k _ _ _ _ => a4.1 3 k (by omega) (by omega) (by omega), fun o k _ => lv o k⟩, SfM.good ?_ ?_ (CC4 (fun o k q => ?_) a2) (fun i hi => ?_) (fun q => absurd q (by decide)) (fun q => absurd q (by decide)) hI_s⟩
          · rw [hI_n (by omega), a4.1 3 4 (by omega) (by omega) (by omega)]; exact m4
          · rw [hI_n (by omega), a4.1 3 1 (by omega) (by omega) (by omega)]; exact m1
          · rw [hI_n (by omega)]
          · rw [hL_sI, lv]
            have hi : i < c.1 + 1 := hi
            by_cases ei : i = c.1
            · rw [ei]; exact n2 (by omega)
            · exact n1 i (by omega)
        · rw [if_neg y, if_pos rfl, if_neg y]
          exact ⟨_, rfl, bad 3 _ (by decide) (by decide)⟩
    · rw [if_neg r, if_pos rfl]
      refine ⟨_, rfl, ?_⟩
      have : numS st p z pl c W x = (5, p, c, W, x, false) := by
        unfold numS
        rw [if_neg s6, if_pos r]
      rw [this]
      exact bad 5 _ (by decide) (by decide)
end TN
