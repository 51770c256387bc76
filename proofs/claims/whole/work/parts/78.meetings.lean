/-! the meetings in the reference's heap -/
def SM79 (o k : Nat) : Prop := (o = 79 ∧ k = 31) ∨ o = 96 ∨ o = 97
def ML (h0 h : pH) (l : List (Nat × Nat)) : Prop := Fp SM79 h0 h ∧ hI h 79 31 = nI l.length ∧ ∀ k, k < l.length → hI h 96 k = nI (l.getD k (0, 0)).1 ∧ hI h 97 k = nI (l.getD k (0, 0)).2
theorem meets_ok {h0 h : pH} {l : List (Nat × Nat)} (M : ML h0 h l) (hl : l.length < 900) (a b : Nat) : ∃ h', f_R_meets (nI a) (nI b) h = some h' ∧ ML h0 h' (l ++ [(a, b)]) := by
  obtain ⟨m1, m2, m3⟩ := M
  unfold f_R_meets
  rw [hI_n (h := h) (o := 96) (a := 79) (b := 31) (by omega), hI_n (o := 97) (a := 79) (b := 31) (by omega), hI_n (h := h) (o := 96) (a := 79) (b := 31) (by omega), m2, if_neg (gd hl (by omega)), if_neg (gd hl (by omega)), cla (by omega), nI_1]
  refine ⟨_, rfl, ((m1.set (Or.inr (Or.inl rfl))).set (Or.inr (Or.inr rfl))).set (Or.inl ⟨rfl, rfl⟩), ?_, ?_⟩
  · rw [hI_s, List.length_append]
    rfl
  · intro k hk
    rw [List.length_append] at hk
    have hk : k < l.length + 1 := hk
    by_cases e : k = l.length
    · subst e
      rw [hI_n (by omega), hI_n (by omega), hI_s, hI_n (by omega), hI_s]
      simp [List.getD]
    · have := m3 k (by omega)
      rw [hI_n (by omega), hI_n (by omega), hI_n (by omega), hI_n (by omega), hI_n (by omega), hI_n (by omega), this.1, this.2]
      have e2 : (l ++ [(a, b)]).getD k (0, 0) = l.getD k (0, 0) := by
        simp only [List.getD]
        rw [List.getElem?_append_left (by omega)]
      rw [e2]
      exact ⟨rfl, rfl⟩
/-- a loop that lengthens the list -/
theorem lp_list {ρ : Type} {f : Int32 × pH → Option ((Int32 × pH) ⊕ ρ)} {h0 h : pH} (F : Nat → List (Nat × Nat)) (K : Nat) (l0 : List (Nat × Nat)) (Q : ρ → Prop) (hK : K ≤ 12)
    (hs : ∀ k h' l, k < K → ML h0 h' l → l.length + (F k).length ≤ 899 → ∃ h'', f (nI k, h') = some (.inl (nI (k + 1), h'')) ∧ ML h0 h'' (l ++ F k))
    (hx : ∀ h', ML h0 h' (l0 ++ (List.range K).flatMap F) → ∃ r, f (nI K, h') = some (.inr r) ∧ Q r)
    (M : ML h0 h l0) (hl : l0.length + ((List.range K).flatMap F).length ≤ 899) : ∃ r, lp f lpN (0, h) = some r ∧ Q r := by
  have mono : ∀ k, k ≤ K → ((List.range k).flatMap F).length ≤ ((List.range K).flatMap F).length := by
    intro k hk
    rw [fl_len, fl_len, sm_lt (fun i => (F i).length) K k hk]
    refine sm_mono fun i _ => ?_
    by_cases e : i < k
    · rw [if_pos e]; exact Nat.le_refl _
    · rw [if_neg e]; omega
  refine lp_inv (f := f) (fun k s => s.1 = nI k ∧ ML h0 s.2 (l0 ++ (List.range k).flatMap F)) Q K ?_ ?_ ⟨rfl, by simpa using M⟩ (by unfold lpN; omega)
  · rintro k ⟨a, h'⟩ hk ⟨rfl, d⟩
    have d : ML h0 h' (l0 ++ (List.range k).flatMap F) := d
    have m := mono (k + 1) (by omega)
    rw [fl_succ, List.length_append] at m
    obtain ⟨h'', e1, e2⟩ := hs k h' _ hk d (by rw [List.length_append]; omega)
    refine ⟨_, e1, rfl, ?_⟩
    show ML h0 h'' (l0 ++ (List.range (k + 1)).flatMap F)
    rw [fl_succ, ← List.append_assoc]
    exact e2
  · rintro ⟨a, h'⟩ ⟨rfl, d⟩
    exact hx h' d
section MH
variable {n g : Nat} {X Y : Nat → Int} {h : pH}
theorem sg_in (t : Int) : InR (sgn t) := by
  rcases sgn_in t with e | e | e <;> rw [e] <;> unfold InR <;> omega
theorem R_isWithin_ok (C : RR h n g X Y) (G : GC n g X Y) {p q r s : Nat} (hp : p < n) (hq : q < n) (hr : r < n) (hs : s < n) : f_R_isWithin (nI p) (nI q) (nI r) (nI s) h = some (if wiB X Y p q r s then 1 else 0) := by
  unfold f_R_isWithin wiB
  rw [R_sideOf_ok C G hq hr hp, R_sideOf_ok C G hr hs hp, R_sideOf_ok C G hs hq hp]
  simp only [Option.bind_some]
  simp only [e0 (sg_in _), iI_eq (sg_in _) (sg_in _)]
  generalize T3 X Y q r p = a
  generalize T3 X Y r s p = b
  generalize T3 X Y s q p = c
  unfold sgn
  by_cases a1 : 0 < a
  · by_cases b1 : 0 < b
    · by_cases c1 : 0 < c
      · simp [a1, b1, c1]
      · have a2 : ¬ a < 0 := by omega
        by_cases c2 : c < 0
        · simp [a1, b1, c1, a2, c2]
        · simp [a1, b1, c1, a2, c2]
    · have a2 : ¬ a < 0 := by omega
      by_cases b2 : b < 0
      · simp [a1, b1, b2, a2]
      · simp [a1, b1, b2, a2]
  · by_cases a2 : a < 0
    · by_cases b1 : 0 < b
      · have b2 : ¬ b < 0 := by omega
        simp [a1, a2, b1, b2]
      · by_cases b2 : b < 0
        · by_cases c1 : 0 < c
          · have c2 : ¬ c < 0 := by omega
            simp [a1, a2, b1, b2, c1, c2]
          · by_cases c2 : c < 0
            · simp [a1, a2, b1, b2, c1, c2]
            · simp [a1, a2, b1, b2, c1, c2]
        · simp [a1, a2, b1, b2]
    · simp [a1, a2]
theorem sg_mul (a b : Int) : 0 ≤ iI (sgn a) * iI (sgn b) ↔ ¬ ((0 < a ∧ b < 0) ∨ (a < 0 ∧ 0 < b)) := by
  have h1 := sgn_1 (t := a)
  have h2 := sgn_m (t := a)
  have h3 := sgn_1 (t := b)
  have h4 := sgn_m (t := b)
  have s : InR (sgn a * sgn b) := by
    rcases sgn_in a with e | e | e <;> rcases sgn_in b with e' | e' | e' <;> rw [e, e'] <;> unfold InR <;> omega
  rw [iI_mul, ge0 s]
  rcases sgn_in a with e | e | e <;> rcases sgn_in b with e' | e' | e' <;> rw [e, e'] <;> rw [e] at h1 h2 <;> rw [e'] at h3 h4 <;> omega
theorem R_areAcross_ok (C : RR h n g X Y) (G : GC n g X Y) {p q r s : Nat} (hp : p < n) (hq : q < n) (hr : r < n) (hs : s < n) : f_R_areAcross (nI p) (nI q) (nI r) (nI s) h = some (if acB X Y p q r s then 1 else 0) := by
  unfold f_R_areAcross acB
  rw [R_sideOf_ok C G hp hq hr, R_sideOf_ok C G hp hq hs, R_sideOf_ok C G hr hs hp, R_sideOf_ok C G hr hs hq]
  simp only [Option.bind_some]
  simp only [sg_mul]
  by_cases c1 : (0 < T3 X Y p q r ∧ T3 X Y p q s < 0) ∨ (T3 X Y p q r < 0 ∧ 0 < T3 X Y p q s)
  · rw [if_neg (fun x => x c1)]
    by_cases c2 : (0 < T3 X Y r s p ∧ T3 X Y r s q < 0) ∨ (T3 X Y r s p < 0 ∧ 0 < T3 X Y r s q)
    · rw [if_neg (fun x => x c2), if_pos (by simp [c1, c2])]
    · rw [if_pos c2, if_neg (by simp [c2])]
  · rw [if_pos c1, if_neg (by simp [c1])]
theorem RR.ml {h' : pH} {l : List (Nat × Nat)} (C : RR h n g X Y) (M : ML h h' l) : RR h' n g X Y := C.fp M.1 (fun k e => by unfold SM79 at e; omega)
theorem laysMeetings_ok (C : RR h n g X Y) (G : GC n g X Y) : ∃ h', f_R_laysMeetings h = some h' ∧ ML h h' (mt n X Y) := by
  have hn := G.1
  have hle := mt_le G
  unfold f_R_laysMeetings
  obtain ⟨r, e1, e2⟩ := lp_list (f := fun s => f_R_laysMeetings_L1 s.1 s.2) (h0 := h) (h := sI h 79 31 0) (m1 n X Y) n [] (fun r => ML h r (mt n X Y)) hn (by
    intro p h' l hp M hl
    have C' := C.ml M
    show ∃ h'', f_R_laysMeetings_L1 (nI p) h' = _ ∧ _
    unfold f_R_laysMeetings_L1 f_R_all
    rw [C'.1, if_neg (lt_no hp (by omega))]
    obtain ⟨r, e1, h2, rfl, e2⟩ := lp_list (f := fun s => f_R_laysMeetings_L2 (nI p) s.1 s.2) (h0 := h) (h := h') (m2 X Y p) n l (fun r => ∃ h2, r = .inl (nI (p + 1), h2) ∧ ML h h2 (l ++ m1 n X Y p)) hn (by
      intro q h' l hq M hl
      have C' := C.ml M
      show ∃ h'', f_R_laysMeetings_L2 (nI p) (nI q) h' = _ ∧ _
      unfold f_R_laysMeetings_L2 f_R_all
      rw [C'.1, if_neg (lt_no hq (by omega))]
      obtain ⟨r, e1, h2, rfl, e2⟩ := lp_list (f := fun s => f_R_laysMeetings_L3 (nI p) (nI q) s.1 s.2) (h0 := h) (h := h') (m3 X Y p q) q l (fun r => ∃ h2, r = .inl (nI (q + 1), h2) ∧ ML h h2 (l ++ m2 X Y p q)) (by omega) (by
        intro r h' l hr M hl
        have C' := C.ml M
        have hrn : r < n := by omega
        show ∃ h'', f_R_laysMeetings_L3 (nI p) (nI q) (nI r) h' = _ ∧ _
        have hl' : l.length + ((mBt X Y p q r).length + (mJ X Y p q r).length) ≤ 899 := by
          unfold m3 at hl
          rw [List.length_append] at hl
          exact hl
        -- the middle part
        have J : ∀ h2 l2, ML h h2 l2 → l2.length + (mJ X Y p q r).length ≤ 899 → ∃ h'', f_R_laysMeetings_J4 (nI p) (nI q) (nI r) h2 = some (.inl (nI (r + 1), h'')) ∧ ML h h'' (l2 ++ mJ X Y p q r) := by
          intro h2 l2 M2 hl2
          unfold f_R_laysMeetings_J4
          by_cases z1 : p = q
          · rw [if_pos (by rw [z1]), nI_1]
            refine ⟨h2, rfl, ?_⟩
            unfold mJ
            rw [if_pos (Or.inl z1), List.append_nil]
            exact M2
          rw [if_neg (fun x => z1 ((nI_eqI (by omega) (by omega)).mp x))]
          by_cases z2 : p = r
          · rw [if_pos (by rw [z2]), nI_1]
            refine ⟨h2, rfl, ?_⟩
            unfold mJ
            rw [if_pos (Or.inr z2), List.append_nil]
            exact M2
          rw [if_neg (fun x => z2 ((nI_eqI (by omega) (by omega)).mp x))]
          have eJ : mJ X Y p q r = (List.range r).flatMap (m5 X Y p q r) ++ (List.range p).flatMap (m6 X Y p q r) := by
            unfold mJ
            rw [if_neg (by omega)]
          rw [eJ, List.length_append] at hl2
          rw [eJ]
          obtain ⟨v, w1, h3, rfl, w2⟩ := lp_list (f := fun s => f_R_laysMeetings_L5 (nI p) (nI q) (nI r) s.1 s.2) (h0 := h) (h := h2) (m5 X Y p q r) r l2 (fun v => ∃ h3, v = .inl (nI (r + 1), h3) ∧ ML h h3 (l2 ++ ((List.range r).flatMap (m5 X Y p q r) ++ (List.range p).flatMap (m6 X Y p q r)))) (by omega) (by
            intro s h' l hs M hl
            have C' := C.ml M
            show ∃ h'', f_R_laysMeetings_L5 (nI p) (nI q) (nI r) (nI s) h' = _ ∧ _
            unfold f_R_laysMeetings_L5
            rw [if_neg (lt_no hs (by omega)), nI_1, R_isWithin_ok C' G hp hq hrn (by omega : s < n)]
            simp only [Option.bind_some]
            unfold m5 at hl ⊢
            by_cases y1 : s = p
            · rw [if_pos (by rw [y1]), if_neg (fun x => x.1 y1), List.append_nil]
              exact ⟨h', rfl, M⟩
            rw [if_neg (fun x => y1 ((nI_eqI (by omega) (by omega)).mp x))]
            cases y2 : wiB X Y p q r s with
            | false =>
              rw [if_pos (show (if false = true then (1 : Int32) else 0) = 0 from rfl), if_neg (by simp), List.append_nil]
              exact ⟨h', rfl, M⟩
            | true =>
              rw [y2, if_pos ⟨y1, rfl⟩] at hl
              have hl : l.length + 1 ≤ 899 := hl
              rw [if_pos rfl, if_neg (by decide), if_pos ⟨y1, rfl⟩, jshl_ok p (by omega), jshl_ok q (by omega), jshl_ok r (by omega), jshl_ok s (by omega), nI_or, nI_or]
              obtain ⟨h4, v1, v2⟩ := meets_ok M (by omega) (2 ^ p) (2 ^ q ||| 2 ^ r ||| 2 ^ s)
              rw [v1]
              exact ⟨h4, rfl, v2⟩) (by
            intro h' M
            show ∃ v, f_R_laysMeetings_L5 (nI p) (nI q) (nI r) (nI r) h' = _ ∧ _
            unfold f_R_laysMeetings_L5
            rw [if_pos (ge_yes (Nat.le_refl _) (by omega))]
            obtain ⟨v, w1, h3, rfl, w2⟩ := lp_list (f := fun s => f_R_laysMeetings_L6 (nI p) (nI q) (nI r) s.1 s.2) (h0 := h) (h := h') (m6 X Y p q r) p (l2 ++ (List.range r).flatMap (m5 X Y p q r)) (fun v => ∃ h3, v = .inl (nI (r + 1), h3) ∧ ML h h3 (l2 ++ ((List.range r).flatMap (m5 X Y p q r) ++ (List.range p).flatMap (m6 X Y p q r)))) (by omega) (by
              intro s h' l hs M hl
              have C' := C.ml M
              show ∃ h'', f_R_laysMeetings_L6 (nI p) (nI q) (nI r) (nI s) h' = _ ∧ _
              unfold f_R_laysMeetings_L6
              rw [if_neg (lt_no hs (by omega)), nI_1, R_areAcross_ok C' G (by omega : s < n) hp hrn hq]
              simp only [Option.bind_some]
              unfold m6 at hl ⊢
              by_cases y0 : s < r
              rotate_left
              · rw [if_pos (ge_yes (by omega) (by omega)), if_neg (fun x => y0 x.1), List.append_nil]
                exact ⟨h', rfl, M⟩
              rw [if_neg (lt_no y0 (by omega))]
              by_cases y1 : s = q
              · rw [if_pos (by rw [y1]), if_neg (fun x => x.2.1 y1), List.append_nil]
                exact ⟨h', rfl, M⟩
              rw [if_neg (fun x => y1 ((nI_eqI (by omega) (by omega)).mp x))]
              cases y2 : acB X Y s p r q with
              | false =>
                rw [if_pos (show (if false = true then (1 : Int32) else 0) = 0 from rfl), if_neg (by simp), List.append_nil]
                exact ⟨h', rfl, M⟩
              | true =>
                rw [y2, if_pos ⟨y0, y1, rfl⟩] at hl
                have hl : l.length + 1 ≤ 899 := hl
                rw [if_pos rfl, if_neg (by decide), if_pos ⟨y0, y1, rfl⟩, jshl_ok p (by omega), jshl_ok q (by omega), jshl_ok r (by omega), jshl_ok s (by omega), nI_or, nI_or]
                obtain ⟨h4, v1, v2⟩ := meets_ok M (by omega) (2 ^ s ||| 2 ^ p) (2 ^ r ||| 2 ^ q)
                rw [v1]
                exact ⟨h4, rfl, v2⟩) (by
              intro h' M
              show ∃ v, f_R_laysMeetings_L6 (nI p) (nI q) (nI r) (nI p) h' = _ ∧ _
              unfold f_R_laysMeetings_L6
              rw [if_pos (ge_yes (Nat.le_refl _) (by omega)), nI_1]
              rw [List.append_assoc] at M
              exact ⟨_, rfl, h', rfl, M⟩) M (by rw [List.length_append]; omega)
            rw [w1]
            exact ⟨_, rfl, h3, rfl, w2⟩) M2 (by omega)
          exact ⟨h3, w1, w2⟩
        unfold f_R_laysMeetings_L3
        rw [if_neg (lt_no hr (by omega)), R_isBetween_ok C' G hp hq hrn]
        simp only [Option.bind_some]
        unfold m3
        rw [← List.append_assoc]
        cases y : bwB X Y p q r with
        | false =>
          rw [if_pos (show (if false = true then (1 : Int32) else 0) = 0 from rfl)]
          have eB : mBt X Y p q r = [] := by unfold mBt; rw [if_neg (by rw [y]; decide)]
          rw [eB, List.append_nil]
          exact J h' l M (by omega)
        | true =>
          rw [if_pos rfl, if_neg (by decide), jshl_ok p (by omega), jshl_ok q (by omega), jshl_ok r (by omega), nI_or]
          have eB : mBt X Y p q r = [(2 ^ p, 2 ^ q ||| 2 ^ r)] := by unfold mBt; rw [if_pos y]
          rw [eB] at hl' ⊢
          have hl' : l.length + (1 + (mJ X Y p q r).length) ≤ 899 := hl'
          obtain ⟨h4, v1, v2⟩ := meets_ok M (by omega) (2 ^ p) (2 ^ q ||| 2 ^ r)
          rw [v1]
          exact J h4 _ v2 (by rw [List.length_append]; show l.length + 1 + _ ≤ 899; omega)) (by
        intro h' M
        show ∃ r, f_R_laysMeetings_L3 (nI p) (nI q) (nI q) h' = _ ∧ _
        unfold f_R_laysMeetings_L3
        rw [if_pos (ge_yes (Nat.le_refl _) (by omega)), nI_1]
        exact ⟨_, rfl, h', rfl, M⟩) M hl
      exact ⟨h2, e1, e2⟩) (by
      intro h' M
      have C' := C.ml M
      show ∃ r, f_R_laysMeetings_L2 (nI p) (nI n) h' = _ ∧ _
      unfold f_R_laysMeetings_L2 f_R_all
      rw [C'.1, if_pos (ge_yes (Nat.le_refl _) (by omega)), nI_1]
      exact ⟨_, rfl, h', rfl, M⟩) M hl
    exact ⟨h2, e1, e2⟩) (by
    intro h' M
    have C' := C.ml M
    show ∃ r, f_R_laysMeetings_L1 (nI n) h' = _ ∧ _
    unfold f_R_laysMeetings_L1 f_R_all
    rw [C'.1, if_pos (ge_yes (Nat.le_refl _) (by omega))]
    exact ⟨_, rfl, M⟩) ⟨Fp.rfl'.set (Or.inl ⟨rfl, rfl⟩), by rw [hI_s]; rfl, fun k hk => absurd hk (by simp)⟩ (by
    show 0 + (mt n X Y).length ≤ 899
    omega)
  exact ⟨r, e1, e2⟩
end MH
