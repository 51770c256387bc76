/-! the fit in the class; the call fit -/
section F6
variable {n g : Nat} {X Y : Nat → Int} {h h0 : pH}
def gF (n : Nat) (X Y : Nat → Int) (a b x : Int) : Nat := min (ctn (oneP X Y a b x) n) (ctn (othP X Y a b x) n)
def gdB (X : Nat → Int) (n i : Nat) : Bool := decide (i + 1 = n) || decide (X (sgm X n (i + 1)) ≠ X (sgm X n i))
theorem gdB_iff {i : Nat} : gdB X n i = true ↔ gend X n i := by
  unfold gdB gend
  rw [Bool.or_eq_true, decide_eq_true_iff, decide_eq_true_iff]
def lcv (n : Nat) (X Y : Nat → Int) (a b : Int) : Nat → Nat
  | 0 => min (ctn (uA X Y a b) n) (ctn (uB X Y a b) n)
  | i + 1 => if gdB X n i then min (lcv n X Y a b i) (gF n X Y a b (X (sgm X n i))) else lcv n X Y a b i
theorem lcv_le (a b : Int) : ∀ i, lcv n X Y a b i ≤ min (ctn (uA X Y a b) n) (ctn (uB X Y a b) n) := by
  intro i
  induction i with
  | zero => exact Nat.le_refl _
  | succ i ih =>
    unfold lcv
    split
    · exact Nat.le_trans (Nat.min_le_left _ _) ih
    · exact ih
theorem lcv_mono (a b : Int) {i : Nat} : ∀ j, i ≤ j → lcv n X Y a b j ≤ lcv n X Y a b i := by
  intro j
  induction j with
  | zero => intro hj; rw [show i = 0 by omega]; exact Nat.le_refl _
  | succ j ih =>
    intro hj
    by_cases e : i = j + 1
    · subst e; exact Nat.le_refl _
    · refine Nat.le_trans ?_ (ih (by omega))
      show (if gdB X n j then min (lcv n X Y a b j) _ else lcv n X Y a b j) ≤ _
      split
      · exact Nat.min_le_left _ _
      · exact Nat.le_refl _
theorem lcv_end (a b : Int) {i : Nat} (hi : i < n) (he : gend X n i) : lcv n X Y a b n ≤ gF n X Y a b (X (sgm X n i)) := by
  refine Nat.le_trans (lcv_mono a b n (show i + 1 ≤ n by omega)) ?_
  show (if gdB X n i then min (lcv n X Y a b i) _ else lcv n X Y a b i) ≤ _
  rw [if_pos (gdB_iff.mpr he)]
  exact Nat.min_le_right _ _
theorem lcv_ge (a b : Int) {v : Nat} (h1 : v ≤ min (ctn (uA X Y a b) n) (ctn (uB X Y a b) n)) (h2 : ∀ i, i < n → v ≤ gF n X Y a b (X (sgm X n i))) : ∀ i, i ≤ n → v ≤ lcv n X Y a b i := by
  intro i
  induction i with
  | zero => intro _; exact h1
  | succ i ih =>
    intro hi
    unfold lcv
    have a1 := ih (by omega)
    have a2 := h2 i (by omega)
    split
    · omega
    · exact a1
theorem grp_end : ∀ d j, j + d + 1 = n → ∃ i, i < n ∧ X (sgm X n i) = X (sgm X n j) ∧ gend X n i := by
  intro d
  induction d with
  | zero => intro j hj; exact ⟨j, by omega, rfl, Or.inl (by omega)⟩
  | succ d ih =>
    intro j hj
    by_cases e : X (sgm X n (j + 1)) = X (sgm X n j)
    · obtain ⟨i, h1, h2, h3⟩ := ih (j + 1) (by omega)
      exact ⟨i, h1, h2.trans e, h3⟩
    · exact ⟨j, by omega, rfl, Or.inr e⟩
theorem fbv_ge (a b : Int) {v : Nat} (h1 : v ≤ min n (min (ctn (uB X Y a b) n) (ctn (uA X Y a b) n))) (h2 : ∀ c, c < n → v ≤ gF n X Y a b (X c)) : ∀ c, c ≤ n → v ≤ fbv n X Y a b c := by
  intro c
  induction c with
  | zero => intro _; exact h1
  | succ c ih =>
    intro hc
    have a1 := ih (by omega)
    have a2 := h2 c (by omega)
    show v ≤ min (fbv n X Y a b c) (gF n X Y a b (X c))
    omega
theorem fbv_le0 (a b : Int) : ∀ c, fbv n X Y a b c ≤ min n (min (ctn (uB X Y a b) n) (ctn (uA X Y a b) n)) := by
  intro c
  induction c with
  | zero => exact Nat.le_refl _
  | succ c ih => exact Nat.le_trans (Nat.min_le_left _ _) ih
theorem fbv_at (a b : Int) {c : Nat} : ∀ d, c < d → fbv n X Y a b d ≤ gF n X Y a b (X c) := by
  intro d
  induction d with
  | zero => intro hc; omega
  | succ d ih =>
    intro hc
    show min (fbv n X Y a b d) (gF n X Y a b (X d)) ≤ _
    by_cases e : c = d
    · subst e; exact Nat.min_le_right _ _
    · exact Nat.le_trans (Nat.min_le_left _ _) (ih (by omega))
theorem lcv_fit (a b : Int) : lcv n X Y a b n = fitV n X Y a b := by
  have t1 := ctn_le (uA X Y a b) n
  have t2 := ctn_le (uB X Y a b) n
  apply Nat.le_antisymm
  · refine fbv_ge a b ?_ (fun c hc => ?_) n (Nat.le_refl _)
    · have := lcv_le (n := n) (X := X) (Y := Y) a b n
      omega
    · obtain ⟨j, hj, e⟩ := sgm_on X hc
      obtain ⟨i, h1, h2, h3⟩ := grp_end (X := X) (n := n) (n - 1 - j) j (by omega)
      have := lcv_end (Y := Y) a b h1 h3
      rw [h2, e] at this
      exact this
  · refine lcv_ge a b ?_ (fun i hi => fbv_at a b n (sgm_lt X n i hi)) n (Nat.le_refl _)
    have := fbv_le0 (n := n) (X := X) (Y := Y) a b n
    omega
theorem lcv_12 (hn : n ≤ 12) (a b : Int) (i : Nat) : lcv n X Y a b i ≤ 12 := by
  have t1 := ctn_le (uA X Y a b) n
  have := lcv_le (n := n) (X := X) (Y := Y) a b i
  omega
theorem fitOf_ok (C : CC h 8 n g X Y) (G : GC n g X Y) (A : ∀ k, k < n → hI h 27 k = nI (sgm X n k)) {a b : Int} (ha : -100 ≤ a ∧ a ≤ 100) (hb : -10000 ≤ b ∧ b ≤ 10000) : f_Fits_fitOf 8 (iI a) (iI b) h = some (nI (fitV n X Y a b)) := by
  have hn := G.1
  unfold f_Fits_fitOf
  have tA := ctn_le (uA X Y a b) n
  have tB := ctn_le (uB X Y a b) n
  have L3 : lp (fun s => f_Fits_fitOf_L3 8 (iI a) (iI b) h s.1 s.2.1 s.2.2.1 s.2.2.2.1 s.2.2.2.2.1 s.2.2.2.2.2) lpN (nI (ctn (uA X Y a b) n), nI (ctn (uB X Y a b) n), nI (min (ctn (uA X Y a b) n) (ctn (uB X Y a b) n)), 0, 0, 0) = some (nI (lcv n X Y a b n)) := by
    refine lp_run (f := fun s => f_Fits_fitOf_L3 8 (iI a) (iI b) h s.1 s.2.1 s.2.2.1 s.2.2.2.1 s.2.2.2.2.1 s.2.2.2.2.2) (fun i => (nI (ctn (uA X Y a b) n - AL X n (uA X Y a b) i), nI (ctn (uB X Y a b) n - AL X n (uB X Y a b) i), nI (lcv n X Y a b i), nI (AL X n (uA X Y a b) i), nI (AL X n (uB X Y a b) i), nI i)) n (fun i hi => ?_) ?_ (n := lpN) (by unfold lpN; omega)
    · show f_Fits_fitOf_L3 8 (iI a) (iI b) h (nI (ctn (uA X Y a b) n - AL X n (uA X Y a b) i)) (nI (ctn (uB X Y a b) n - AL X n (uB X Y a b) i)) (nI (lcv n X Y a b i)) (nI (AL X n (uA X Y a b) i)) (nI (AL X n (uB X Y a b) i)) (nI i) = some (.inl (nI (ctn (uA X Y a b) n - AL X n (uA X Y a b) (i + 1)), nI (ctn (uB X Y a b) n - AL X n (uB X Y a b) (i + 1)), nI (lcv n X Y a b (i + 1)), nI (AL X n (uA X Y a b) (i + 1)), nI (AL X n (uB X Y a b) (i + 1)), nI (i + 1)))
      have si := sgm_lt X n i hi
      have rI := rs_in G ha hb si
      have eA : AL X n (uA X Y a b) (i + 1) = AL X n (uA X Y a b) i + (if uA X Y a b (sgm X n i) then 1 else 0) := rfl
      have eB : AL X n (uB X Y a b) (i + 1) = AL X n (uB X Y a b) i + (if uB X Y a b (sgm X n i) then 1 else 0) := rfl
      have lA := AL_le (X := X) (uA X Y a b) (i + 1) (show i + 1 ≤ n by omega)
      have lB := AL_le (X := X) (uB X Y a b) (i + 1) (show i + 1 ≤ n by omega)
      have l12 := lcv_12 (X := X) (Y := Y) hn a b i
      -- the end of a step
      have J : ∀ u w : Nat, AL X n (uA X Y a b) (i + 1) = AL X n (uA X Y a b) i + u → AL X n (uB X Y a b) (i + 1) = AL X n (uB X Y a b) i + w → f_Fits_fitOf_J5 8 (iI a) (iI b) (nI (ctn (uA X Y a b) n - AL X n (uA X Y a b) i)) (nI (ctn (uB X Y a b) n - AL X n (uB X Y a b) i)) (nI (lcv n X Y a b i)) (nI (AL X n (uA X Y a b) i)) (nI (AL X n (uB X Y a b) i)) (nI i) (iI (X (sgm X n i))) (nI u) (nI w) h = some (.inl (nI (ctn (uA X Y a b) n - AL X n (uA X Y a b) (i + 1)), nI (ctn (uB X Y a b) n - AL X n (uB X Y a b) (i + 1)), nI (lcv n X Y a b (i + 1)), nI (AL X n (uA X Y a b) (i + 1)), nI (AL X n (uB X Y a b) (i + 1)), nI (i + 1))) := by
        intro u w hu hw
        have p1 : nI (ctn (uA X Y a b) n - AL X n (uA X Y a b) i) - nI u = nI (ctn (uA X Y a b) n - AL X n (uA X Y a b) (i + 1)) := by rw [pk_sub (by omega)]; congr 1; omega
        have p2 : nI (ctn (uB X Y a b) n - AL X n (uB X Y a b) i) - nI w = nI (ctn (uB X Y a b) n - AL X n (uB X Y a b) (i + 1)) := by rw [pk_sub (by omega)]; congr 1; omega
        have p3 : nI (AL X n (uA X Y a b) i) + nI u = nI (AL X n (uA X Y a b) (i + 1)) := by rw [nI_add, hu]
        have p4 : nI (AL X n (uB X Y a b) i) + nI w = nI (AL X n (uB X Y a b) (i + 1)) := by rw [nI_add, hw]
        unfold f_Fits_fitOf_J5 f_Fits_fitOf_J6
        rw [p1, p2, p3, p4, nI_add, nI_add, nI_1, C.1, jmin_ok (by omega) (by omega), jmin_ok (by omega) (by omega)]
        have gd' : gend X n i → nI (min (lcv n X Y a b i) (min (AL X n (uA X Y a b) (i + 1) + (ctn (uB X Y a b) n - AL X n (uB X Y a b) (i + 1))) (AL X n (uB X Y a b) (i + 1) + (ctn (uA X Y a b) n - AL X n (uA X Y a b) (i + 1))))) = nI (lcv n X Y a b (i + 1)) := by
          intro he
          obtain ⟨q1, q2⟩ := grp_one (Y := Y) a b hi he
          rw [q1, q2]
          congr 1
          show _ = (if gdB X n i then min (lcv n X Y a b i) (gF n X Y a b (X (sgm X n i))) else lcv n X Y a b i)
          rw [if_pos (gdB_iff.mpr he)]
          rfl
        by_cases z : i + 1 = n
        · rw [if_pos (by rw [z]), gd' (Or.inl z)]
        · rw [if_neg (fun e => z ((nI_eqI (by omega) (by omega)).mp e)), if_neg (gd (by omega) (by omega)), cla (k := i + 1) (by omega), A (i + 1) (by omega)]
          have si2 := sgm_lt X n (i + 1) (by omega)
          have b1 := G.2.2.1 _ si
          have b2 := G.2.2.1 _ si2
          rw [if_neg (gd (by omega) (by omega)), cla (k := sgm X n (i + 1)) (by omega), (C.2.2 _ si2).1]
          simp only [iI_eq (show InR (X (sgm X n (i + 1))) by unfold InR; omega) (show InR (X (sgm X n i)) by unfold InR; omega)]
          by_cases y : X (sgm X n (i + 1)) = X (sgm X n i)
          · rw [if_pos y]
            have : lcv n X Y a b (i + 1) = lcv n X Y a b i := by
              show (if gdB X n i then _ else lcv n X Y a b i) = _
              rw [if_neg (fun e => by
                rcases gdB_iff.mp e with q | q
                · exact z q
                · exact q y)]
            rw [this]
          · rw [if_neg y, gd' (Or.inr y)]
      unfold f_Fits_fitOf_L3 f_Fits_fitOf_J4
      rw [C.1, if_neg (lt_no hi (by omega)), if_neg (gd (by omega) (by omega)), cla (k := i) (by omega), A i hi, if_neg (gd (by omega) (by omega)), cla (k := sgm X n i) (by omega), (C.2.2 _ si).1, (C.2.2 _ si).2, iI_mul, iI_sub, iI_sub, show Y (sgm X n i) - a * X (sgm X n i) - b = rs X Y a b (sgm X n i) from rfl]
      simp only [lt0 rI, gt0 rI]
      unfold uA at eA
      unfold uB at eB
      by_cases z1 : rs X Y a b (sgm X n i) < 0
      · rw [if_pos z1, if_neg (show ¬ 0 < rs X Y a b (sgm X n i) by omega)]
        exact J 0 1 (by rw [show AL X n (uA X Y a b) (i + 1) = _ from eA, decide_eq_false (by omega)]; rfl) (by rw [show AL X n (uB X Y a b) (i + 1) = _ from eB, decide_eq_true (by omega)]; rfl)
      · rw [if_neg z1]
        by_cases z2 : 0 < rs X Y a b (sgm X n i)
        · rw [if_pos z2]
          exact J 1 0 (by rw [show AL X n (uA X Y a b) (i + 1) = _ from eA, decide_eq_true (by omega)]; rfl) (by rw [show AL X n (uB X Y a b) (i + 1) = _ from eB, decide_eq_false (by omega)]; rfl)
        · rw [if_neg z2]
          exact J 1 1 (by rw [show AL X n (uA X Y a b) (i + 1) = _ from eA, decide_eq_true (by omega)]; rfl) (by rw [show AL X n (uB X Y a b) (i + 1) = _ from eB, decide_eq_true (by omega)]; rfl)
    · show f_Fits_fitOf_L3 8 (iI a) (iI b) h _ _ (nI (lcv n X Y a b n)) _ _ (nI n) = _
      unfold f_Fits_fitOf_L3
      rw [C.1, if_pos (ge_yes (Nat.le_refl _) (by omega))]
  rw [← lcv_fit]
  refine lp_run (f := fun s => f_Fits_fitOf_L1 8 (iI a) (iI b) h s.1 s.2.1 s.2.2) (fun k => (nI (ctn (uA X Y a b) k), nI (ctn (uB X Y a b) k), nI k)) n (fun p hp => ?_) ?_ (n := lpN) (by unfold lpN; omega)
  · show f_Fits_fitOf_L1 8 (iI a) (iI b) h (nI (ctn (uA X Y a b) p)) (nI (ctn (uB X Y a b) p)) (nI p) = some (.inl (nI (ctn (uA X Y a b) p + if uA X Y a b p then 1 else 0), nI (ctn (uB X Y a b) p + if uB X Y a b p then 1 else 0), nI (p + 1)))
    have rI := rs_in G ha hb hp
    unfold f_Fits_fitOf_L1 f_Fits_fitOf_J2
    rw [C.1, if_neg (lt_no hp (by omega)), if_neg (gd (by omega) (by omega)), cla (by omega), (C.2.2 p hp).1, (C.2.2 p hp).2, iI_mul, iI_sub, iI_sub, show Y p - a * X p - b = rs X Y a b p from rfl, nI_1, nI_1, show nI (ctn (uA X Y a b) p) + 1 = nI (ctn (uA X Y a b) p + 1) from nI_1 _, show nI (ctn (uA X Y a b) p) + 0 = nI (ctn (uA X Y a b) p + 0) from nI_add _ 0, show nI (ctn (uB X Y a b) p) + 0 = nI (ctn (uB X Y a b) p + 0) from nI_add _ 0]
    simp only [lt0 rI, gt0 rI]
    by_cases z1 : rs X Y a b p < 0
    · have w1 : uA X Y a b p = false := by unfold uA; rw [decide_eq_false]; omega
      have w2 : uB X Y a b p = true := by unfold uB; rw [decide_eq_true]; omega
      rw [if_pos z1, if_neg (by omega), w1, w2]
      rfl
    · rw [if_neg z1]
      have w1 : uA X Y a b p = true := by unfold uA; rw [decide_eq_true]; omega
      by_cases z2 : 0 < rs X Y a b p
      · have w2 : uB X Y a b p = false := by unfold uB; rw [decide_eq_false]; omega
        rw [if_pos z2, w1, w2]
        rfl
      · have w2 : uB X Y a b p = true := by unfold uB; rw [decide_eq_true]; omega
        rw [if_neg z2, w1, w2]
        rfl
  · show f_Fits_fitOf_L1 8 (iI a) (iI b) h (nI (ctn (uA X Y a b) n)) (nI (ctn (uB X Y a b) n)) (nI n) = _
    unfold f_Fits_fitOf_L1
    rw [C.1, if_pos (ge_yes (Nat.le_refl _) (by omega)), jmin_ok (by omega) (by omega), L3]
    rfl
end F6
section F7
variable {KC KD KE : pH → Cfg → Prop}
theorem sc_27 : ∀ o, o ∈ [27] → o < 79 ∧ ∀ k, ¬ Rc o k := by
  intro o ho
  simp only [List.mem_cons, List.not_mem_nil, or_false] at ho
  exact ⟨by omega, fun k hr => by unfold Rc Pl Pu Ps Pt at hr; omega⟩
theorem sr_102 : ∀ o, o ∈ [102] → 79 ≤ o ∧ o ≠ 86 ∧ ∀ k, ¬ Rr o k := by
  intro o ho
  simp only [List.mem_cons, List.not_mem_nil, or_false] at ho
  exact ⟨by omega, by omega, fun k hr => by unfold Rr Qu Qs Qt at hr; omega⟩
theorem sp_fit (hKC : Kst KC) (hKD : Kst KD) (hKE : Kst KE) : Sp_fit (JJ KC KD KE) := by
  intro k h _ H a0 a1
  refine rd_go2 hKC hKD hKE H (f := f_C_fit a0 a1 h) (g := f_R_fit a0 a1) [27] [102] sc_27 sr_102 (fun c G C R => ?_)
  have t1 : a0 < -100 ↔ a0.toInt < -100 := by
    conv => lhs; rw [iI_of a0, show (-100 : Int32) = iI (-100) from rfl]
    rw [iI_lt (InR_of a0) (by unfold InR; omega)]
  have t2 : 100 < a0 ↔ 100 < a0.toInt := by
    conv => lhs; rw [iI_of a0, show (100 : Int32) = iI 100 from rfl]
    rw [iI_lt (by unfold InR; omega) (InR_of a0)]
  have t3 : a1 < -10000 ↔ a1.toInt < -10000 := by
    conv => lhs; rw [iI_of a1, show (-10000 : Int32) = iI (-10000) from rfl]
    rw [iI_lt (InR_of a1) (by unfold InR; omega)]
  have t4 : a1 ≤ 10000 ↔ a1.toInt ≤ 10000 := by
    conv => lhs; rw [iI_of a1, show (10000 : Int32) = iI 10000 from rfl]
    rw [iI_le (InR_of a1) (by unfold InR; omega)]
  have i1 := in_ok a0 (lo := -100) (hi := 100) (by unfold InR; omega) (by unfold InR; omega)
  have i1 : f_R_in a0 (-100) 100 = if -100 ≤ a0.toInt ∧ a0.toInt ≤ 100 then 1 else 0 := i1
  have i2 := in_ok a1 (lo := -10000) (hi := 10000) (by unfold InR; omega) (by unfold InR; omega)
  have i2 : f_R_in a1 (-10000) 10000 = if -10000 ≤ a1.toInt ∧ a1.toInt ≤ 10000 then 1 else 0 := i2
  unfold f_C_fit f_R_fit
  simp only [t1, t2, t3, t4, i1, i2]
  by_cases z1 : -100 ≤ a0.toInt ∧ a0.toInt ≤ 100
  · by_cases z2 : -10000 ≤ a1.toInt ∧ a1.toInt ≤ 10000
    · obtain ⟨h1, e1, A⟩ := arrange_ok C G
      have C1 : CC h1 8 c.1 c.2.1 c.2.2.1 c.2.2.2 := CC.fs C A.1 (by decide) (by rw [rf8_0]; decide) (by rw [rf8_1]; decide)
      obtain ⟨h2, e2, f2⟩ := R_fitOf_ok (RR.fs R A.1 (by decide)) G z1 z2
      have e3 := fitOf_ok C1 G A.2 z1 z2
      rw [← iI_of, ← iI_of] at e2 e3
      rw [if_neg (by omega), if_neg (by omega), if_neg (by omega), if_pos z2.2, e1, Option.bind_some, e3, Option.bind_some]
      refine ⟨_, h1, rfl, A.1, h2, ?_, f2⟩
      rw [if_pos z1, if_pos z2, if_neg (by decide), if_neg (by decide), e2]
      rfl
    · refine ⟨-1, h, ?_, Fs.rfl', h, ?_, Fs.rfl'⟩
      · rw [if_neg (by omega), if_neg (by omega)]
        by_cases y : a1.toInt < -10000
        · rw [if_pos y]
        · rw [if_neg y, if_neg (by omega)]
      · rw [if_pos z1, if_neg (by decide), if_neg z2, if_pos rfl]
  · refine ⟨-1, h, ?_, Fs.rfl', h, ?_, Fs.rfl'⟩
    · by_cases y : a0.toInt < -100
      · rw [if_pos y]
      · rw [if_neg y, if_pos (by omega)]
    · rw [if_neg z1, if_pos rfl]
end F7
