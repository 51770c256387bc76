/-! layers -/
section LY
variable {n g : Nat} {X Y : Nat → Int} {h : pH} {o : Nat}
/-- what is left below so many layers -/
def ly (n : Nat) (X Y : Nat → Int) : Nat → Nat
  | 0 => 2 ^ n - 1
  | k + 1 => mns (ly n X Y k) (hl n X Y (ly n X Y k))
theorem ly_lt (k : Nat) : ly n X Y k < 2 ^ n := by
  induction k with
  | zero => have : 0 < 2 ^ n := Nat.two_pow_pos n; show 2 ^ n - 1 < 2 ^ n; omega
  | succ k ih => exact mns_lt _ ih
theorem ly_4 (hn : n ≤ 12) (k : Nat) : ly n X Y k < 4096 := Nat.lt_of_lt_of_le (ly_lt k) (p12 hn)
theorem hl_4 (hn : n ≤ 12) (s : Nat) : hl n X Y s < 4096 := Nat.lt_of_lt_of_le (hl_lt s) (p12 hn)
theorem ly_less (G : GC n g X Y) {k : Nat} (h0 : ly n X Y k ≠ 0) : pct (ly n X Y (k + 1)) < pct (ly n X Y k) := by
  have hn := G.1
  rw [pct_ctn (ly_4 hn _), pct_ctn (ly_4 hn _)]
  obtain ⟨p, hp, hb⟩ := hl_some G (ly_lt k) h0
  have hb' := hb
  rw [hl_bit hp, Bool.and_eq_true] at hb'
  refine ctn_lt (j := p) (fun i _ => ?_) (by omega) ?_ hb'.1
  · show (mns (ly n X Y k) (hl n X Y (ly n X Y k))).testBit i = true → _
    rw [mns_bit, Bool.and_eq_true]
    exact fun e => e.1
  · show (mns (ly n X Y k) (hl n X Y (ly n X Y k))).testBit p = false
    rw [mns_bit, hb]
    simp
theorem layers_K (G : GC n g X Y) : ∃ K, K ≤ 12 ∧ (∀ i, i < K → ly n X Y i ≠ 0) ∧ ly n X Y K = 0 := by
  by_cases q : ∃ k, k ≤ 12 ∧ ly n X Y k = 0
  · obtain ⟨K, ⟨h1, h2⟩, h3⟩ := pk_least (fun k => k ≤ 12 ∧ ly n X Y k = 0) q
    exact ⟨K, h1, fun i hi e => h3 i hi ⟨by omega, e⟩, h2⟩
  · exfalso
    have : ∀ k, k ≤ 13 → pct (ly n X Y k) + k ≤ 12 := by
      intro k
      induction k with
      | zero => intro _; exact pct_le _
      | succ k ih =>
        intro hk
        have a := ih (by omega)
        have b := ly_less G (k := k) (fun e => q ⟨k, by omega, e⟩)
        omega
    have := this 13 (by omega)
    omega
theorem peel_ok (C : CC h o n g X Y) (G : GC n g X Y) (ho : o ∉ [14, 15]) (ho0 : rf o 0 ∉ [14, 15]) (ho1 : rf o 1 ∉ [14, 15]) {K : Nat} (hK : K ≤ 12) (h1 : ∀ i, i < K → ly n X Y i ≠ 0) (h2 : ly n X Y K = 0) : ∃ h', f_Hulls_peel o h = some h' ∧ Fs [14, 15] h h' ∧ hI h' 14 2 = nI K ∧ ∀ i, i < K → hI h' 15 i = nI (hl n X Y (ly n X Y i)) := by
  have hn := G.1
  unfold f_Hulls_peel
  rw [every_ok C hn]
  refine lp_inv (f := fun s => f_Hulls_peel_L1 o s.1 s.2.1 s.2.2) (fun k s => s.1 = nI (ly n X Y k) ∧ s.2.1 = nI k ∧ Fs [14, 15] h s.2.2 ∧ hI s.2.2 14 2 = nI k ∧ ∀ i, i < k → hI s.2.2 15 i = nI (hl n X Y (ly n X Y i))) _ K ?_ ?_ ⟨rfl, rfl, Fs.rfl'.set (by decide), by rw [hI_s]; rfl, fun i hi => by omega⟩ (by unfold lpN; omega)
  · rintro k ⟨a, b, h'⟩ hk ⟨rfl, rfl, d1, d2, d3⟩
    have d1 : Fs [14, 15] h h' := d1
    have d2 : hI h' 14 2 = nI k := d2
    have d3 : ∀ i, i < k → hI h' 15 i = nI (hl n X Y (ly n X Y i)) := d3
    have C' := C.fs d1 ho ho0 ho1
    show ∃ s', f_Hulls_peel_L1 o (nI (ly n X Y k)) (nI k) h' = some (.inl s') ∧ _
    unfold f_Hulls_peel_L1
    rw [show (12 : Int32) = nI 12 from rfl, if_neg (lt_no (by omega) (by omega)), if_neg (fun e => h1 k hk ((nI_z (ly_4 hn k)).mp e)), rimOf_ok C' G (ly_4 hn k)]
    simp only [Option.bind_some]
    rw [if_neg (gd (by omega) (by omega)), cla (by omega), hI_s, andn_ok, nI_1]
    refine ⟨_, rfl, rfl, rfl, (d1.set (by decide)).set (by decide), ?_, ?_⟩
    · show hI (sI (sI h' 15 k _) 14 2 _) 14 2 = _
      rw [hI_s, hI_n (by omega), d2, nI_1]
    · intro i hi
      show hI (sI (sI h' 15 k _) 14 2 _) 15 i = _
      rw [hI_n (by omega)]
      by_cases e : i = k
      · subst e; rw [hI_s]
      · rw [hI_n (by omega)]
        exact d3 i (by omega)
  · rintro ⟨a, b, h'⟩ ⟨rfl, rfl, d1, d2, d3⟩
    have d1 : Fs [14, 15] h h' := d1
    have d2 : hI h' 14 2 = nI K := d2
    have d3 : ∀ i, i < K → hI h' 15 i = nI (hl n X Y (ly n X Y i)) := d3
    show ∃ r, f_Hulls_peel_L1 o (nI (ly n X Y K)) (nI K) h' = some (.inr r) ∧ _
    unfold f_Hulls_peel_L1
    rw [h2]
    by_cases e : K = 12
    · rw [if_pos (by rw [e]; exact ge_yes (n := 12) (Nat.le_refl _) (by omega))]
      exact ⟨_, rfl, d1, d2, d3⟩
    · rw [show (12 : Int32) = nI 12 from rfl, if_neg (lt_no (by omega) (by omega)), if_pos (show nI 0 = 0 from rfl)]
      exact ⟨_, rfl, d1, d2, d3⟩
theorem laysLayers_ok (C : RR h n g X Y) (G : GC n g X Y) {K : Nat} (hK : K ≤ 12) (h1 : ∀ i, i < K → ly n X Y i ≠ 0) (h2 : ly n X Y K = 0) : ∃ h', f_R_laysLayers h = some (nI K, h') ∧ Fs [94] h h' ∧ ∀ i, i < K → hI h' 94 i = nI (hl n X Y (ly n X Y i)) := by
  have hn := G.1
  unfold f_R_laysLayers
  rw [full_ok C hn]
  obtain ⟨r, e1, e2, e3, e4⟩ := lp_inv (f := fun s => f_R_laysLayers_L1 s.1 s.2.1 s.2.2) (fun k s => s.1 = nI k ∧ s.2.1 = nI (ly n X Y k) ∧ Fs [94] h s.2.2 ∧ ∀ i, i < k → hI s.2.2 94 i = nI (hl n X Y (ly n X Y i))) (fun r => r.1 = nI K ∧ Fs [94] h r.2 ∧ ∀ i, i < K → hI r.2 94 i = nI (hl n X Y (ly n X Y i))) K (by
    rintro k ⟨a, b, h'⟩ hk ⟨rfl, rfl, d1, d3⟩
    have d1 : Fs [94] h h' := d1
    have d3 : ∀ i, i < k → hI h' 94 i = nI (hl n X Y (ly n X Y i)) := d3
    have C' := C.fs d1 (by decide)
    show ∃ s', f_R_laysLayers_L1 (nI k) (nI (ly n X Y k)) h' = some (.inl s') ∧ _
    unfold f_R_laysLayers_L1
    rw [if_neg (fun e => h1 k hk ((nI_z (ly_4 hn k)).mp e)), hullOf_ok C' G (ly_4 hn k)]
    simp only [Option.bind_some]
    rw [if_neg (gd (by omega) (by omega)), cla (by omega), hI_s, andn_ok, nI_1]
    refine ⟨_, rfl, rfl, rfl, d1.set (by decide), ?_⟩
    intro i hi
    show hI (sI h' 94 k _) 94 i = _
    by_cases e : i = k
    · subst e; rw [hI_s]
    · rw [hI_n (by omega)]
      exact d3 i (by omega)) (by
    rintro ⟨a, b, h'⟩ ⟨rfl, rfl, d1, d3⟩
    have d1 : Fs [94] h h' := d1
    have d3 : ∀ i, i < K → hI h' 94 i = nI (hl n X Y (ly n X Y i)) := d3
    show ∃ r, f_R_laysLayers_L1 (nI K) (nI (ly n X Y K)) h' = some (.inr r) ∧ _
    unfold f_R_laysLayers_L1
    rw [h2, if_pos (show nI 0 = 0 from rfl)]
    exact ⟨_, rfl, rfl, d1, d3⟩) (n := lpN) (s := (0, nI (2 ^ n - 1), h)) ⟨rfl, rfl, Fs.rfl', fun i hi => by omega⟩ (by unfold lpN; omega)
  obtain ⟨r1, r2⟩ := r
  have e2 : r1 = nI K := e2
  subst e2
  exact ⟨r2, e1, e3, e4⟩
/-- every point lies in a layer -/
theorem in_layer {p : Nat} (hp : p < n) : ∀ k, (ly n X Y k).testBit p = true ∨ ∃ i, i < k ∧ (hl n X Y (ly n X Y i)).testBit p = true := by
  intro k
  induction k with
  | zero =>
    left
    show (2 ^ n - 1).testBit p = true
    rw [Nat.testBit_two_pow_sub_one]
    exact decide_eq_true hp
  | succ k ih =>
    rcases ih with e | ⟨i, hi, e⟩
    · cases q : (hl n X Y (ly n X Y k)).testBit p with
      | true => exact Or.inr ⟨k, by omega, q⟩
      | false =>
        left
        show (mns (ly n X Y k) (hl n X Y (ly n X Y k))).testBit p = true
        rw [mns_bit, e, q]
        rfl
    · exact Or.inr ⟨i, by omega, e⟩
theorem layerWith_ok {K p : Nat} (hK : K ≤ 12) (hn : n ≤ 12) (hp : p < n) (h2 : ly n X Y K = 0) (d2 : hI h 14 2 = nI K) (d3 : ∀ i, i < K → hI h 15 i = nI (hl n X Y (ly n X Y i))) {h' : pH} (d4 : ∀ i, i < K → hI h' 94 i = nI (hl n X Y (ly n X Y i))) : ∃ j, j < K ∧ f_Hulls_layerWith (nI p) h = some (nI j) ∧ lp (fun s => f_R_layerOf_L1 (nI p) (nI K) h' s) lpN 0 = some (nI j, h') := by
  have hx : ∃ i, i < K ∧ (hl n X Y (ly n X Y i)).testBit p = true := by
    rcases in_layer (X := X) (Y := Y) hp K with e | e
    · rw [h2, Nat.zero_testBit] at e
      exact absurd e (by decide)
    · exact e
  obtain ⟨j, ⟨hj, hb⟩, hl0⟩ := pk_least (fun i => i < K ∧ (hl n X Y (ly n X Y i)).testBit p = true) hx
  have hf : ∀ i, i < j → (hl n X Y (ly n X Y i)).testBit p = false := fun i hi => by
    cases q : (hl n X Y (ly n X Y i)).testBit p with
    | false => rfl
    | true => exact absurd ⟨by omega, q⟩ (hl0 i hi)
  have h4 := fun i => hl_4 (X := X) (Y := Y) hn (ly n X Y i)
  refine ⟨j, hj, ?_, ?_⟩
  · unfold f_Hulls_layerWith
    refine lp_run (f := fun s => f_Hulls_layerWith_L1 (nI p) h s) (fun k => nI k) j (fun k hk => ?_) ?_ (n := lpN) (by unfold lpN; omega)
    · show f_Hulls_layerWith_L1 (nI p) h (nI k) = _
      unfold f_Hulls_layerWith_L1
      have := h4 k
      rw [d2, if_neg (lt_no (by omega) (by omega)), if_neg (gd (by omega) (by omega)), cla (by omega), d3 k (by omega), bit_ok (by omega) (by omega), hf k hk, nI_1]
      rfl
    · show f_Hulls_layerWith_L1 (nI p) h (nI j) = _
      unfold f_Hulls_layerWith_L1
      have := h4 j
      rw [d2, if_neg (lt_no (by omega) (by omega)), if_neg (gd (by omega) (by omega)), cla (by omega), d3 j (by omega), bit_ok (by omega) (by omega), hb]
      rfl
  · refine lp_run (f := fun s => f_R_layerOf_L1 (nI p) (nI K) h' s) (fun k => nI k) j (fun k hk => ?_) ?_ (n := lpN) (by unfold lpN; omega)
    · show f_R_layerOf_L1 (nI p) (nI K) h' (nI k) = _
      unfold f_R_layerOf_L1
      have := h4 k
      rw [if_neg (lt_no (by omega) (by omega)), if_neg (gd (by omega) (by omega)), cla (by omega), d4 k (by omega), has_ok (by omega) (by omega), hf k hk, nI_1]
      rfl
    · show f_R_layerOf_L1 (nI p) (nI K) h' (nI j) = _
      unfold f_R_layerOf_L1
      have := h4 j
      rw [if_neg (lt_no (by omega) (by omega)), if_neg (gd (by omega) (by omega)), cla (by omega), d4 j (by omega), has_ok (by omega) (by omega), hb]
      rfl
end LY
section RD
variable {KC KD KE : pH → Cfg → Prop}
theorem rd_go2 (hKC : Kst KC) (hKD : Kst KD) (hKE : Kst KE) {k : Nat} {h : pH} (H : JJ KC KD KE k h) {f : Option (Int32 × pH)} {g : pH → Option (Int32 × pH)} (L M : List Nat) (hA : ∀ o, o ∈ L → o < 79 ∧ ∀ k, ¬ Rc o k) (hB : ∀ o, o ∈ M → 79 ≤ o ∧ o ≠ 86 ∧ ∀ k, ¬ Rr o k) (W : ∀ c, GCc c → CCc h 8 c → RRc h c → ∃ v h1, f = some (v, h1) ∧ Fs L h h1 ∧ ∃ h2, g h1 = some (v, h2) ∧ Fs M h1 h2) : ∃ v h1 h2, f = some (v, h1) ∧ g h1 = some (v, h2) ∧ JJ KC KD KE (k + 1) h2 := by
  obtain ⟨c, und, P, S, len, B, pl, gs, vc, vr⟩ := H
  obtain ⟨v, h1, e1, f1, h2, e2, f2⟩ := W c gs.1 vc.cc vr.1
  refine ⟨v, h1, h2, e1, e2, c, und, P, S, len, B, pl, gs, ?_, ?_⟩
  · refine vc.ag hKC hKD hKE (by omega) (fun o k hr => ?_)
    rw [f2.1 o k (fun x => by have := (hB o x).1; have := Rc_lt hr; omega), f1.1 o k (fun x => (hA o x).2 k hr)]
  · refine vr.ag gs (fun o k hr => ?_) (fun k => ?_)
    · rw [f2.1 o k (fun x => (hB o x).2.2 k hr), f1.1 o k (fun x => by have := (hA o x).1; have := Rr_ge hr; omega)]
    · unfold hL
      rw [f2.2, f1.2]
theorem lt0x (x : Int32) : x < 0 ↔ x.toInt < 0 := by
  rw [iI_of x, show (0 : Int32) = iI 0 from rfl, iI_lt (InR_of x) (by unfold InR; omega), iI_toInt (InR_of x)]
theorem le_x (K : Nat) (hK : K ≤ 100000) (x : Int32) : nI K ≤ x ↔ (K : Int) ≤ x.toInt := by
  rw [iI_of x, nI_iI, iI_le (by unfold InR; omega) (InR_of x), iI_toInt (InR_of x)]
theorem in_idx (x : Int32) {K : Nat} (hK : K ≤ 100000) : f_R_in x 0 (nI K - 1) = if 0 ≤ x.toInt ∧ x.toInt < K then 1 else 0 := by
  rw [nI_iI, show (1 : Int32) = iI 1 from rfl, iI_sub, show (0 : Int32) = iI 0 from rfl, in_ok x (by unfold InR; omega) (by unfold InR; omega)]
  by_cases e : 0 ≤ x.toInt ∧ x.toInt < K
  · rw [if_pos e, if_pos (by omega)]
    rfl
  · rw [if_neg e, if_neg (by omega)]
    rfl
theorem sp_layer (hKC : Kst KC) (hKD : Kst KD) (hKE : Kst KE) : Sp_layer (JJ KC KD KE) := by
  intro k h _ H a0
  refine rd_go2 hKC hKD hKE H (f := f_C_layer a0 h) (g := f_R_layer a0) [14, 15] [94] (by
    intro o ho
    simp only [List.mem_cons, List.not_mem_nil, or_false] at ho
    exact ⟨by omega, fun k hr => by unfold Rc Pl Pu Ps Pt at hr; omega⟩) (by
    intro o ho
    simp only [List.mem_cons, List.not_mem_nil, or_false] at ho
    exact ⟨by omega, by omega, fun k hr => by unfold Rr Qu Qs Qt at hr; omega⟩) (fun c G C R => ?_)
  obtain ⟨K, hK, z1, z2⟩ := layers_K G
  obtain ⟨h1, e1, f1, d2, d3⟩ := peel_ok C G (by decide) (by rw [rf8_0]; decide) (by rw [rf8_1]; decide) hK z1 z2
  obtain ⟨h2, e2, f2, d4⟩ := laysLayers_ok (RR.fs R f1 (by decide)) G hK z1 z2
  unfold f_C_layer f_R_layer
  rw [e1]
  simp only [Option.bind_some]
  by_cases q1 : a0 = -1
  · rw [if_pos q1, d2]
    refine ⟨nI K, h1, rfl, f1, h2, ?_, f2⟩
    rw [e2]
    simp only [Option.bind_some]
    rw [if_pos q1]
  · rw [if_neg q1, d2]
    simp only [lt0x, le_x K (by omega)]
    by_cases q2 : 0 ≤ a0.toInt ∧ a0.toInt < K
    · obtain ⟨i, hi, rfl⟩ := pt_nat q2.1 q2.2
      rw [if_neg (by omega), if_neg (by omega)]
      unfold f_Hulls_layerBits
      rw [d2]
      simp only [lt0x, le_x K (by omega)]
      rw [if_neg (by omega), if_neg (by omega), cla (by omega), if_neg (by omega), d3 i hi]
      refine ⟨_, h1, rfl, f1, h2, ?_, f2⟩
      rw [e2]
      simp only [Option.bind_some]
      rw [if_neg q1, in_idx _ (by omega), if_pos q2, if_neg (by decide), if_neg (by omega), d4 i hi]
    · refine ⟨-1, h1, ?_, f1, h2, ?_, f2⟩
      · by_cases q3 : a0.toInt < 0
        · rw [if_pos q3]
        · rw [if_neg q3, if_pos (by omega)]
      · rw [e2]
        simp only [Option.bind_some]
        rw [if_neg q1, in_idx _ (by omega), if_neg q2, if_pos rfl]
end RD
