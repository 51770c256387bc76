/-! turned, sides, edges, halving, halvingBoth -/
/-- two double loops alike -/
theorem lp_dbl {ρ : Type} {f1 g1 : Int32 × Int32 → Option ((Int32 × Int32) ⊕ ρ)} {f2 g2 : Nat → Int32 × Int32 → Option ((Int32 × Int32) ⊕ ((Int32 × Int32) ⊕ ρ))} (lo : Nat → Nat) (n : Nat) (hn : n ≤ 12) (hlo : ∀ p, p < n → lo p ≤ n)
    (hin : ∀ p q a, p < n → lo p ≤ q → q < n → ∃ r, f2 p (a, nI q) = some r ∧ g2 p (a, nI q) = some r ∧ ((∃ a', r = .inl (a', nI (q + 1))) ∨ ∃ v, r = .inr (.inr v)))
    (hinx : ∀ p a, p < n → f2 p (a, nI n) = some (.inr (.inl (a, nI (p + 1)))) ∧ g2 p (a, nI n) = some (.inr (.inl (a, nI (p + 1)))))
    (hout : ∀ p a, p < n → f1 (a, nI p) = lp (f2 p) lpN (a, nI (lo p)) ∧ g1 (a, nI p) = lp (g2 p) lpN (a, nI (lo p)))
    (houtx : ∀ a, ∃ r, f1 (a, nI n) = some (.inr r) ∧ g1 (a, nI n) = some (.inr r)) (a : Int32) : ∃ v, lp f1 lpN (a, 0) = some v ∧ lp g1 lpN (a, 0) = some v := by
  obtain ⟨v, e1, e2, -⟩ := lp_pair (f := f1) (g := g1) 0 n (fun _ => True) (by
    intro p a _ hp
    obtain ⟨e1, e2⟩ := hout p a hp
    obtain ⟨r, d1, d2, q⟩ := lp_pair (f := f2 p) (g := g2 p) (lo p) n (fun r => (∃ a', r = .inl (a', nI (p + 1))) ∨ ∃ v, r = .inr v) (by
      intro q a hl hq
      obtain ⟨r, c1, c2, c3⟩ := hin p q a hp hl hq
      refine ⟨r, c1, c2, ?_⟩
      rcases c3 with c3 | ⟨v, rfl⟩
      · exact Or.inl c3
      · exact Or.inr ⟨_, rfl, Or.inr ⟨v, rfl⟩⟩) (by
      intro a
      obtain ⟨c1, c2⟩ := hinx p a hp
      exact ⟨_, c1, c2, Or.inl ⟨a, rfl⟩⟩) (hlo p hp) hn a
    refine ⟨r, e1.trans d1, e2.trans d2, ?_⟩
    rcases q with ⟨a', rfl⟩ | ⟨v, rfl⟩
    · exact Or.inl ⟨a', rfl⟩
    · exact Or.inr ⟨v, rfl, trivial⟩) (by
    intro a
    obtain ⟨r, e1, e2⟩ := houtx a
    exact ⟨r, e1, e2, trivial⟩) (Nat.zero_le n) hn a
  exact ⟨v, e1, e2⟩
section SD2
variable {KC KD KE : pH → Cfg → Prop} {hKC : Kst KC} {hKD : Kst KD} {hKE : Kst KE}
/-- a reading call: both answer alike whenever both hold the same points -/
theorem rd_go (hKC : Kst KC) (hKD : Kst KD) (hKE : Kst KE) {k : Nat} {h : pH} (H : JJ KC KD KE k h) {f g : Option Int32} (W : ∀ c, GCc c → CCc h 8 c → RRc h c → ∃ v, f = some v ∧ g = some v) : ∃ v, f = some v ∧ g = some v ∧ JJ KC KD KE (k + 1) h := by
  have H2 := H
  obtain ⟨c, und, P, S, len, B, pl, gs, vc, vr⟩ := H
  obtain ⟨v, e1, e2⟩ := W c gs.1 vc.cc vr.1
  exact ⟨v, e1, e2, H2.mono hKC hKD hKE⟩
theorem sideBits_full {h : pH} {c : Cfg} (G : GCc c) (C : CCc h 8 c) (R : RRc h c) {p q : Nat} (hp : p < c.1) (hq : q < c.1) {sd : Int} (hsd : -1 ≤ sd ∧ sd ≤ 1) : f_Cloud_sideBits 8 (nI p) (nI q) (iI sd) h = some (nI (sdS c.1 c.2.2.1 c.2.2.2 p q sd)) ∧ f_R_onSide (nI p) (nI q) (iI sd) (f_R_full h) h = some (nI (sdS c.1 c.2.2.1 c.2.2.2 p q sd)) ∧ sdS c.1 c.2.2.1 c.2.2.2 p q sd < 4096 := by
  have l := full_lt G.1
  refine ⟨sideBits_ok C G hp hq hsd, ?_, Nat.lt_of_lt_of_le (sdS_lt p q sd) (p12 G.1)⟩
  rw [full_ok R G.1, R_onSide_ok R G hp hq (by omega) hsd, and_full (sdS_lt p q sd)]
theorem sp_turned (hKC : Kst KC) (hKD : Kst KD) (hKE : Kst KE) : Sp_turned (JJ KC KD KE) := by
  intro k h _ H a0 a1 a2 a3
  refine rd_go hKC hKD hKE H fun c G C R => ?_
  have hn := G.1
  unfold f_C_turned f_R_turned
  simp only [has_in C hn, isPoint_ok R hn]
  by_cases h0 : 0 ≤ a0.toInt ∧ a0.toInt < c.1
  · by_cases h1 : 0 ≤ a1.toInt ∧ a1.toInt < c.1
    · by_cases h2 : 0 ≤ a2.toInt ∧ a2.toInt < c.1
      · obtain ⟨p, hp, rfl⟩ := pt_nat h0.1 h0.2
        obtain ⟨q, hq, rfl⟩ := pt_nat h1.1 h1.2
        obtain ⟨r, hr, rfl⟩ := pt_nat h2.1 h2.2
        have t := InR_100 (T3_in G hp hq hr)
        rw [if_pos h0, if_pos h1, if_pos h2, if_neg (by decide), if_neg (by decide), if_neg (by decide), if_neg (by decide), if_neg (by decide), if_neg (by decide), turnOf_ok C hn hp hq hr, R_x_ok R hn hr, R_y_ok R hn hr, R_sideOf_ok R G hp hq hr]
        simp only [Option.bind_some]
        rw [R_turnOf_ok R hn hp hq, show f_R_in a3 0 1 = _ from in_ok a3 (lo := 0) (hi := 1) (by unfold InR; omega) (by unfold InR; omega), signOf_ok t]
        simp only [Option.bind_some]
        by_cases e0 : a3 = 0
        · subst e0
          rw [if_pos rfl, if_pos (show 0 ≤ (0 : Int32).toInt ∧ (0 : Int32).toInt ≤ 1 by decide), if_neg (by decide), if_pos rfl]
          exact ⟨_, rfl, rfl⟩
        · rw [if_neg e0, if_neg e0]
          by_cases e1 : a3 = 1
          · subst e1
            rw [if_pos rfl, if_pos (show 0 ≤ (1 : Int32).toInt ∧ (1 : Int32).toInt ≤ 1 by decide), if_neg (by decide)]
            exact ⟨_, rfl, rfl⟩
          · have hz : ¬ (0 ≤ a3.toInt ∧ a3.toInt ≤ 1) := by
              intro hz
              have : a3.toInt = 0 ∨ a3.toInt = 1 := by omega
              rcases this with z | z
              · exact e0 (by rw [iI_of a3, z]; rfl)
              · exact e1 (by rw [iI_of a3, z]; rfl)
            rw [if_neg e1, if_neg hz, if_pos rfl]
            exact ⟨_, rfl, rfl⟩
      · exact ⟨-100000, by rw [if_pos h0, if_pos h1, if_neg h2]; rfl, by rw [if_pos h0, if_pos h1, if_neg h2]; rfl⟩
    · exact ⟨-100000, by rw [if_pos h0, if_neg h1]; rfl, by rw [if_pos h0, if_neg h1]; rfl⟩
  · exact ⟨-100000, by rw [if_neg h0]; rfl, by rw [if_neg h0]; rfl⟩
theorem jrem3 : ∀ k, k < 6 → jrem (nI k) 3 = nI (k % 3) := by decide
theorem sp_sides (hKC : Kst KC) (hKD : Kst KD) (hKE : Kst KE) : Sp_sides (JJ KC KD KE) := by
  intro k h _ H a0 a1 a2
  refine rd_go hKC hKD hKE H fun c G C R => ?_
  have hn := G.1
  unfold f_C_sides f_R_sides
  simp only [has_in C hn, isPoint_ok R hn]
  by_cases h0 : 0 ≤ a0.toInt ∧ a0.toInt < c.1
  · by_cases h1 : 0 ≤ a1.toInt ∧ a1.toInt < c.1
    · obtain ⟨p, hp, rfl⟩ := pt_nat h0.1 h0.2
      obtain ⟨q, hq, rfl⟩ := pt_nat h1.1 h1.2
      rw [if_pos h0, if_pos h1]
      by_cases e : nI p = nI q
      · exact ⟨-1, by rw [if_neg (by decide), if_neg (by decide), if_pos e], by rw [if_neg (by decide), if_neg (by decide), if_pos e]⟩
      · have n1 : ¬ ((1 : Int32) = 0) := by decide
        rw [if_neg n1, if_neg n1, if_neg e, if_neg n1, if_neg n1, if_neg e]
        have key : ∀ sd : Int, -1 ≤ sd ∧ sd ≤ 1 → ∃ s, s < 4096 ∧ f_Cloud_sideBits 8 (nI p) (nI q) (iI sd) h = some (nI s) ∧ f_R_onSide (nI p) (nI q) (iI sd) (f_R_full h) h = some (nI s) := fun sd hsd => by
          obtain ⟨d1, d2, d3⟩ := sideBits_full G C R hp hq hsd
          exact ⟨_, d3, d1, d2⟩
        obtain ⟨s1, l1, u1, w1⟩ := key 1 (by omega)
        obtain ⟨s2, l2, u2, w2⟩ := key (-1) (by omega)
        obtain ⟨s3, l3, u3, w3⟩ := key 0 (by omega)
        have u1 : f_Cloud_sideBits 8 (nI p) (nI q) 1 h = some (nI s1) := u1
        have u2 : f_Cloud_sideBits 8 (nI p) (nI q) (-1) h = some (nI s2) := u2
        have u3 : f_Cloud_sideBits 8 (nI p) (nI q) 0 h = some (nI s3) := u3
        have w1 : f_R_onSide (nI p) (nI q) 1 (f_R_full h) h = some (nI s1) := w1
        have w2 : f_R_onSide (nI p) (nI q) (-1) (f_R_full h) h = some (nI s2) := w2
        have w3 : f_R_onSide (nI p) (nI q) 0 (f_R_full h) h = some (nI s3) := w3
        unfold f_R_sides_J1
        rw [u1, u2, u3, w1, w2, w3, show f_R_in a2 0 5 = _ from in_ok a2 (lo := 0) (hi := 5) (by unfold InR; omega) (by unfold InR; omega)]
        simp only [Option.bind_some]
        rw [bitsOf_ok l1, bitsOf_ok l2, bitsOf_ok l3, bitCount_ok l1, bitCount_ok l2, bitCount_ok l3]
        simp only [Option.bind_some]
        by_cases h2 : 0 ≤ a2.toInt ∧ a2.toInt ≤ 5
        · obtain ⟨m, hm, rfl⟩ := pt_nat (n := 6) h2.1 (by omega)
          rw [if_pos h2, jrem3 m hm]
          have : m = 0 ∨ m = 1 ∨ m = 2 ∨ m = 3 ∨ m = 4 ∨ m = 5 := by omega
          rcases this with rfl | rfl | rfl | rfl | rfl | rfl
          · exact ⟨_, rfl, rfl⟩
          · exact ⟨_, rfl, rfl⟩
          · exact ⟨_, rfl, rfl⟩
          · exact ⟨_, rfl, rfl⟩
          · exact ⟨_, rfl, rfl⟩
          · exact ⟨_, rfl, rfl⟩
        · refine ⟨-1, ?_, by rw [if_neg h2]; rfl⟩
          have ne : ∀ z : Int, 0 ≤ z ∧ z ≤ 5 → ¬ a2 = iI z := by
            rintro z hz rfl
            rw [iI_toInt (by unfold InR; omega)] at h2
            omega
          rw [if_neg (show ¬ a2 = 0 from ne 0 (by omega)), if_neg (show ¬ a2 = 1 from ne 1 (by omega)), if_neg (show ¬ a2 = 2 from ne 2 (by omega)), if_neg (show ¬ a2 = 3 from ne 3 (by omega)), if_neg (show ¬ a2 = 4 from ne 4 (by omega)), if_neg (show ¬ a2 = 5 from ne 5 (by omega))]
    · exact ⟨-1, by rw [if_pos h0, if_neg h1]; rfl, by rw [if_pos h0, if_neg h1]; rfl⟩
  · exact ⟨-1, by rw [if_neg h0]; rfl, by rw [if_neg h0]; rfl⟩
theorem sp_edges (hKC : Kst KC) (hKD : Kst KD) (hKE : Kst KE) : Sp_edges (JJ KC KD KE) := by
  intro k h _ H a0
  refine rd_go hKC hKD hKE H fun c G C R => ?_
  have hn := G.1
  have c1 : hI h 8 2 = nI c.1 := C.1
  have c2 : f_R_all h = nI c.1 := R.1
  unfold f_C_edges f_R_edges
  refine lp_dbl (f2 := fun p s => f_C_edges_L2 a0 (nI p) h s.1 s.2) (g2 := fun p s => f_R_edges_L2 a0 (nI p) h s.1 s.2) (fun _ => 0) c.1 hn (fun _ _ => Nat.zero_le _) ?_ ?_ ?_ ?_ 0
  · intro p q a hp _ hq
    show ∃ r, f_C_edges_L2 a0 (nI p) h a (nI q) = some r ∧ f_R_edges_L2 a0 (nI p) h a (nI q) = some r ∧ _
    unfold f_C_edges_L2 f_R_edges_L2
    rw [c1, c2, if_neg (lt_no hq (by omega)), if_neg (lt_no hq (by omega)), nI_1]
    by_cases e : nI p = nI q
    · rw [if_pos e, if_pos e]
      exact ⟨_, rfl, rfl, Or.inl ⟨_, rfl⟩⟩
    · obtain ⟨d1, d2, d3⟩ := sideBits_full G C R hp hq (sd := -1) (by omega)
      rw [if_neg e, if_neg e, show f_Cloud_sideBits 8 (nI p) (nI q) (-1) h = _ from d1, show f_R_onSide (nI p) (nI q) (-1) (f_R_full h) h = _ from d2]
      simp only [Option.bind_some]
      rw [bitsOf_ok d3, bitCount_ok d3]
      simp only [Option.bind_some]
      by_cases e2 : nI (pct (sdS c.1 c.2.2.1 c.2.2.2 p q (-1))) = a0
      · rw [if_pos e2]
        exact ⟨_, rfl, rfl, Or.inl ⟨_, rfl⟩⟩
      · rw [if_neg e2]
        exact ⟨_, rfl, rfl, Or.inl ⟨_, rfl⟩⟩
  · intro p a hp
    show f_C_edges_L2 a0 (nI p) h a (nI c.1) = _ ∧ f_R_edges_L2 a0 (nI p) h a (nI c.1) = _
    unfold f_C_edges_L2 f_R_edges_L2
    rw [c1, c2, if_pos (ge_yes (Nat.le_refl _) (by omega)), if_pos (ge_yes (Nat.le_refl _) (by omega)), nI_1]
    exact ⟨rfl, rfl⟩
  · intro p a hp
    show f_C_edges_L1 a0 h a (nI p) = _ ∧ f_R_edges_L1 a0 h a (nI p) = _
    unfold f_C_edges_L1 f_R_edges_L1
    rw [c1, c2, if_neg (lt_no hp (by omega)), if_neg (lt_no hp (by omega))]
    exact ⟨rfl, rfl⟩
  · intro a
    show ∃ r, f_C_edges_L1 a0 h a (nI c.1) = _ ∧ f_R_edges_L1 a0 h a (nI c.1) = _
    unfold f_C_edges_L1 f_R_edges_L1
    rw [c1, c2, if_pos (ge_yes (Nat.le_refl _) (by omega)), if_pos (ge_yes (Nat.le_refl _) (by omega))]
    exact ⟨_, rfl, rfl⟩
theorem sp_halving (hKC : Kst KC) (hKD : Kst KD) (hKE : Kst KE) : Sp_halving (JJ KC KD KE) := by
  intro k h _ H a0
  refine rd_go hKC hKD hKE H fun c G C R => ?_
  have hn := G.1
  have c1 : hI h 8 2 = nI c.1 := C.1
  have c2 : f_R_all h = nI c.1 := R.1
  unfold f_C_halving f_R_halving
  refine lp_dbl (f2 := fun p s => f_C_halving_L2 a0 (nI p) h s.1 s.2) (g2 := fun p s => f_R_halving_L2 a0 (nI p) h s.1 s.2) (fun p => p + 1) c.1 hn (fun _ h => h) ?_ ?_ ?_ ?_ 0
  · intro p q a hp _ hq
    show ∃ r, f_C_halving_L2 a0 (nI p) h a (nI q) = some r ∧ f_R_halving_L2 a0 (nI p) h a (nI q) = some r ∧ _
    unfold f_C_halving_L2 f_R_halving_L2
    rw [c1, c2, if_neg (lt_no hq (by omega)), if_neg (lt_no hq (by omega)), nI_1, every_ok C hn, full_ok R hn, isHalved_ok C G hp hq (full_lt hn), halves_ok R G hp hq (full_lt hn)]
    simp only [Option.bind_some]
    by_cases e : hvB c.1 c.2.2.1 c.2.2.2 p q (2 ^ c.1 - 1) = true
    · rw [if_pos e, if_neg (by decide)]
      by_cases e2 : a = a0
      · rw [if_pos e2]
        exact ⟨_, rfl, rfl, Or.inr ⟨_, rfl⟩⟩
      · rw [if_neg e2]
        exact ⟨_, rfl, rfl, Or.inl ⟨_, rfl⟩⟩
    · rw [if_neg e, if_pos rfl]
      exact ⟨_, rfl, rfl, Or.inl ⟨_, rfl⟩⟩
  · intro p a hp
    show f_C_halving_L2 a0 (nI p) h a (nI c.1) = _ ∧ f_R_halving_L2 a0 (nI p) h a (nI c.1) = _
    unfold f_C_halving_L2 f_R_halving_L2
    rw [c1, c2, if_pos (ge_yes (Nat.le_refl _) (by omega)), if_pos (ge_yes (Nat.le_refl _) (by omega)), nI_1]
    exact ⟨rfl, rfl⟩
  · intro p a hp
    show f_C_halving_L1 a0 h a (nI p) = _ ∧ f_R_halving_L1 a0 h a (nI p) = _
    unfold f_C_halving_L1 f_R_halving_L1
    rw [c1, c2, if_neg (lt_no hp (by omega)), if_neg (lt_no hp (by omega)), nI_1]
    exact ⟨rfl, rfl⟩
  · intro a
    show ∃ r, f_C_halving_L1 a0 h a (nI c.1) = _ ∧ f_R_halving_L1 a0 h a (nI c.1) = _
    unfold f_C_halving_L1 f_R_halving_L1
    rw [c1, c2, if_pos (ge_yes (Nat.le_refl _) (by omega)), if_pos (ge_yes (Nat.le_refl _) (by omega))]
    by_cases e : a0 = -1
    · rw [if_pos e]
      exact ⟨_, rfl, rfl⟩
    · rw [if_neg e]
      exact ⟨_, rfl, rfl⟩
theorem sp_halvingBoth (hKC : Kst KC) (hKD : Kst KD) (hKE : Kst KE) : Sp_halvingBoth (JJ KC KD KE) := by
  intro k h _ H a0 a1
  refine rd_go hKC hKD hKE H fun c G C R => ?_
  have hn := G.1
  have c1 : hI h 8 2 = nI c.1 := C.1
  have c2 : f_R_all h = nI c.1 := R.1
  unfold f_C_halvingBoth f_R_halvingBoth
  rw [hasSet_ok C hn, inSet_ok R hn]
  by_cases h0 : 0 ≤ a0.toInt ∧ a0.toInt < ((2 ^ c.1 : Nat) : Int)
  rotate_left
  · exact ⟨-1, by rw [if_neg h0]; rfl, by rw [if_neg h0]; rfl⟩
  obtain ⟨s, hs, rfl⟩ := pt_nat h0.1 h0.2
  have hs4 : s < 4096 := Nat.lt_of_lt_of_le hs (p12 hn)
  have hf : 2 ^ c.1 - 1 < 2 ^ c.1 := by have : 0 < 2 ^ c.1 := Nat.two_pow_pos _; omega
  have hm : mns (2 ^ c.1 - 1) s < 2 ^ c.1 := mns_lt s hf
  have hm4 : mns (2 ^ c.1 - 1) s < 4096 := Nat.lt_of_lt_of_le hm (p12 hn)
  rw [if_pos h0, if_neg (by decide), if_neg (by decide), every_ok C hn, andn_ok]
  refine lp_dbl (f2 := fun p t => f_C_halvingBoth_L2 (nI s) a1 (nI (mns (2 ^ c.1 - 1) s)) (nI p) h t.1 t.2) (g2 := fun p t => f_R_halvingBoth_L2 (nI s) a1 (nI p) h t.1 t.2) (fun _ => 0) c.1 hn (fun _ _ => Nat.zero_le _) ?_ ?_ ?_ ?_ 0
  · intro p q a hp _ hq
    show ∃ r, f_C_halvingBoth_L2 (nI s) a1 (nI (mns (2 ^ c.1 - 1) s)) (nI p) h a (nI q) = some r ∧ f_R_halvingBoth_L2 (nI s) a1 (nI p) h a (nI q) = some r ∧ _
    unfold f_C_halvingBoth_L2 f_R_halvingBoth_L2
    rw [c1, c2, if_neg (lt_no hq (by omega)), if_neg (lt_no hq (by omega)), nI_1, full_ok R hn, andn_ok, bit_ok (by omega) (by omega), bit_ok (by omega) (by omega), has_ok (by omega) (by omega), has_ok (by omega) (by omega), mns_bit, Nat.testBit_two_pow_sub_one, decide_eq_true hq, isHalved_ok C G hp hq hs4, isHalved_ok C G hp hq hm4, halves_ok R G hp hq hs4, halves_ok R G hp hq hm4]
    simp only [Option.bind_some, Bool.true_and]
    cases s.testBit p
    · exact ⟨_, rfl, rfl, Or.inl ⟨_, rfl⟩⟩
    cases s.testBit q
    rotate_left
    · exact ⟨_, rfl, rfl, Or.inl ⟨_, rfl⟩⟩
    cases hvB c.1 c.2.2.1 c.2.2.2 p q s
    · exact ⟨_, rfl, rfl, Or.inl ⟨_, rfl⟩⟩
    cases hvB c.1 c.2.2.1 c.2.2.2 p q (mns (2 ^ c.1 - 1) s)
    · exact ⟨_, rfl, rfl, Or.inl ⟨_, rfl⟩⟩
    by_cases e2 : a = a1
    · rw [if_pos e2]
      exact ⟨_, rfl, rfl, Or.inr ⟨_, rfl⟩⟩
    · rw [if_neg e2]
      exact ⟨_, rfl, rfl, Or.inl ⟨_, rfl⟩⟩
  · intro p a hp
    show f_C_halvingBoth_L2 (nI s) a1 (nI (mns (2 ^ c.1 - 1) s)) (nI p) h a (nI c.1) = _ ∧ f_R_halvingBoth_L2 (nI s) a1 (nI p) h a (nI c.1) = _
    unfold f_C_halvingBoth_L2 f_R_halvingBoth_L2
    rw [c1, c2, if_pos (ge_yes (Nat.le_refl _) (by omega)), if_pos (ge_yes (Nat.le_refl _) (by omega)), nI_1]
    exact ⟨rfl, rfl⟩
  · intro p a hp
    show f_C_halvingBoth_L1 (nI s) a1 (nI (mns (2 ^ c.1 - 1) s)) h a (nI p) = _ ∧ f_R_halvingBoth_L1 (nI s) a1 h a (nI p) = _
    unfold f_C_halvingBoth_L1 f_R_halvingBoth_L1
    rw [c1, c2, if_neg (lt_no hp (by omega)), if_neg (lt_no hp (by omega))]
    exact ⟨rfl, rfl⟩
  · intro a
    show ∃ r, f_C_halvingBoth_L1 (nI s) a1 (nI (mns (2 ^ c.1 - 1) s)) h a (nI c.1) = _ ∧ f_R_halvingBoth_L1 (nI s) a1 h a (nI c.1) = _
    unfold f_C_halvingBoth_L1 f_R_halvingBoth_L1
    rw [c1, c2, if_pos (ge_yes (Nat.le_refl _) (by omega)), if_pos (ge_yes (Nat.le_refl _) (by omega))]
    by_cases e : a1 = -1
    · rw [if_pos e]
      exact ⟨_, rfl, rfl⟩
    · rw [if_neg e]
      exact ⟨_, rfl, rfl⟩
end SD2
