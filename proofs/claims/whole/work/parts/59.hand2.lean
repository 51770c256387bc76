/-! goes, turn -/
section SPH
variable {KC KD KE : pH → Cfg → Prop}
theorem R_goes_ok {h : pH} {c : Cfg} (C : RRc h c) (hn : c.1 ≤ 12) {p : Nat} (hp : p < c.1) : ∃ r, lp (fun s => f_R_goes_L1 s.1 s.2) lpN (nI p, h) = some r ∧ r.1 = 1 ∧ RRc r.2 (golC c p) ∧ Fn h r.2 := by
  obtain ⟨c1, c2, c3⟩ := C
  refine lp_inv (f := fun s => f_R_goes_L1 s.1 s.2) (fun k s => s.1 = nI (p + k) ∧ RRc s.2 (c.1, c.2.1, fun i => if p ≤ i ∧ i < p + k then c.2.2.1 (i + 1) else c.2.2.1 i, fun i => if p ≤ i ∧ i < p + k then c.2.2.2 (i + 1) else c.2.2.2 i) ∧ Fn h s.2) (fun r => r.1 = 1 ∧ RRc r.2 (golC c p) ∧ Fn h r.2) (c.1 - 1 - p) ?_ ?_ ⟨rfl, ⟨c1, c2, fun i hi => ?_⟩, Fn.rfl'⟩ (by unfold lpN; omega)
  · rintro k ⟨x, h'⟩ hk ⟨rfl, d1, d2⟩
    have d2 : Fn h h' := d2
    have d1 : RRc h' (c.1, c.2.1, fun i => if p ≤ i ∧ i < p + k then c.2.2.1 (i + 1) else c.2.2.1 i, fun i => if p ≤ i ∧ i < p + k then c.2.2.2 (i + 1) else c.2.2.2 i) := d1
    show ∃ s', f_R_goes_L1 (nI (p + k)) h' = some (.inl s') ∧ _
    unfold f_R_goes_L1 f_R_all
    have dn : hI h' 87 0 = nI c.1 := d1.1
    have hpk : p + k + 1 < c.1 := by omega
    rw [nI_1, dn, if_neg (lt_no (by omega) (by omega)), R_x_ok d1 hn hpk, R_y_ok d1 hn hpk]
    simp only [Option.bind_some]
    rw [lays3_ok (by omega)]
    refine ⟨_, rfl, rfl, ?_, (d2.set.set)⟩
    refine (R_put d1 (p := p + k) (by omega) _ _).cong rfl rfl (fun i hi => ?_)
    by_cases e : i = p + k
    · subst e
      have q1 : p ≤ p + k ∧ p + k < p + (k + 1) := by omega
      have q2 : ¬ (p ≤ p + k + 1 ∧ p + k + 1 < p + k) := by omega
      exact ⟨by simp only [movC, updF, if_true, if_pos q1, if_neg q2], by simp only [movC, updF, if_true, if_pos q1, if_neg q2]⟩
    · have hcc : (p ≤ i ∧ i < p + (k + 1)) ↔ (p ≤ i ∧ i < p + k) := by omega
      exact ⟨by simp only [movC, updF, e, if_false, hcc], by simp only [movC, updF, e, if_false, hcc]⟩
  · rintro ⟨x, h'⟩ ⟨rfl, d1, d2⟩
    have d2 : Fn h h' := d2
    have d1 : RRc h' (c.1, c.2.1, fun i => if p ≤ i ∧ i < p + (c.1 - 1 - p) then c.2.2.1 (i + 1) else c.2.2.1 i, fun i => if p ≤ i ∧ i < p + (c.1 - 1 - p) then c.2.2.2 (i + 1) else c.2.2.2 i) := d1
    have dn : hI h' 87 0 = nI c.1 := d1.1
    show ∃ r, f_R_goes_L1 (nI (p + (c.1 - 1 - p))) h' = some (.inr r) ∧ _
    unfold f_R_goes_L1 f_R_all
    rw [nI_1, dn, if_pos (ge_yes (by omega) (by omega)), show nI c.1 - 1 = nI (c.1 - 1) from pk_sub (b := 1) (by omega)]
    refine ⟨_, rfl, rfl, ⟨?_, ?_, fun i hi => ?_⟩, d2.set⟩
    · show hI (sI _ _ _ _) _ _ = _
      rw [hI_s]; rfl
    · show hI (sI _ _ _ _) _ _ = _
      rw [hI_n (by omega)]; exact d1.2.1
    · show hI (sI _ _ _ _) _ _ = _ ∧ hI (sI _ _ _ _) _ _ = _
      have hi' : i < c.1 - 1 := hi
      rw [hI_n (by omega), hI_n (by omega)]
      have := d1.2.2 i (by show i < c.1; omega)
      rw [this.1, this.2]
      unfold golC shF
      by_cases hq : i < p
      · simp only [hq, if_true]; rw [if_neg (by omega), if_neg (by omega)]; exact ⟨rfl, rfl⟩
      · simp only [hq, if_false]; rw [if_pos (by omega), if_pos (by omega)]; exact ⟨rfl, rfl⟩
  · have := c3 i hi
    show _ = iI (if p ≤ i ∧ i < p + 0 then _ else _) ∧ _ = iI (if p ≤ i ∧ i < p + 0 then _ else _)
    rw [if_neg (by omega), if_neg (by omega)]
    exact this
theorem sp_goes (hKC : Kst KC) (hKD : Kst KD) (hKE : Kst KE) : Sp_goes (JJ KC KD KE) := by
  intro n h hn HJ q
  have HJ' := HJ
  obtain ⟨c, und, P, S, len, B, pl, g, vc, vr⟩ := HJ
  have cc := vc.cc
  have hc : c.1 ≤ 12 := g.1.1
  unfold f_C_goes
  rw [has_in cc hc]
  by_cases hq : 0 ≤ q.toInt ∧ q.toInt < c.1
  · rw [if_pos hq, if_neg (by decide)]
    obtain ⟨p, hp, rfl⟩ := pt_nat hq.1 hq.2
    obtain ⟨h1, r1, r2, r3, r4⟩ := remember_ok cc hc g.2.1 vc.2.1
    obtain ⟨h2, a1, a2, a3, a4⟩ := drop_ok Ob8 (cc.pu r3) hc hp
    have s12 := s12_ok r3 r4 a4
    have w := vr.sr g s12
    obtain ⟨h3, m1, m2, m3, m4⟩ := marks_ok w.1 hc g.2.2.1 g.2.1 w.2.1
    have rr3 := w.1.qu m3
    obtain ⟨⟨v, h4⟩, b1, b2, b3, b4⟩ := R_goes_ok rr3 hc hp
    have b2 : v = 1 := b2
    refine ⟨1, h2, h4, ?_, ?_, ?_⟩
    · rw [r1]
      simp only [Option.bind_some]
      rw [a1]
      rfl
    · unfold f_R_goes
      rw [isPoint_ok w.1 hc, if_pos hq, if_neg (by decide), m1]
      simp only [Option.bind_some]
      rw [b1, b2]
    · exact done_ok hKC hKD hKE hn g vc vr (GC_gol g.1 hp) (d := 1) (by omega) r2 r3 r4 a2 a3 a4 m2 m3 m4 b3 b4
  · rw [if_neg hq, if_pos rfl]
    refine ⟨0, h, h, rfl, ?_, HJ'.mono hKC hKD hKE⟩
    unfold f_R_goes
    rw [isPoint_ok vr.1 hc, if_neg hq, if_pos rfl]
theorem R_turn_ok {h : pH} {c : Cfg} (C : RRc h c) (hn : c.1 ≤ 12) (m : Bool) : ∃ r, lp (fun s => f_R_turn_L1 (if m then 1 else 0) s.1 s.2) lpN (0, h) = some r ∧ r.1 = 1 ∧ RRc r.2 (trnC c m) ∧ Fn h r.2 := by
  refine lp_inv (f := fun s => f_R_turn_L1 (if m then 1 else 0) s.1 s.2) (fun k s => s.1 = nI k ∧ RRc s.2 (trnK c m k) ∧ Fn h s.2) (fun r => r.1 = 1 ∧ RRc r.2 (trnC c m) ∧ Fn h r.2) c.1 ?_ ?_ ⟨rfl, C.cong rfl rfl (fun i _ => ⟨by simp [trnK], by simp [trnK]⟩), Fn.rfl'⟩ (by unfold lpN; omega)
  · rintro k ⟨x, h'⟩ hk ⟨rfl, d1, d2⟩
    have d2 : Fn h h' := d2
    have d1 : RRc h' (trnK c m k) := d1
    have dn : hI h' 87 0 = nI c.1 := d1.1
    show ∃ s', f_R_turn_L1 _ (nI k) h' = some (.inl s') ∧ _
    have X1 : f_R_x (nI k) h' = some (iI (c.2.2.1 k)) := by rw [R_x_ok d1 hn hk]; simp [trnK]
    have Y1 : f_R_y (nI k) h' = some (iI (c.2.2.2 k)) := by rw [R_y_ok d1 hn hk]; simp [trnK]
    have key : ∀ x y : Int, x = (trnC c m).2.2.1 k → y = (trnC c m).2.2.2 k → RRc (sI (sI h' 87 (2 + 2 * k) (iI x)) 87 (3 + 2 * k) (iI y)) (trnK c m (k + 1)) := by
      rintro x y rfl rfl
      refine (R_put d1 (p := k) (by omega) _ _).cong rfl rfl (fun i _ => ?_)
      by_cases e : i = k
      · subst e
        exact ⟨by simp [trnK, movC, updF], by simp [trnK, movC, updF]⟩
      · have hc : i < k + 1 ↔ i < k := by omega
        exact ⟨by simp [trnK, movC, updF, e, hc], by simp [trnK, movC, updF, e, hc]⟩
    unfold f_R_turn_L1 f_R_turn_J2 f_R_all
    rw [dn, if_neg (lt_no hk (by omega)), X1, Y1]
    simp only [Option.bind_some]
    rw [iI_neg, iI_neg, lays3_ok (by omega), lays3_ok (by omega), lays3_ok (by omega), lays3_ok (by omega), nI_1]
    cases m
    · exact ⟨_, rfl, rfl, key _ _ (by simp [trnC]) (by simp [trnC]), d2.set.set⟩
    · exact ⟨_, rfl, rfl, key _ _ (by simp [trnC]) (by simp [trnC]), d2.set.set⟩
  · rintro ⟨x, h'⟩ ⟨rfl, d1, d2⟩
    have d1 : RRc h' (trnK c m c.1) := d1
    have dn : hI h' 87 0 = nI c.1 := d1.1
    show ∃ r, f_R_turn_L1 _ (nI c.1) h' = some (.inr r) ∧ _
    unfold f_R_turn_L1 f_R_all
    rw [dn, if_pos (ge_yes (Nat.le_refl _) (by omega))]
    exact ⟨_, rfl, rfl, d1.cong rfl rfl (fun i hi => by
      have hi : i < c.1 := hi
      exact ⟨by simp [trnK, hi], by simp [trnK, hi]⟩), d2⟩
theorem sp_turn (hKC : Kst KC) (hKD : Kst KD) (hKE : Kst KE) : Sp_turn (JJ KC KD KE) := by
  intro n h hn HJ m' hm'
  have HJ' := HJ
  obtain ⟨c, und, P, S, len, B, pl, g, vc, vr⟩ := HJ
  have cc := vc.cc
  have hc : c.1 ≤ 12 := g.1.1
  obtain ⟨m, rfl⟩ : ∃ m : Bool, m' = if m then 1 else 0 := by
    rcases hm' with rfl | rfl
    · exact ⟨false, rfl⟩
    · exact ⟨true, rfl⟩
  unfold f_C_turn
  rw [cc.1]
  by_cases h0 : c.1 = 0
  · rw [if_pos (by rw [h0]; rfl)]
    refine ⟨0, h, h, rfl, ?_, HJ'.mono hKC hKD hKE⟩
    unfold f_R_turn f_R_all
    rw [vr.1.1, if_pos (by rw [h0]; rfl)]
  · have ne0 : ¬ nI c.1 = 0 := fun q => h0 ((nI_eqI (b := 0) (by omega) (by omega)).mp q)
    rw [if_neg ne0]
    obtain ⟨h1, r1, r2, r3, r4⟩ := remember_ok cc hc g.2.1 vc.2.1
    have hx : ∃ h2, (if (if m then (1 : Int32) else 0) = 0 then (f_Cloud_turnQuarter 8 h1).bind fun v => some ((1 : Int32), v) else (f_Cloud_mirror 8 h1).bind fun v => some (1, v)) = some (1, h2) ∧ CCc h2 8 (trnC c m) ∧ hI h2 8 4 = hI h1 8 4 + nI c.1 ∧ Fr3 8 9 10 h1 h2 := by
      cases m
      · obtain ⟨h2, a1, a2⟩ := quarter_ok Ob8 (cc.pu r3) hc
        exact ⟨h2, by rw [a1]; rfl, a2⟩
      · obtain ⟨h2, a1, a2⟩ := mirror_ok Ob8 (cc.pu r3) hc
        exact ⟨h2, by rw [a1]; rfl, a2⟩
    obtain ⟨h2, a1, a2, a3, a4⟩ := hx
    have s12 := s12_ok r3 r4 a4
    have w := vr.sr g s12
    obtain ⟨h3, m1, m2, m3, m4⟩ := marks_ok w.1 hc g.2.2.1 g.2.1 w.2.1
    have rr3 := w.1.qu m3
    obtain ⟨⟨v, h4⟩, b1, b2, b3, b4⟩ := R_turn_ok rr3 hc m
    have b2 : v = 1 := b2
    refine ⟨1, h2, h4, ?_, ?_, ?_⟩
    · rw [r1]
      exact a1
    · unfold f_R_turn f_R_all
      rw [w.1.1, if_neg ne0, m1]
      simp only [Option.bind_some]
      rw [b1, b2]
    · exact done_ok hKC hKD hKE hn g vc vr (GC_trn g.1 m) (d := c.1) (by omega) r2 r3 r4 a2 a3 a4 m2 m3 m4 b3 b4
end SPH
