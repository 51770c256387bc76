/-! undo, hold, restore -/
theorem nb1 : vp_nar .boolean 1 = 1 := by decide
theorem undo_lp {h : pH} {p : Nat} (hp : p + 26 ≤ 1040) : lp (fun s => f_R_undo_L1 (nI p) s.1 s.2) lpN (0, h) = some (1, cpF h 91 p 87 0 26) := by
  refine lp_run (f := fun s => f_R_undo_L1 (nI p) s.1 s.2) (fun k => (nI k, cpF h 91 p 87 0 k)) 26 (fun k hk => ?_) ?_ (n := lpN) (by unfold lpN; omega)
  · show f_R_undo_L1 _ (nI k) (cpF h 91 p 87 0 k) = some (.inl (nI (k + 1), cpF h 91 p 87 0 (k + 1)))
    unfold f_R_undo_L1
    rw [show (26 : Int32) = nI 26 from rfl, if_neg (lt_no hk (by omega)), nI_add, if_neg (gd (by omega) (by omega)), if_neg (gd (by omega) (by omega)), cla (by omega), cla (by omega), cpF_o (by omega), nI_1]
    show _ = some (Sum.inl (_, sI (cpF h 91 p 87 0 k) 87 (0 + k) (hI h 91 (p + k))))
    rw [Nat.zero_add]
  · show f_R_undo_L1 _ (nI 26) _ = _
    unfold f_R_undo_L1
    rw [show (26 : Int32) = nI 26 from rfl, if_pos (ge_yes (Nat.le_refl _) (by omega))]
theorem rest_lp {h : pH} {j : Nat} (hj : j < 3) : lp (fun s => f_R_restore_L1 (nI j) s.1 s.2) lpN (0, h) = some (1, sI (cpF h 92 (26 * j) 87 0 26) 79 24 0) := by
  refine lp_run (f := fun s => f_R_restore_L1 (nI j) s.1 s.2) (fun k => (nI k, cpF h 92 (26 * j) 87 0 k)) 26 (fun k hk => ?_) ?_ (n := lpN) (by unfold lpN; omega)
  · show f_R_restore_L1 _ (nI k) (cpF h 92 (26 * j) 87 0 k) = some (.inl (nI (k + 1), cpF h 92 (26 * j) 87 0 (k + 1)))
    unfold f_R_restore_L1
    rw [show (26 : Int32) = nI 26 from rfl, if_neg (lt_no hk (by omega)), pk_mul, nI_add, if_neg (gd (by omega) (by omega)), if_neg (gd (by omega) (by omega)), cla (by omega), cla (by omega), cpF_o (by omega), nI_1]
    show _ = some (Sum.inl (_, sI (cpF h 92 (26 * j) 87 0 k) 87 (0 + k) (hI h 92 (26 * j + k))))
    rw [Nat.zero_add]
  · show f_R_restore_L1 _ (nI 26) _ = _
    unfold f_R_restore_L1
    rw [show (26 : Int32) = nI 26 from rfl, if_pos (ge_yes (Nat.le_refl _) (by omega))]
theorem hold_lp {h : pH} {j : Nat} (hj : j < 3) : lp (fun s => f_R_hold_L1 (nI j) s.1 s.2) lpN (0, h) = some (1, sI (cpF h 87 0 92 (26 * j) 26) 93 j 1) := by
  refine lp_run (f := fun s => f_R_hold_L1 (nI j) s.1 s.2) (fun k => (nI k, cpF h 87 0 92 (26 * j) k)) 26 (fun k hk => ?_) ?_ (n := lpN) (by unfold lpN; omega)
  · show f_R_hold_L1 _ (nI k) (cpF h 87 0 92 (26 * j) k) = some (.inl (nI (k + 1), cpF h 87 0 92 (26 * j) (k + 1)))
    unfold f_R_hold_L1
    rw [show (26 : Int32) = nI 26 from rfl, if_neg (lt_no hk (by omega)), pk_mul, nI_add, if_neg (gd (by omega) (by omega)), if_neg (gd (by omega) (by omega)), cla (by omega), cla (by omega), cpF_o (by omega), nI_1]
    show _ = some (Sum.inl (_, sI (cpF h 87 0 92 (26 * j) k) 92 (26 * j + k) (hI h 87 (0 + k))))
    rw [Nat.zero_add]
  · show f_R_hold_L1 _ (nI 26) _ = _
    unfold f_R_hold_L1
    rw [show (26 : Int32) = nI 26 from rfl, if_pos (ge_yes (Nat.le_refl _) (by omega)), if_neg (gd (by omega) (by omega)), cla (by omega), nb1]
theorem slot_cases (x : Int32) : (∃ j : Nat, j < 3 ∧ x = nI j) ∨ (¬ (0 ≤ x.toInt ∧ x.toInt ≤ 2)) := by
  by_cases h : 0 ≤ x.toInt ∧ x.toInt ≤ 2
  · exact Or.inl (pt_nat h.1 (n := 3) (by omega))
  · exact Or.inr h
section SPH
variable {KC KD KE : pH → Cfg → Prop}
theorem sp_undo (hKC : Kst KC) (hKD : Kst KD) (hKE : Kst KE) : Sp_undo (JJ KC KD KE) := by
  intro n h hn HJ
  have HJ' := HJ
  obtain ⟨c, und, P, S, len, B, pl, g, vc, vr⟩ := HJ
  have hU := vc.2.1
  obtain ⟨np, ⟨u1, u2, u3⟩, hp⟩ := hU
  have hu40 := g.2.1
  unfold f_C_undo
  rw [u1]
  by_cases h0 : und = 0
  · rw [if_pos (by rw [h0]; rfl)]
    refine ⟨0, h, h, rfl, ?_, HJ'.mono hKC hKD hKE⟩
    unfold f_R_undo
    obtain ⟨er, ⟨v1, v2, v3⟩, -⟩ := vr.2.1
    rw [v1, if_pos (by rw [h0]; rfl)]
  · have ne0 : ¬ nI und = 0 := fun q => h0 ((nI_eqI (b := 0) (by omega) (by omega)).mp q)
    have hm : (np + 39) % 40 < 40 := Nat.mod_lt _ (by decide)
    rw [if_neg ne0, hI_n (h := h) (by omega), u2, show nI und - 1 = nI (und - 1) from pk_sub (b := 1) (by omega), show (40 : Int32) = nI 40 from rfl, nI_add, show nI (np + 40) - 1 = nI (np + 39) from pk_sub (b := 1) (by omega), jrem_ok (by omega) (by decide) (by decide), hI_s]
    have hr := hp (und - 1) (by omega)
    rw [show (np + 40 - und + (und - 1)) % 40 = (np + 39) % 40 by omega] at hr
    have gP := g.2.2.1 (und - 1) (by omega)
    generalize hh1 : sI (sI h 0 13 (nI (und - 1))) 0 14 (nI ((np + 39) % 40)) = h1
    have e1 : ∀ o k, ¬ (o = 0) → hI h1 o k = hI h o k := fun o k ho => by rw [← hh1, hI_n (by omega), hI_n (by omega)]
    have e2 : h1.2 = h.2 := by rw [← hh1, sI_2, sI_2]
    have e3 : hI h1 0 13 = nI (und - 1) ∧ hI h1 0 14 = nI ((np + 39) % 40) := ⟨by rw [← hh1, hI_n (by omega), hI_s], by rw [← hh1, hI_s]⟩
    obtain ⟨h2, a1, a2, a3, a4⟩ := give_ok Ob8 (h := h1) gP.1 cx31 (by decide) hm (rf31 _ hm) (by omega) (hr.fr (fun k => e1 _ k (by omega)))
    have s12 : SR h h2 := SR.mk' (fun o k ho => by rw [a4.1 o k (by omega) (by omega) (by omega), e1 o k (by omega)]) (by rw [a4.2, e2])
    have w := vr.sr g s12
    obtain ⟨er, ⟨v1, v2, v3⟩, hq⟩ := w.2.1
    have hm2 : (er + (und - 1)) % 40 < 40 := Nat.mod_lt _ (by decide)
    have hr2 := hq (und - 1) (by omega)
    generalize hh3 : sI h2 79 24 (nI (und - 1)) = h3
    have f1 : ∀ o k, ¬ (o = 79 ∧ k = 24) → hI h3 o k = hI h2 o k := fun o k ho => by rw [← hh3, hI_n ho]
    have f2 : h3.2 = h2.2 := by rw [← hh3, sI_2]
    have f3 : hI h3 79 24 = nI (und - 1) := by rw [← hh3, hI_s]
    refine ⟨1, h2, cpF h3 91 (26 * ((er + (und - 1)) % 40)) 87 0 26, ?_, ?_, ?_⟩
    · rw [a1]; rfl
    · unfold f_R_undo
      rw [v1, if_neg ne0, show nI und - 1 = nI (und - 1) from pk_sub (b := 1) (by omega), hh3, f1 79 23 (by omega), v2, f3, nI_add, show (40 : Int32) = nI 40 from rfl, jrem_ok (by omega) (by decide) (by decide), show (26 : Int32) = nI 26 from rfl, pk_mul]
      exact undo_lp (by omega)
    · have s24 : SC h2 (cpF h3 91 (26 * ((er + (und - 1)) % 40)) 87 0 26) := SC.mk' (fun o k ho => by rw [cpF_o (by omega), f1 o k (by omega)]) (by rw [cpF_l, f2])
      refine ⟨P (und - 1), und - 1, P, S, len, B, pl, ⟨gP, by omega, fun i hi => g.2.2.1 i (by omega), g.2.2.2⟩, ?_, ?_⟩
      · have hg1 : (P (und - 1)).1 ≤ 12 := gP.1
        refine VC.sc hKC hKD hKE (Nat.le_refl _) s24 (vc.chg hn a2 (d := 1 + (P (und - 1)).1) (by omega) ?_ ?_ (fun o k x y z q => ?_))
        · rw [a3, e1 8 4 (by omega)]
        · refine ⟨(np + 39) % 40, ⟨?_, ?_, hm⟩, fun i hi => ?_⟩
          · rw [a4.1 0 13 (by omega) (by omega) (by omega)]; exact e3.1
          · rw [a4.1 0 14 (by omega) (by omega) (by omega)]; exact e3.2
          · have := hp i (by omega)
            have hmm : (np + 40 - und + i) % 40 < 40 := Nat.mod_lt _ (by decide)
            rw [show ((np + 39) % 40 + 40 - (und - 1) + i) % 40 = (np + 40 - und + i) % 40 by omega]
            exact this.fr (fun k => by rw [a4.1 _ k (by omega) (by omega) (by omega), e1 _ k (by omega)])
        · by_cases ho : o = 0
          · subst ho
            unfold Pu at q
            rw [a4.1 0 k (by omega) (by omega) (by omega), ← hh1, hI_n (by omega), hI_n (by omega)]
          · rw [a4.1 o k x y z, e1 o k ho]
      · refine w.chg g.2.2.2.1 (RRc_row.mpr (RRow.cp gP.1 ?_)) ⟨er, ⟨?_, ?_, v3⟩, fun i hi => ?_⟩ (fun o k x y => ?_) ?_
        · exact hr2.fr (fun k hk => f1 _ _ (by omega)) gP.1
        · rw [cpF_o (by omega)]; exact f3
        · rw [cpF_o (by omega), f1 79 23 (by omega)]; exact v2
        · exact (hq i (by omega)).fr (fun k hk => by rw [cpF_o (by omega), f1 _ _ (by omega)]) (g.2.2.1 i (by omega)).1
        · rw [cpF_o x, f1 o k (by unfold Qu at y; omega)]
        · rw [cpF_l, f2]
theorem in3 (x : Int32) : f_R_in x 0 2 = if 0 ≤ x.toInt ∧ x.toInt ≤ 2 then 1 else 0 := by
  rw [show (0 : Int32) = iI 0 from rfl, show (2 : Int32) = iI 2 from rfl, in_ok x (by unfold InR; omega) (by unfold InR; omega)]
  rfl
theorem nI_small {j : Nat} (hj : j < 3) : 0 ≤ (nI j).toInt ∧ (nI j).toInt ≤ 2 := by
  rw [nI_iI, iI_toInt (by unfold InR; omega)]
  omega
theorem out3 {x : Int32} (hx : ¬ (0 ≤ x.toInt ∧ x.toInt ≤ 2)) : x < 0 ∨ (¬ x < 0 ∧ (3 : Int32) ≤ x ∧ ¬ x < 3) := by
  rw [iI_of x, show (0 : Int32) = iI 0 from rfl, show (3 : Int32) = iI 3 from rfl, iI_lt (InR_of x) (by unfold InR; omega), iI_lt (InR_of x) (by unfold InR; omega), iI_le (by unfold InR; omega) (InR_of x)]
  omega
theorem sp_hold (hKC : Kst KC) (hKD : Kst KD) (hKE : Kst KE) : Sp_hold (JJ KC KD KE) := by
  intro n h hn HJ x
  have HJ' := HJ
  obtain ⟨c, und, P, S, len, B, pl, g, vc, vr⟩ := HJ
  have cc := vc.cc
  have hc : c.1 ≤ 12 := g.1.1
  rcases slot_cases x with ⟨j, hj, rfl⟩ | hx
  · refine ⟨1, sI (kpF h (75 + j) c c.1) 78 j 1, sI (cpF (sI (kpF h (75 + j) c c.1) 78 j 1) 87 0 92 (26 * j) 26) 93 j 1, ?_, ?_, ?_⟩
    · unfold f_C_hold
      rw [if_neg (nI_pos (by omega)), if_pos (show nI j < 3 from (nI_ltI (b := 3) (by omega) (by omega)).mpr hj), keep_ok cc hc cx73 (by decide) hj (rf73 j hj) (by omega)]
      simp only [Option.bind_some]
      rw [if_neg (gd hj (by omega)), cla (by omega), nb1]
    · unfold f_R_hold
      rw [in3, if_pos (nI_small hj), if_neg (by decide)]
      exact hold_lp hj
    · generalize hh1 : sI (kpF h (75 + j) c c.1) 78 j 1 = h1
      have e1 : ∀ o k, o ≠ 75 + j → ¬ (o = 78 ∧ k = j) → hI h1 o k = hI h o k := fun o k a b => by rw [← hh1, hI_n b, kpF_fr a]
      have e2 : h1.2 = h.2 := by rw [← hh1, sI_2, kpF_l]
      have s1 : SR h h1 := SR.mk' (fun o k ho => e1 o k (by omega) (by omega)) e2
      have w := vr.sr g s1
      have s2 : SC h1 (sI (cpF h1 87 0 92 (26 * j) 26) 93 j 1) := SC.mk' (fun o k ho => by rw [hI_n (by omega), cpF_o (by omega)]) (by rw [sI_2, cpF_l])
      refine ⟨c, und, P, fun i => if i = j then some c else S i, len, B, pl, ⟨g.1, g.2.1, g.2.2.1, fun i c' hc' => ?_, g.2.2.2.2⟩, ?_, ?_⟩
      · have hc' : (if i = j then some c else S i) = some c' := hc'
        by_cases e : i = j
        · rw [if_pos e] at hc'; cases hc'; exact g.1
        · rw [if_neg e] at hc'; exact g.2.2.2.1 i c' hc'
      · refine VC.sc hKC hKD hKE (Nat.le_refl _) s2 ⟨vc.1.fr hKC hKD hKE (by omega) (fun o k q => e1 o k (by unfold Pl at q; omega) (by unfold Pl at q; omega)), vc.2.1.fr (fun o k q => e1 o k (by unfold Pu at q; omega) (by unfold Pu at q; omega)), fun i hi => ?_, vc.2.2.2.1.fr (fun o k q => e1 o k (by unfold Pt at q; omega) (by unfold Pt at q; omega)), by rw [e1 3 1 (by omega) (by omega)]; exact vc.2.2.2.2⟩
        by_cases e : i = j
        · subst e
          simp only [if_true]
          refine ⟨by rw [← hh1, hI_s]; rfl, fun c' hc' => ?_⟩
          cases hc'
          rw [← hh1]
          exact kpF_row.fr (fun k => by rw [hI_n (by omega)])
        · simp only [if_neg e]
          have := vc.2.2.1 i hi
          exact ⟨by rw [e1 78 i (by omega) (by omega)]; exact this.1, fun c' hc' => (this.2 c' hc').fr (fun k => e1 _ k (by omega) (by omega))⟩
      · have f1 : ∀ o k, ¬ (o = 92 ∧ 26 * j ≤ k ∧ k < 26 * j + 26) → ¬ (o = 93 ∧ k = j) → hI (sI (cpF h1 87 0 92 (26 * j) 26) 93 j 1) o k = hI h1 o k := fun o k a b => by
          rw [hI_n b]
          by_cases ho : o = 92
          · subst ho; exact cpF_out 26 (by omega)
          · exact cpF_o ho 26
        refine ⟨w.1.fr (fun k => f1 87 k (by omega) (by omega)), w.2.1.fr g.2.2.1 (fun o k q => f1 o k (by unfold Qu at q; omega) (by unfold Qu at q; omega)), fun i hi => ?_, w.2.2.2.1.fr (fun o k q => f1 o k (by unfold Qt at q; omega) (by unfold Qt at q; omega)), by rw [f1 79 16 (by omega) (by omega)]; exact w.2.2.2.2.1, ?_⟩
        · by_cases e : i = j
          · subst e
            simp only [if_true]
            refine ⟨by rw [hI_s]; rfl, fun c' hc' => ?_⟩
            cases hc'
            exact RRow.fr (h := cpF h1 87 0 92 (26 * i) 26) (fun k hk => by rw [hI_n (by omega)]) hc (RRow.cp hc (RRc_row.mp w.1))
          · simp only [if_neg e]
            have := w.2.2.1 i hi
            exact ⟨by rw [f1 93 i (by omega) (by omega)]; exact this.1, fun c' hc' => (this.2 c' hc').fr (fun k hk => f1 _ _ (by omega) (by omega)) (g.2.2.2.1 i c' hc').1⟩
        · have : ∀ a b, hL (sI (cpF h1 87 0 92 (26 * j) 26) 93 j 1) a b = hL h1 a b := fun a b => by unfold hL; rw [sI_2, cpF_l]
          rw [this, this]; exact w.2.2.2.2.2
  · refine ⟨0, h, h, ?_, ?_, HJ'.mono hKC hKD hKE⟩
    · unfold f_C_hold
      rcases out3 hx with e | ⟨e1, e2, e3⟩
      · rw [if_pos e]
      · rw [if_neg e1, if_neg e3]
    · unfold f_R_hold
      rw [in3, if_neg hx, if_pos rfl]
theorem sp_restore (hKC : Kst KC) (hKD : Kst KD) (hKE : Kst KE) : Sp_restore (JJ KC KD KE) := by
  intro n h hn HJ x
  have HJ' := HJ
  obtain ⟨c, und, P, S, len, B, pl, g, vc, vr⟩ := HJ
  rcases slot_cases x with ⟨j, hj, rfl⟩ | hx
  · have hS := vc.2.2.1 j hj
    have hS2 := vr.2.2.1 j hj
    unfold f_C_restore
    rw [if_neg (nI_pos (by omega)), if_neg (show ¬ (3 : Int32) ≤ nI j from lt_no (n := 3) hj (by omega)), if_neg (gd hj (by omega)), cla (by omega), hS.1]
    cases hs : S j with
    | none =>
      refine ⟨0, h, h, rfl, ?_, HJ'.mono hKC hKD hKE⟩
      unfold f_R_restore
      rw [in3, if_pos (nI_small hj), if_neg (by decide), if_neg (gd hj (by omega)), cla (by omega), hS2.1, hs]
      rfl
    | some d =>
      have gd' := g.2.2.2.1 j d hs
      have hd12 : d.1 ≤ 12 := gd'.1
      have hr := hS.2 d hs
      obtain ⟨h1, a1, a2, a3, a4⟩ := give_ok Ob8 (h := h) gd'.1 cx73 (by decide) hj (rf73 j hj) (by omega) hr
      rw [a1]
      generalize hh2 : f_C_forgetPast h1 = h2
      have e1 : ∀ o k, o ≠ 0 → hI h2 o k = hI h1 o k := fun o k ho => by rw [← hh2]; unfold f_C_forgetPast; rw [hI_n (by omega), hI_n (by omega)]
      have e2 : h2.2 = h1.2 := by rw [← hh2]; rfl
      have s12 : SR h h2 := SR.mk' (fun o k ho => by rw [e1 o k (by omega), a4.1 o k (by omega) (by omega) (by omega)]) (by rw [e2, a4.2])
      have w := vr.sr g s12
      have hS3 := w.2.2.1 j hj
      refine ⟨1, h2, sI (cpF h2 92 (26 * j) 87 0 26) 79 24 0, ?_, ?_, ?_⟩
      · simp only [Option.bind_some]
        rw [hh2]
        rfl
      · unfold f_R_restore
        rw [in3, if_pos (nI_small hj), if_neg (by decide), if_neg (gd hj (by omega)), cla (by omega), hS3.1, hs, if_neg (show ¬ (if (some d).isSome = true then (1 : Int32) else 0) = 0 from by simp)]
        exact rest_lp hj
      · have s24 : SC h2 (sI (cpF h2 92 (26 * j) 87 0 26) 79 24 0) := SC.mk' (fun o k ho => by rw [hI_n (by omega), cpF_o (by omega)]) (by rw [sI_2, cpF_l])
        refine ⟨d, 0, P, S, len, B, pl, ⟨gd', by omega, fun i hi => absurd hi (by omega), g.2.2.2⟩, ?_, ?_⟩
        · refine VC.sc hKC hKD hKE (Nat.le_refl _) s24 (vc.chg hn (a2.fr (fun o k q => e1 o k (by omega))) (d := 1 + d.1) (by omega) ?_ ⟨0, ⟨?_, ?_, by omega⟩, fun i hi => absurd hi (by omega)⟩ (fun o k x y z q => ?_))
          · rw [e1 8 4 (by omega), a3]
          · rw [← hh2]; unfold f_C_forgetPast; rw [hI_n (by omega), hI_s]; rfl
          · rw [← hh2]; unfold f_C_forgetPast; rw [hI_s]; rfl
          · by_cases ho : o = 0
            · subst ho
              unfold Pu at q
              rw [← hh2]
              unfold f_C_forgetPast
              rw [hI_n (by omega), hI_n (by omega), a4.1 0 k x y z]
            · rw [e1 o k ho, a4.1 o k x y z]
        · obtain ⟨er, ⟨v1, v2, v3⟩, -⟩ := w.2.1
          refine w.chg g.2.2.2.1 (RRc.fr (h := cpF h2 92 (26 * j) 87 0 26) (fun k => by rw [hI_n (by omega)]) (RRc_row.mpr (RRow.cp gd'.1 (hS3.2 d hs)))) ⟨er, ⟨hI_s, ?_, v3⟩, fun i hi => absurd hi (by omega)⟩ (fun o k x y => ?_) ?_
          · rw [hI_n (by omega), cpF_o (by omega)]; exact v2
          · unfold Qu at y
            rw [hI_n (by omega), cpF_o x]
          · rw [sI_2, cpF_l]
  · refine ⟨0, h, h, ?_, ?_, HJ'.mono hKC hKD hKE⟩
    · unfold f_C_restore
      rcases out3 hx with e | ⟨e1, e2, e3⟩
      · rw [if_pos e]
      · rw [if_neg e1, if_pos e2]
    · unfold f_R_restore
      rw [in3, if_neg hx, if_pos rfl]
end SPH
