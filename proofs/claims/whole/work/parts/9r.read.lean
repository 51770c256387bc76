/-! both read the same -/
theorem emptyS_ok {h : pH} : f_C_emptySlots h = some (clS 78 h 3) := by
  unfold f_C_emptySlots
  refine lp_run (f := fun s => f_C_emptySlots_L1 s.1 s.2) (fun k => (nI k, clS 78 h k)) 3 (fun k hk => ?_) ?_ (n := lpN) (by unfold lpN; omega)
  · show f_C_emptySlots_L1 (nI k) (clS 78 h k) = some (.inl (nI (k + 1), sI (clS 78 h k) 78 k 0))
    unfold f_C_emptySlots_L1
    rw [if_neg (show ¬ (3 : Int32) ≤ nI k from lt_no (n := 3) hk (by omega)), if_neg (gd hk (by omega)), cla (by omega), nI_1, nb0]
  · show f_C_emptySlots_L1 (nI 3) (clS 78 h 3) = _
    unfold f_C_emptySlots_L1
    rw [if_pos (by decide)]
theorem CCc_4 {h h' : pH} {c : Cfg} (A : ∀ o k, o = 4 ∨ o = 5 ∨ o = 6 → hI h' o k = hI h o k) (C : CCc h 4 c) : CCc h' 4 c := by
  unfold CCc CC at *
  rw [Ob4.1, Ob4.2.1] at *
  exact ⟨by rw [A 4 2 (by omega)]; exact C.1, by rw [A 4 3 (by omega)]; exact C.2.1, fun i hi => by rw [A 5 i (by omega), A 6 i (by omega)]; exact C.2.2 i hi⟩
section SR1
variable {KC KD KE : pH → Cfg → Prop}
theorem sp_read (hKC : Kst KC) (hKD : Kst KD) (hKE : Kst KE) : Sp_read (JJ KC KD KE) := by
  intro n h hn HJ
  obtain ⟨c, und, P, S, len, B, pl, g, vc, vr⟩ := HJ
  have hl := g.2.2.2.2.1
  have hB := g.2.2.2.2.2
  obtain ⟨q, hq, hg, hs⟩ := stopK (tkK B len)
  obtain ⟨⟨v, hp⟩, p1, p2, p3, p4⟩ := parse_ok vc.2.2.2.1 hl hB hq hg hs
  have p2 : FrC h hp := p2
  have p3 : hfK (tkK B len) q ≠ 0 → v = nI (hfK (tkK B len) q) ∧ hI hp 3 1 = nI (tsk B len q) := p3
  have p4 : hfK (tkK B len) q = 0 → v = nI (sfB B len q).1 ∧ hI hp 3 1 = (if (sfB B len q).1 = 0 then -1 else nI (sfB B len q).2.1) ∧ ((sfB B len q).1 = 0 → CCc hp 4 (sfB B len q).2.2.1) := p4
  have ref : ∀ h1, (∀ o k, 79 ≤ o → hI h1 o k = hI h o k) → (∀ k, hL h1 86 k = hL h 86 k) → ∃ r, f_R_read h1 = some r ∧ ∃ h2, hI h2 79 2 = 0 ∧ (∀ o k, o ≠ 81 → ¬ (o = 79 ∧ (k = 2 ∨ k = 4)) → hI h2 o k = hI h1 o k) ∧ h2.2 = h1.2 ∧ RdS B len q h2 r := by
    intro h1 A A2
    exact R_read_ok (vr.2.2.2.1.fr (fun o k ho => A o k (by unfold Qt at ho; omega))) (by rw [A2, A2]; exact vr.2.2.2.2.2) hl hB hg hs
  have fail : ∀ (f : Nat) (pl' : Int32), 1 ≤ f → f ≤ 5 → v = nI f → hI hp 3 1 = pl' → (∀ h2 r, RdS B len q h2 r → r.1 = nI f ∧ hI r.2 79 16 = pl' ∧ FRk f h2 r.2) → ∃ v : Int32, ∃ h1 : pH, ∃ h2 : pH, f_C_read h = some (v, h1) ∧ f_R_read h1 = some (v, h2) ∧ JJ KC KD KE (n + 1) h2 := by
    intro f pl' f1 f2 ev epl H
    have a1 : f_C_read h = some (nI f, sI hp 1 1 0) := by
      unfold f_C_read
      rw [p1, Option.bind_some]
      show (if v = 0 then _ else some (v, sI hp 1 1 0)) = _
      rw [ev, if_neg (fun z => fposN f1 f2 (by rw [z]; decide))]
    generalize hh1 : sI hp 1 1 0 = h1 at a1
    have e1 : ∀ o k, o ≠ 1 → o ≠ 3 → o ≠ 4 → o ≠ 5 → o ≠ 6 → hI h1 o k = hI h o k := fun o k a b c d e => by rw [← hh1, hI_n (by omega)]; exact p2.1 o k a b c d e
    have e86 : ∀ k, hL h1 86 k = hL h 86 k := fun k => by
      rw [← hh1]
      exact p2.2.2 86 k (by omega) (by omega)
    obtain ⟨⟨v', h3⟩, r1, h2, b1, b2, b3, b4⟩ := ref h1 (fun o k ho => e1 o k (by omega) (by omega) (by omega) (by omega) (by omega)) e86
    obtain ⟨c1, c2, c3⟩ := H _ _ b4
    have c1 : v' = nI f := c1
    subst c1
    have c2 : hI h3 79 16 = pl' := c2
    have c3 : FRk f h2 h3 := c3
    have k1 : ∀ o k, o < 79 → hI h3 o k = hI h1 o k := fun o k ho => by rw [c3.1 o k (by omega), b2 o k (by omega) (by omega)]
    have k2 : ∀ o k, (o = 80 ∨ o = 91 ∨ o = 92 ∨ (o = 79 ∧ k = 23) ∨ o = 87 ∨ o = 93 ∨ (o = 79 ∧ k = 24)) → hI h3 o k = hI h o k := fun o k ho => by rw [c3.1 o k (by omega), b2 o k (by omega) (by omega), e1 o k (by omega) (by omega) (by omega) (by omega) (by omega)]
    refine ⟨nI f, h1, h3, a1, r1, c, und, P, S, 0, B, pl', ⟨g.1, g.2.1, g.2.2.1, g.2.2.2.1, by omega, fun i hi => absurd hi (by omega)⟩, VC.ag hKC hKD hKE (Nat.le_refl _) (fun o k ho => k1 o k (Rc_lt ho)) ?_, ?_⟩
    · refine ⟨vc.1.fr hKC hKD hKE (by omega) (fun o k z => ?_), vc.2.1.fr (fun o k z => ?_), vc.2.2.1.fr (fun o k z => ?_), ⟨by rw [← hh1, hI_s]; rfl, fun i hi => absurd hi (by omega)⟩, by rw [← hh1, hI_n (by omega)]; exact epl⟩
      · unfold Pl at z
        exact e1 o k (by omega) (by omega) (by omega) (by omega) (by omega)
      · unfold Pu at z
        exact e1 o k (by omega) (by omega) (by omega) (by omega) (by omega)
      · unfold Ps at z
        exact e1 o k (by omega) (by omega) (by omega) (by omega) (by omega)
    · refine ⟨vr.1.fr (fun k => k2 87 k (by omega)), vr.2.1.fr g.2.2.1 (fun o k z => k2 o k (by unfold Qu at z; omega)), vr.2.2.1.fr g.2.2.2.1 (fun o k z => k2 o k (by unfold Qs at z; omega)), ⟨?_, fun i hi => absurd hi (by omega)⟩, c2, ?_⟩
      · rw [c3.1 79 2 (by omega), b1]; rfl
      · have : ∀ k, hL h3 86 k = hL h 86 k := fun k => by
          rw [c3.2 k]
          have : hL h2 86 k = hL h1 86 k := by unfold hL; rw [b3]
          rw [this, e86]
        rw [this, this]; exact vr.2.2.2.2.2
  by_cases hf : hfK (tkK B len) q = 0
  · obtain ⟨x1, x2, x3⟩ := p4 hf
    have hP : ∀ j, j < q → tsk B len j < tsk B len (j + 1) := fun j hj => tsk_lt (tkK_0.mp (hg j hj).1)
    have f5 : (sfB B len q).1 ≤ 5 := (sf_place hP q (Nat.le_refl _)).1
    by_cases z : (sfB B len q).1 = 0
    · have x3 := x3 z
      rw [z] at x1
      rw [if_pos z] at x2
      have I : SfI (ssK (tkK B len) q) (npK (tkK B len) q) (sfB B len q) := sfI_all q hg
      have G := (I z).1
      have G1 : (sfB B len q).2.2.1.1 ≤ 12 := G.1
      obtain ⟨h4, t1, t2, t3, t4⟩ := takeFrom_ok Ob8 (h := sI hp 1 1 0) (d := (sfB B len q).2.2.1) G1 (u := 4) (ua := 5) (ub := 6) ⟨Ob4.1, Ob4.2.1⟩ (by decide) (CCc_4 (fun o k ho => by rw [hI_n (by omega)]) x3)
      have a1 : f_C_read h = some (0, clS 78 (sI (sI h4 0 13 0) 0 14 0) 3) := by
        unfold f_C_read
        rw [p1, Option.bind_some]
        show (if v = 0 then (f_Cloud_takeFrom 8 4 (sI hp 1 1 0)).bind _ else _) = _
        rw [x1, if_pos (show nI 0 = (0 : Int32) from rfl), t1, Option.bind_some]
        unfold f_C_forgetPast
        rw [emptyS_ok]
        rfl
      generalize hh1 : clS 78 (sI (sI h4 0 13 0) 0 14 0) 3 = h1 at a1
      have e0 : ∀ o k, o ≠ 78 → ¬ (o = 0 ∧ (k = 13 ∨ k = 14)) → hI h1 o k = hI h4 o k := fun o k a b => by
        rw [← hh1, clS_o a, hI_n (by omega), hI_n (by omega)]
      have e1 : ∀ o k, o ≠ 78 → ¬ (o = 0 ∧ (k = 13 ∨ k = 14)) → o ≠ 8 → o ≠ 9 → o ≠ 10 → o ≠ 1 → o ≠ 3 → o ≠ 4 → o ≠ 5 → o ≠ 6 → hI h1 o k = hI h o k := fun o k a b c d e f g i j l => by
        rw [e0 o k a b, t4.1 o k c d e, hI_n (by omega)]; exact p2.1 o k f g i j l
      have e86 : ∀ k, hL h1 86 k = hL h 86 k := fun k => by
        have : hL h1 86 k = hL hp 86 k := by
          unfold hL; rw [← hh1, clS_l, sI_2, sI_2, t4.2, sI_2]
        rw [this]
        exact p2.2.2 86 k (by omega) (by omega)
      obtain ⟨⟨v', h3⟩, r1, h2, b1, b2, b3, b4⟩ := ref h1 (fun o k ho => e1 o k (by omega) (by omega) (by omega) (by omega) (by omega) (by omega) (by omega) (by omega) (by omega) (by omega)) e86
      obtain ⟨c1, c2, c3, c4⟩ := b4.2 hf
      obtain ⟨-, c5, c6, c7⟩ := c4 z
      rw [z] at c3
      rw [if_pos z] at c2
      have c1 : v' = nI (sfB B len q).1 := c1
      rw [z] at c1
      subst c1
      have c2 : hI h3 79 16 = -1 := c2
      have c3 : FRk 0 h2 h3 := c3
      have k1 : ∀ o k, o < 79 → hI h3 o k = hI h1 o k := fun o k ho => by rw [c3.1 o k (by omega), b2 o k (by omega) (by omega)]
      have k2 : ∀ o k, (o = 79 ∧ k = 23) → hI h3 o k = hI h o k := fun o k ho => by rw [c3.1 o k (by omega), b2 o k (by omega) (by omega), e1 o k (by omega) (by omega) (by omega) (by omega) (by omega) (by omega) (by omega) (by omega) (by omega) (by omega)]
      refine ⟨0, h1, h3, a1, r1, (sfB B len q).2.2.1, 0, P, fun _ => none, 0, B, -1, ⟨G, by omega, fun i hi => absurd hi (by omega), fun i c' hc => (by cases hc), by omega, fun i hi => absurd hi (by omega)⟩, VC.ag hKC hKD hKE (Nat.le_refl _) (fun o k ho => k1 o k (Rc_lt ho)) ?_, ?_⟩
      · refine ⟨vc.1.chg hn (CCc.fr (fun o k ho => e0 o k (by omega) (by omega)) t2) (d := 1 + (sfB B len q).2.2.1.1) (by omega) ?_ (fun o k ho => e1 o k (by omega) (by omega) (by omega) (by omega) (by omega) (by omega) (by omega) (by omega) (by omega) (by omega)), ⟨0, ⟨?_, ?_, by omega⟩, fun i hi => absurd hi (by omega)⟩, fun i hi => ⟨by rw [← hh1]; exact clS_i hi, fun c' hc => (by cases hc)⟩, ⟨?_, fun i hi => absurd hi (by omega)⟩, ?_⟩
        · rw [e0 8 4 (by omega) (by omega), t3, hI_n (by omega), p2.1 8 4 (by omega) (by omega) (by omega) (by omega) (by omega)]
        · rw [← hh1, clS_o (by omega), hI_n (by omega), hI_s]; rfl
        · rw [← hh1, clS_o (by omega), hI_s]; rfl
        · rw [e0 1 1 (by omega) (by omega), t4.1 1 1 (by omega) (by omega) (by omega), hI_s]; rfl
        · rw [e0 3 1 (by omega) (by omega), t4.1 3 1 (by omega) (by omega) (by omega), hI_n (by omega)]; exact x2
      · obtain ⟨er, ⟨-, y2, y3⟩, -⟩ := vr.2.1
        refine ⟨c5, ⟨er, ⟨c6, by rw [k2 79 23 (by omega)]; exact y2, y3⟩, fun i hi => absurd hi (by omega)⟩, fun i hi => ⟨c7 i hi, fun c' hc => (by cases hc)⟩, ⟨?_, fun i hi => absurd hi (by omega)⟩, c2, ?_⟩
        · rw [c3.1 79 2 (by omega), b1]; rfl
        · have : ∀ k, hL h3 86 k = hL h 86 k := fun k => by
            rw [c3.2 k]
            have : hL h2 86 k = hL h1 86 k := by unfold hL; rw [b3]
            rw [this, e86]
          rw [this, this]; exact vr.2.2.2.2.2
    · rw [if_neg z] at x2
      refine fail (sfB B len q).1 (nI (sfB B len q).2.1) (by omega) f5 x1 x2 (fun h2 r H => ?_)
      obtain ⟨c1, c2, c3, -⟩ := H.2 hf
      rw [if_neg z] at c2
      exact ⟨c1, c2, c3⟩
  · obtain ⟨x1, x2⟩ := p3 hf
    have f2 : hfK (tkK B len) q ≤ 2 := by
      unfold hfK
      repeat' split
      all_goals omega
    exact fail (hfK (tkK B len) q) (nI (tsk B len q)) (by omega) (by omega) x1 x2 (fun h2 r H => H.1 hf)
end SR1
theorem sp_all : SpAll (JJ KCc KDd KEe) := all_but (sp_read Kst_KCc Kst_KDd Kst_KEe)
