/-! by hand: add, goes, move, turn -/
theorem SR.mk' {h h' : pH} (A : ∀ o k, 79 ≤ o → hI h' o k = hI h o k) (B : h'.2 = h.2) : SR h h' := fun o ho => ⟨by funext k; exact A o k ho, by rw [B]⟩
theorem SC.mk' {h h' : pH} (A : ∀ o k, o < 79 → hI h' o k = hI h o k) (B : h'.2 = h.2) : SC h h' := fun o ho => ⟨by funext k; exact A o k ho, by rw [B]⟩
theorem Pu_lt {o k : Nat} (h : Pu o k) : o < 79 := by unfold Pu at h; omega
theorem Qu_ge {o k : Nat} (h : Qu o k) : 79 ≤ o := by unfold Qu at h; omega
theorem GC_push {und : Nat} {P : Nat → Cfg} {c : Cfg} (hP : ∀ i, i < und → GCc (P i)) (hu : und ≤ 40) (hc : GCc c) : pushU und ≤ 40 ∧ ∀ i, i < pushU und → GCc (pushP und P c i) := by
  unfold pushU
  refine ⟨by split <;> omega, fun i hi => ?_⟩
  unfold pushP
  by_cases e : und < 40
  · rw [if_pos e] at hi ⊢
    by_cases e2 : i = und
    · rw [if_pos e2]; exact hc
    · rw [if_neg e2]; exact hP i (by omega)
  · rw [if_neg e] at hi ⊢
    by_cases e2 : i = 39
    · rw [if_pos e2]; exact hc
    · rw [if_neg e2]; exact hP (i + 1) (by omega)
theorem GC_add {c : Cfg} (G : GCc c) (hn : c.1 < 12) {x y : Int} (hf : frB c x y = true) : GCc (addC c x y) := by
  unfold frB at hf
  simp only [Bool.and_eq_true, decide_eq_true_eq, Bool.not_eq_true'] at hf
  obtain ⟨⟨hx, hy⟩, ht⟩ := hf
  have ht : ∀ j, j < c.1 → isAt c x y j = false := ex_no.mp ht
  have ht' : ∀ j, j < c.1 → c.2.2.1 j = x → c.2.2.2 j = y → False := by
    intro j hj e1 e2
    have := ht j hj
    unfold isAt at this
    simp [e1, e2] at this
  obtain ⟨g1, g2, g3, g4⟩ := G
  refine ⟨by show c.1 + 1 ≤ 12; omega, g2, fun i hi => ?_, fun i j hi hj => ?_⟩
  · have hi : i < c.1 + 1 := hi
    show -50 ≤ updF _ _ _ i ∧ updF _ _ _ i ≤ (50 : Int) ∧ -50 ≤ updF _ _ _ i ∧ updF _ _ _ i ≤ (50 : Int)
    unfold updF
    by_cases e : i = c.1
    · simp only [if_pos e]; omega
    · simp only [if_neg e]; exact g3 i (by omega)
  · have hi : i < c.1 + 1 := hi
    have hj : j < c.1 + 1 := hj
    show updF _ _ _ i = updF _ _ _ j → updF _ _ _ i = updF _ _ _ j → i = j
    unfold updF
    by_cases e1 : i = c.1
    · by_cases e2 : j = c.1
      · intros; omega
      · simp only [if_pos e1, if_neg e2]
        intro a b
        exact absurd b.symm (fun b' => ht' j (by omega) a.symm b')
    · by_cases e2 : j = c.1
      · simp only [if_neg e1, if_pos e2]
        intro a b
        exact absurd b (fun b' => ht' i (by omega) a b')
      · simp only [if_neg e1, if_neg e2]
        exact g4 i j (by omega) (by omega)
theorem GC_mov {c : Cfg} (G : GCc c) {p : Nat} {x y : Int} (hf : frB c x y = true) : GCc (movC c p x y) := by
  unfold frB at hf
  simp only [Bool.and_eq_true, decide_eq_true_eq, Bool.not_eq_true'] at hf
  obtain ⟨⟨hx, hy⟩, ht⟩ := hf
  have ht : ∀ j, j < c.1 → isAt c x y j = false := ex_no.mp ht
  have ht' : ∀ j, j < c.1 → c.2.2.1 j = x → c.2.2.2 j = y → False := by
    intro j hj e1 e2
    have := ht j hj
    unfold isAt at this
    simp [e1, e2] at this
  obtain ⟨g1, g2, g3, g4⟩ := G
  refine ⟨g1, g2, fun i hi => ?_, fun i j hi hj => ?_⟩
  · have hi : i < c.1 := hi
    show -50 ≤ updF _ _ _ i ∧ updF _ _ _ i ≤ (50 : Int) ∧ -50 ≤ updF _ _ _ i ∧ updF _ _ _ i ≤ (50 : Int)
    unfold updF
    by_cases e : i = p
    · simp only [if_pos e]; omega
    · simp only [if_neg e]; exact g3 i (by omega)
  · have hi : i < c.1 := hi
    have hj : j < c.1 := hj
    show updF _ _ _ i = updF _ _ _ j → updF _ _ _ i = updF _ _ _ j → i = j
    unfold updF
    by_cases e1 : i = p
    · by_cases e2 : j = p
      · intros; omega
      · simp only [if_pos e1, if_neg e2]
        intro a b
        exact absurd b.symm (fun b' => ht' j (by omega) a.symm b')
    · by_cases e2 : j = p
      · simp only [if_neg e1, if_pos e2]
        intro a b
        exact absurd b (fun b' => ht' i (by omega) a b')
      · simp only [if_neg e1, if_neg e2]
        exact g4 i j (by omega) (by omega)
theorem GC_gol {c : Cfg} (G : GCc c) {p : Nat} (hp : p < c.1) : GCc (golC c p) := by
  obtain ⟨g1, g2, g3, g4⟩ := G
  refine ⟨by show c.1 - 1 ≤ 12; omega, g2, fun i hi => ?_, fun i j hi hj => ?_⟩
  · have hi : i < c.1 - 1 := hi
    show -50 ≤ shF _ _ i ∧ shF _ _ i ≤ (50 : Int) ∧ -50 ≤ shF _ _ i ∧ shF _ _ i ≤ (50 : Int)
    unfold shF
    by_cases e : i < p
    · simp only [if_pos e]; exact g3 i (by omega)
    · simp only [if_neg e]; exact g3 (i + 1) (by omega)
  · have hi : i < c.1 - 1 := hi
    have hj : j < c.1 - 1 := hj
    show shF _ _ i = shF _ _ j → shF _ _ i = shF _ _ j → i = j
    unfold shF
    by_cases e1 : i < p
    · by_cases e2 : j < p
      · simp only [if_pos e1, if_pos e2]; exact g4 i j (by omega) (by omega)
      · simp only [if_pos e1, if_neg e2]; intro a b; have := g4 i (j + 1) (by omega) (by omega) a b; omega
    · by_cases e2 : j < p
      · simp only [if_neg e1, if_pos e2]; intro a b; have := g4 (i + 1) j (by omega) (by omega) a b; omega
      · simp only [if_neg e1, if_neg e2]; intro a b; have := g4 (i + 1) (j + 1) (by omega) (by omega) a b; omega
theorem GC_trn {c : Cfg} (G : GCc c) (m : Bool) : GCc (trnC c m) := by
  obtain ⟨g1, g2, g3, g4⟩ := G
  refine ⟨g1, g2, fun i hi => ?_, fun i j hi hj => ?_⟩
  · have hi : i < c.1 := hi
    have := g3 i hi
    cases m <;> simp [trnC] <;> omega
  · have hi : i < c.1 := hi
    have hj : j < c.1 := hj
    have := g4 i j hi hj
    cases m
    · simp [trnC]; intro a b; exact this b a
    · simp [trnC]; intro a b; exact this a b
section HD
variable {KC KD KE : pH → Cfg → Prop} {k : Nat} {h h' : pH} {c c' : Cfg} {und und' : Nat} {P P' : Nat → Cfg} {S : Nat → Option Cfg} {len : Nat} {B : Nat → Nat} {pl : Int32}
theorem VCl.chg (H : VCl KC KD KE k h c) (hk : k < 512) (C : CCc h' 8 c') {d : Nat} (hd : 1 ≤ d ∧ d ≤ 60) (s : hI h' 8 4 = hI h 8 4 + nI d) (A : ∀ o k, o = 21 ∨ o = 17 ∨ o = 26 → hI h' o k = hI h o k) : VCl KC KD KE (k + 1) h' c' := by
  obtain ⟨st, -, ⟨s1, s2⟩, ⟨a1, b1, b2, b3, -⟩, ⟨a2, d1, d2, d3, -⟩, ⟨a3, f1, f2, f3, -⟩⟩ := H
  exact ⟨st + d, C, ⟨by rw [s, s1, nI_add], by omega⟩, ⟨a1, by rw [A 21 1 (by omega)]; exact b1, b2, by omega, fun e => absurd e (by omega)⟩, ⟨a2, by rw [A 17 3 (by omega)]; exact d1, d2, by omega, fun e => absurd e (by omega)⟩, ⟨a3, by rw [A 26 1 (by omega)]; exact f1, f2, by omega, fun e => absurd e (by omega)⟩⟩
theorem VC.chg (H : VC KC KD KE k h c und P S len B pl) (hk : k < 512) (C : CCc h' 8 c') {d : Nat} (hd : 1 ≤ d ∧ d ≤ 60) (s : hI h' 8 4 = hI h 8 4 + nI d) (U : VCu h' und' P') (A : ∀ o k, o ≠ 8 → o ≠ 9 → o ≠ 10 → ¬ Pu o k → hI h' o k = hI h o k) : VC KC KD KE (k + 1) h' c' und' P' S len B pl := by
  refine ⟨H.1.chg hk C hd s (fun o k ho => A o k (by omega) (by omega) (by omega) (by unfold Pu; omega)), U, H.2.2.1.fr (fun o k q => ?_), H.2.2.2.1.fr (fun o k q => ?_), ?_⟩
  · unfold Ps at q; exact A o k (by omega) (by omega) (by omega) (by unfold Pu; omega)
  · unfold Pt at q; exact A o k (by omega) (by omega) (by omega) (by unfold Pu; omega)
  · rw [A 3 1 (by omega) (by omega) (by omega) (by unfold Pu; omega)]; exact H.2.2.2.2
theorem VR.chg (H : VR h c und P S len B pl) (g2 : ∀ i c', S i = some c' → GCc c') (C : RRc h' c') (U : VRu h' und' P') (A : ∀ o k, o ≠ 87 → ¬ Qu o k → hI h' o k = hI h o k) (A2 : h'.2 = h.2) : VR h' c' und' P' S len B pl := by
  refine ⟨C, U, H.2.2.1.fr g2 (fun o k q => ?_), H.2.2.2.1.fr (fun o k q => ?_), ?_, ?_⟩
  · unfold Qs at q; exact A o k (by omega) (by unfold Qu; omega)
  · unfold Qt at q; exact A o k (by omega) (by unfold Qu; omega)
  · rw [A 79 16 (by omega) (by unfold Qu; omega)]; exact H.2.2.2.2.1
  · unfold hL; rw [A2]; exact H.2.2.2.2.2
/-- a change done and remembered, on both sides -/
theorem done_ok (hKC : Kst KC) (hKD : Kst KD) (hKE : Kst KE) (hk : k < 512) (g : GS c und P S len B) (vc : VC KC KD KE k h c und P S len B pl) (vr : VR h c und P S len B pl) (G' : GCc c') {h1 h2 h3 h4 : pH} {d : Nat} (hd : 1 ≤ d ∧ d ≤ 60) (e1 : VCu h1 (pushU und) (pushP und P c)) (e2 : ∀ o k, ¬ Pu o k → hI h1 o k = hI h o k) (e3 : h1.2 = h.2) (a1 : CCc h2 8 c') (a2 : hI h2 8 4 = hI h1 8 4 + nI d) (a3 : Fr3 8 9 10 h1 h2) (m1 : VRu h3 (pushU und) (pushP und P c)) (m2 : ∀ o k, ¬ Qu o k → hI h3 o k = hI h2 o k) (m3 : h3.2 = h2.2) (n1 : RRc h4 c') (n2 : Fn h3 h4) : JJ KC KD KE (k + 1) h4 := by
  have g' := GC_push g.2.2.1 g.2.1 g.1
  have s12 : SR h h2 := SR.mk' (fun o k ho => by rw [a3.1 o k (by omega) (by omega) (by omega), e2 o k (fun q => by have := Pu_lt q; omega)]) (by rw [a3.2, e3])
  have s24 : SC h2 h4 := SC.mk' (fun o k ho => by rw [n2.1 o k (by omega), m2 o k (fun q => by have := Qu_ge q; omega)]) (by rw [n2.2, m3])
  refine ⟨c', pushU und, pushP und P c, S, len, B, pl, ⟨G', g'.1, g'.2, g.2.2.2⟩, ?_, ?_⟩
  · refine VC.sc hKC hKD hKE (Nat.le_refl _) s24 (vc.chg hk a1 hd ?_ (e1.fr (fun o k q => ?_)) (fun o k x y z w => ?_))
    · rw [a2, e2 8 4 (by unfold Pu; omega)]
    · exact a3.1 o k (by unfold Pu at q; omega) (by unfold Pu at q; omega) (by unfold Pu at q; omega)
    · rw [a3.1 o k x y z, e2 o k w]
  · refine (vr.sr g s12).chg g.2.2.2.1 n1 (m1.fr g'.2 (fun o k q => n2.1 o k (by unfold Qu at q; omega))) (fun o k x y => ?_) ?_
    · rw [n2.1 o k x, m2 o k y]
    · rw [n2.2, m3]
theorem s12_ok {h1 h2 : pH} (e2 : ∀ o k, ¬ Pu o k → hI h1 o k = hI h o k) (e3 : h1.2 = h.2) (a3 : Fr3 8 9 10 h1 h2) : SR h h2 := SR.mk' (fun o k ho => by rw [a3.1 o k (by omega) (by omega) (by omega), e2 o k (fun q => by have := Pu_lt q; omega)]) (by rw [a3.2, e3])
end HD
section SPH
variable {KC KD KE : pH → Cfg → Prop}
theorem VC.cc {k : Nat} {h : pH} {c : Cfg} {und : Nat} {P : Nat → Cfg} {S : Nat → Option Cfg} {len : Nat} {B : Nat → Nat} {pl : Int32} (H : VC KC KD KE k h c und P S len B pl) : CCc h 8 c := by
  obtain ⟨⟨st, cc, -⟩, -⟩ := H
  exact cc
theorem Pu_8 {k : Nat} : ¬ Pu 8 k := by unfold Pu; omega
theorem Pu_9 {k : Nat} : ¬ Pu 9 k ∧ ¬ Pu 10 k := by unfold Pu; omega
theorem Qu_87 {k : Nat} : ¬ Qu 87 k := by unfold Qu; omega
theorem CCc.pu {h h1 : pH} {c : Cfg} (e2 : ∀ o k, ¬ Pu o k → hI h1 o k = hI h o k) (C : CCc h 8 c) : CCc h1 8 c := C.fr (fun o k q => e2 o k (by unfold Pu; omega))
theorem RRc.qu {h h1 : pH} {c : Cfg} (e2 : ∀ o k, ¬ Qu o k → hI h1 o k = hI h o k) (C : RRc h c) : RRc h1 c := C.fr (fun k => e2 87 k Qu_87)
theorem sp_add (hKC : Kst KC) (hKD : Kst KD) (hKE : Kst KE) : Sp_add (JJ KC KD KE) := by
  intro n h hn HJ x y
  have HJ' := HJ
  obtain ⟨c, und, P, S, len, B, pl, g, vc, vr⟩ := HJ
  have cc := vc.cc
  have hc := g.1.1
  unfold f_C_add
  rw [cc.1, show (12 : Int32) = nI 12 from rfl]
  by_cases h12 : c.1 = 12
  · rw [if_pos (ge_yes (by omega) (by omega))]
    refine ⟨-1, h, h, rfl, ?_, HJ'.mono hKC hKD hKE⟩
    unfold f_R_add f_R_all
    rw [vr.1.1, if_pos (by rw [h12]; rfl)]
  · have hlt : c.1 < 12 := by have : c.1 ≤ 12 := hc; omega
    rw [if_neg (lt_no hlt (by omega)), isFree_ok cc g.1]
    simp only [Option.bind_some]
    cases hf : frB c x.toInt y.toInt
    · refine ⟨-1, h, h, rfl, ?_, HJ'.mono hKC hKD hKE⟩
      unfold f_R_add f_R_all
      rw [vr.1.1, show (12 : Int32) = nI 12 from rfl, if_neg (fun q => h12 ((nI_eqI (by omega) (by omega)).mp q)), canBe_ok vr.1 g.1, hf]
      rfl
    · obtain ⟨h1, r1, r2, r3, r4⟩ := remember_ok cc hc g.2.1 vc.2.1
      obtain ⟨h2, a1, a2, a3, a4⟩ := append_ok Ob8 (cc.pu r3) hlt x.toInt y.toInt
      rw [← iI_of, ← iI_of] at a1
      have s12 := s12_ok r3 r4 a4
      have w := vr.sr g s12
      obtain ⟨h3, m1, m2, m3, m4⟩ := marks_ok w.1 hc g.2.2.1 g.2.1 w.2.1
      have rr3 := w.1.qu m3
      have k8 : hI h2 8 2 = nI (c.1 + 1) := a2.1
      have n1 := R_addp rr3 x.toInt y.toInt
      refine ⟨nI c.1, h2, sI (sI (sI h3 87 (2 + 2 * c.1) x) 87 (3 + 2 * c.1) y) 87 0 (nI (c.1 + 1)), ?_, ?_, ?_⟩
      · rw [r1]
        simp only [Option.bind_some]
        rw [a1]
        simp only [Option.bind_some]
        rw [k8, show (1 : Int32) = nI 1 from rfl, pk_sub (by omega)]
        rfl
      · unfold f_R_add f_R_all
        rw [w.1.1, show (12 : Int32) = nI 12 from rfl, if_neg (fun q => h12 ((nI_eqI (by omega) (by omega)).mp q)), canBe_ok w.1 g.1, hf, m1]
        simp only [Option.bind_some]
        rw [rr3.1, lays3_ok hlt]
        simp only [Option.bind_some]
        rw [hI_n (h := sI h3 _ _ _) (by omega), hI_n (h := h3) (by omega), rr3.1, nI_1, hI_s, show (1 : Int32) = nI 1 from rfl, pk_sub (by omega)]
        rfl
      · refine done_ok hKC hKD hKE hn g vc vr (GC_add g.1 hlt hf) (d := 1) (by omega) r2 r3 r4 a2 a3 a4 m2 m3 m4 ?_ ((Fn.rfl'.set.set).set)
        rw [← iI_of, ← iI_of] at n1
        exact n1
theorem sp_move (hKC : Kst KC) (hKD : Kst KD) (hKE : Kst KE) : Sp_move (JJ KC KD KE) := by
  intro n h hn HJ q x y
  have HJ' := HJ
  obtain ⟨c, und, P, S, len, B, pl, g, vc, vr⟩ := HJ
  have cc := vc.cc
  have hc : c.1 ≤ 12 := g.1.1
  unfold f_C_move
  rw [has_in cc hc]
  by_cases hq : 0 ≤ q.toInt ∧ q.toInt < c.1
  · rw [if_pos hq, if_neg (by decide), isFree_ok cc g.1]
    simp only [Option.bind_some]
    obtain ⟨p, hp, rfl⟩ := pt_nat hq.1 hq.2
    cases hf : frB c x.toInt y.toInt
    · refine ⟨0, h, h, rfl, ?_, HJ'.mono hKC hKD hKE⟩
      unfold f_R_move
      rw [isPoint_ok vr.1 hc, if_pos hq, if_neg (by decide), canBe_ok vr.1 g.1, hf]
      rfl
    · obtain ⟨h1, r1, r2, r3, r4⟩ := remember_ok cc hc g.2.1 vc.2.1
      obtain ⟨h2, a1, a2, a3, a4⟩ := put_ok Ob8 (cc.pu r3) hc hp x.toInt y.toInt
      rw [← iI_of, ← iI_of] at a1
      have s12 := s12_ok r3 r4 a4
      have w := vr.sr g s12
      obtain ⟨h3, m1, m2, m3, m4⟩ := marks_ok w.1 hc g.2.2.1 g.2.1 w.2.1
      have rr3 := w.1.qu m3
      have n1 := R_put rr3 (p := p) (by omega) x.toInt y.toInt
      refine ⟨1, h2, sI (sI h3 87 (2 + 2 * p) x) 87 (3 + 2 * p) y, ?_, ?_, ?_⟩
      · rw [r1]
        simp only [Option.bind_some]
        rw [a1]
        rfl
      · unfold f_R_move
        rw [isPoint_ok w.1 hc, if_pos hq, if_neg (by decide), canBe_ok w.1 g.1, hf, m1]
        simp only [Option.bind_some]
        rw [lays3_ok (by omega)]
        rfl
      · refine done_ok hKC hKD hKE hn g vc vr (GC_mov g.1 hf) (d := 1) (by omega) r2 r3 r4 a2 a3 a4 m2 m3 m4 ?_ (Fn.rfl'.set.set)
        rw [← iI_of, ← iI_of] at n1
        exact n1
  · rw [if_neg hq, if_pos rfl]
    refine ⟨0, h, h, rfl, ?_, HJ'.mono hKC hKD hKE⟩
    unfold f_R_move
    rw [isPoint_ok vr.1 hc, if_neg hq, if_pos rfl]
end SPH
