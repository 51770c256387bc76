/-! depth, deepest -/
def Fp (S : Nat → Nat → Prop) (h h' : pH) : Prop := (∀ o k, ¬ S o k → hI h' o k = hI h o k) ∧ h'.2 = h.2
theorem Fp.rfl' {S : Nat → Nat → Prop} {h : pH} : Fp S h h := ⟨fun _ _ _ => rfl, rfl⟩
theorem Fp.trans {S : Nat → Nat → Prop} {h h' h'' : pH} (A : Fp S h h') (B : Fp S h' h'') : Fp S h h'' := ⟨fun o k x => (B.1 o k x).trans (A.1 o k x), B.2.trans A.2⟩
theorem Fp.set {S : Nat → Nat → Prop} {h h' : pH} (A : Fp S h h') {o k : Nat} {v : Int32} (ho : S o k) : Fp S h (sI h' o k v) := ⟨fun a k' x => by rw [hI_n (show ¬ (a = o ∧ k' = k) from fun e => x (by rw [e.1, e.2]; exact ho))]; exact A.1 a k' x, by rw [sI_2]; exact A.2⟩
theorem RR.fp {S : Nat → Nat → Prop} {h h' : pH} {n g : Nat} {X Y : Nat → Int} (C : RR h n g X Y) (A : Fp S h h') (h0 : ∀ k, ¬ S 87 k) : RR h' n g X Y := ⟨by rw [A.1 _ _ (h0 _)]; exact C.1, by rw [A.1 _ _ (h0 _)]; exact C.2.1, fun i hi => by rw [A.1 _ _ (h0 _), A.1 _ _ (h0 _)]; exact C.2.2 i hi⟩
def S79 (o k : Nat) : Prop := o = 79 ∧ 32 ≤ k ∧ k ≤ 34
def DV (h : pH) (c : Cfg) (t : Nat) (h' : pH) : Prop := Fp S79 h h' ∧ (0 < t → hI h' 79 34 = nI (dc c t) ∧ hI h' 79 32 = iI (px c.2.1 (df c t)) ∧ hI h' 79 33 = iI (py c.2.1 (df c t)))
section DE
variable {h : pH} {c : Cfg}
theorem deepestOf_ok (C : RRc h c) (G : GCc c) : ∃ h', f_R_deepestOf h = some (iI (db c (wd c.2.1 * wd c.2.1)), h') ∧ DV h c (wd c.2.1 * wd c.2.1) h' := by
  have hn := G.1
  have hg : c.2.1 ≤ 20 := G.2.1.2
  have hw : wd c.2.1 ≤ 41 := by unfold wd; omega
  have cf : ∀ t h', DV h c t h' → RRc h' c := fun t h' S => RR.fp C S.1 (fun k e => by unfold S79 at e; omega)
  unfold f_R_deepestOf
  rw [C.2.1]
  obtain ⟨⟨r1, r2⟩, e1, e2, e3⟩ := lp_grid (f1 := fun s => f_R_deepestOf_L1 (nI c.2.1) s.1 s.2.1 s.2.2) (fun j s => f_R_deepestOf_L2 (nI c.2.1) (iI (-(c.2.1 : Int) + (j : Int))) s.1 s.2.1 s.2.2) (wd c.2.1) (fun j s => s.1 = iI (db c (wd c.2.1 * j)) ∧ s.2.1 = iI (-(c.2.1 : Int) + (j : Int)) ∧ DV h c (wd c.2.1 * j) s.2.2) (fun j i s => s.1 = iI (db c (wd c.2.1 * j + i)) ∧ s.2.1 = iI (-(c.2.1 : Int) + (i : Int)) ∧ DV h c (wd c.2.1 * j + i) s.2.2) (fun r => r.1 = iI (db c (wd c.2.1 * wd c.2.1)) ∧ DV h c (wd c.2.1 * wd c.2.1) r.2) hw (by
    rintro j ⟨a, b, h'⟩ hj ⟨rfl, rfl, S⟩
    have S : DV h c (wd c.2.1 * j) h' := S
    show ∃ s', f_R_deepestOf_L1 (nI c.2.1) (iI (db c (wd c.2.1 * j))) (iI (-(c.2.1 : Int) + (j : Int))) h' = _ ∧ _
    unfold f_R_deepestOf_L1
    rw [if_neg (fun x => by have := (g_end hg (by omega)).mp x; omega), ng0]
    exact ⟨_, rfl, rfl, rfl, S⟩) (by
    rintro ⟨a, b, h'⟩ ⟨rfl, rfl, S⟩
    have S : DV h c (wd c.2.1 * wd c.2.1) h' := S
    show ∃ s', f_R_deepestOf_L1 (nI c.2.1) (iI (db c (wd c.2.1 * wd c.2.1))) (iI (-(c.2.1 : Int) + (wd c.2.1 : Int))) h' = _ ∧ _
    unfold f_R_deepestOf_L1
    rw [if_pos ((g_end hg (Nat.le_refl _)).mpr rfl)]
    exact ⟨_, rfl, rfl, S⟩) (by
    rintro j i ⟨a, b, h'⟩ hj hi ⟨rfl, rfl, S⟩
    have S : DV h c (wd c.2.1 * j + i) h' := S
    have C' := cf _ _ S
    show ∃ s', f_R_deepestOf_L2 (nI c.2.1) (iI (-(c.2.1 : Int) + (j : Int))) (iI (db c (wd c.2.1 * j + i))) (iI (-(c.2.1 : Int) + (i : Int))) h' = _ ∧ _
    unfold f_R_deepestOf_L2 f_R_deepestOf_J3
    have w1 : wd c.2.1 = 2 * c.2.1 + 1 := rfl
    rw [if_neg (fun x => by have := (g_end hg (by omega)).mp x; omega), R_depthOf_ok C' G (x := -(c.2.1 : Int) + (i : Int)) (y := -(c.2.1 : Int) + (j : Int)) (by omega) (by omega)]
    simp only [Option.bind_some]
    have ed : dp c.1 c.2.2.1 c.2.2.2 (-(c.2.1 : Int) + (i : Int)) (-(c.2.1 : Int) + (j : Int)) = dps c (wd c.2.1 * j + i) := by unfold dps; rw [px_at _ _ hi, py_at _ _ hi]
    have ex := px_at c.2.1 j hi
    have ey := py_at c.2.1 j hi
    rw [ed, nx1]
    clear ed
    show ∃ s' : Int32 × Int32 × pH, _ ∧ s'.1 = iI (db c (wd c.2.1 * j + i + 1)) ∧ s'.2.1 = iI (-(c.2.1 : Int) + ((i + 1 : Nat) : Int)) ∧ DV h c (wd c.2.1 * j + i + 1) s'.2.2
    generalize wd c.2.1 * j + i = t at *
    have b := db_in hn t
    have l := dps_le c t
    obtain ⟨s1, s2⟩ := S
    rw [nI_iI]
    simp only [iI_le (show InR ((dps c t : Nat) : Int) by unfold InR; omega) (show InR (db c t) by unfold InR; omega), iI_eq (show InR ((dps c t : Nat) : Int) by unfold InR; omega) (show InR (db c t) by unfold InR; omega)]
    by_cases e : db c t < dps c t
    · rw [if_neg (by omega), if_pos trivial, hI_s]
      refine ⟨_, rfl, ?_, rfl, (((s1.set ⟨rfl, by omega, by omega⟩).set ⟨rfl, by omega, by omega⟩).set ⟨rfl, by omega, by omega⟩).set ⟨rfl, by omega, by omega⟩, fun _ => ⟨?_, ?_, ?_⟩⟩
      · unfold db
        rw [if_pos e]
      · rw [hI_s]
        unfold dc
        rw [if_pos e]
        rfl
      · rw [hI_n (by omega), hI_n (by omega), hI_n (by omega), hI_s]
        unfold df
        rw [if_pos e, ex]
      · rw [hI_n (by omega), hI_n (by omega), hI_s]
        unfold df
        rw [if_pos e, ey]
    · rw [if_pos (by omega)]
      have ht : 0 < t := by
        by_cases z : t = 0
        · subst z
          exact absurd (show (-1 : Int) < dps c 0 by omega) e
        · omega
      have s2 := s2 ht
      by_cases e2 : (dps c t : Int) = db c t
      · rw [if_pos e2, s2.1, nI_1]
        refine ⟨_, rfl, ?_, rfl, s1.set ⟨rfl, by omega, by omega⟩, fun _ => ⟨?_, ?_, ?_⟩⟩
        · conv => rhs; unfold db
          rw [if_neg e]
        · rw [hI_s]
          conv => rhs; unfold dc
          rw [if_neg e, if_pos e2]
        · rw [hI_n (by omega), s2.2.1]
          conv => rhs; unfold df
          rw [if_neg e]
        · rw [hI_n (by omega), s2.2.2]
          conv => rhs; unfold df
          rw [if_neg e]
      · rw [if_neg e2]
        refine ⟨_, rfl, ?_, rfl, s1, fun _ => ⟨?_, ?_, ?_⟩⟩
        · conv => rhs; unfold db
          rw [if_neg e]
        · show hI h' 79 34 = _
          rw [s2.1]
          conv => rhs; unfold dc
          rw [if_neg e, if_neg e2]
        · show hI h' 79 32 = _
          rw [s2.2.1]
          conv => rhs; unfold df
          rw [if_neg e]
        · show hI h' 79 33 = _
          rw [s2.2.2]
          conv => rhs; unfold df
          rw [if_neg e]) (by
    rintro j ⟨a, b, h'⟩ hj ⟨rfl, rfl, S⟩
    have S : DV h c (wd c.2.1 * j + wd c.2.1) h' := S
    show ∃ s', f_R_deepestOf_L2 (nI c.2.1) (iI (-(c.2.1 : Int) + (j : Int))) (iI (db c (wd c.2.1 * j + wd c.2.1))) (iI (-(c.2.1 : Int) + (wd c.2.1 : Int))) h' = _ ∧ _
    unfold f_R_deepestOf_L2
    rw [if_pos ((g_end hg (Nat.le_refl _)).mpr rfl), nx1]
    exact ⟨_, rfl, by show _ = iI (db c (wd c.2.1 * (j + 1))); rw [Nat.mul_add, Nat.mul_one], rfl, by show DV h c (wd c.2.1 * (j + 1)) h'; rw [Nat.mul_add, Nat.mul_one]; exact S⟩) (s := (-1, -(nI c.2.1), h)) ⟨by rw [Nat.mul_zero]; rfl, ng0 _, Fp.rfl', fun x => by rw [Nat.mul_zero] at x; omega⟩
  have e2 : r1 = iI (db c (wd c.2.1 * wd c.2.1)) := e2
  subst e2
  exact ⟨r2, e1, e3⟩
end DE
section DS
variable {KC KE : pH → Cfg → Prop}
/-- the survey keeps the rest -/
theorem VC.sv (sC : ∀ h h' c, (∀ k, hI h' 23 k = hI h 23 k) → KC h c → KC h' c) (sE : ∀ h h' c, (∀ k, hI h' 26 k = hI h 26 k) → KE h c → KE h' c) {k : Nat} {h h' : pH} {c : Cfg} {und : Nat} {P : Nat → Cfg} {S : Nat → Option Cfg} {len : Nat} {B : Nat → Nat} {pl : Int32} (H : VC KC KDd KE k h c und P S len B pl) (F : Fs [17, 18, 19, 20] h h') (e3 : hI h' 17 3 = hI h 8 4) (kd : KDd h' c) : VC KC KDd KE (k + 1) h' c und P S len B pl := by
  obtain ⟨⟨st, cc, hs, ⟨a1, b1, b2, b3, b4⟩, ⟨a2, d1, d2, d3, d4⟩, ⟨a3, f1, f2, f3, f4⟩⟩, h2, h3, h4, h5⟩ := H
  refine ⟨⟨st, CC.fs cc F (by decide) (by rw [rf8_0]; decide) (by rw [rf8_1]; decide), ⟨by rw [F.1 8 4 (by decide)]; exact hs.1, by omega⟩, ⟨a1, by rw [F.1 21 1 (by decide)]; exact b1, b2, b3, fun e => sC h h' c (fun k => F.1 23 k (by decide)) (b4 e)⟩, ⟨st, by rw [e3, hs.1, nI_iI], by omega, by omega, fun _ => kd⟩, ⟨a3, by rw [F.1 26 1 (by decide)]; exact f1, f2, f3, fun e => sE h h' c (fun k => F.1 26 k (by decide)) (f4 e)⟩⟩, h2.fr (fun o k q => F.1 o k ?_), h3.fr (fun o k q => F.1 o k ?_), h4.fr (fun o k q => F.1 o k ?_), by rw [F.1 3 1 (by decide)]; exact h5⟩
  · intro x
    simp only [List.mem_cons, List.not_mem_nil, or_false] at x
    unfold Pu at q
    omega
  · intro x
    simp only [List.mem_cons, List.not_mem_nil, or_false] at x
    unfold Ps at q
    omega
  · intro x
    simp only [List.mem_cons, List.not_mem_nil, or_false] at x
    unfold Pt at q
    omega
theorem VR.fs {h h' : pH} {c : Cfg} {und : Nat} {P : Nat → Cfg} {S : Nat → Option Cfg} {len : Nat} {B : Nat → Nat} {pl : Int32} (H : VR h c und P S len B pl) (gs : GS c und P S len B) {L : List Nat} (F : Fs L h h') (hL' : ∀ o, o ∈ L → o < 79) : VR h' c und P S len B pl := H.ag gs (fun o k hr => F.1 o k (fun x => by have := hL' o x; have := Rr_ge hr; omega)) (fun k => by unfold hL; rw [F.2])
theorem VR.fp {h h' : pH} {c : Cfg} {und : Nat} {P : Nat → Cfg} {S : Nat → Option Cfg} {len : Nat} {B : Nat → Nat} {pl : Int32} (H : VR h c und P S len B pl) (gs : GS c und P S len B) {Q : Nat → Nat → Prop} (F : Fp Q h h') (hQ : ∀ o k, Q o k → ¬ Rr o k) : VR h' c und P S len B pl := H.ag gs (fun o k hr => F.1 o k (fun x => hQ o k x hr)) (fun k => by unfold hL; rw [F.2])
theorem VC.fp {KD : pH → Cfg → Prop} (hKC : Kst KC) (hKD : Kst KD) (hKE : Kst KE) {k k' : Nat} (hk : k ≤ k') {h h' : pH} {c : Cfg} {und : Nat} {P : Nat → Cfg} {S : Nat → Option Cfg} {len : Nat} {B : Nat → Nat} {pl : Int32} (H : VC KC KD KE k h c und P S len B pl) {Q : Nat → Nat → Prop} (F : Fp Q h h') (hQ : ∀ o k, Q o k → ¬ Rc o k) : VC KC KD KE k' h' c und P S len B pl := H.ag hKC hKD hKE hk (fun o k hr => F.1 o k (fun x => hQ o k x hr))
theorem s79_c : ∀ o k, S79 o k → ¬ Rc o k := fun o k x y => by have := Rc_lt y; unfold S79 at x; omega
theorem s79_r : ∀ o k, S79 o k → ¬ Rr o k := fun o k x y => by unfold S79 at x; unfold Rr Qu Qs Qt at y; omega
theorem sp_deepest (hKC : Kst KC) (hKE : Kst KE) (sC : ∀ h h' c, (∀ k, hI h' 23 k = hI h 23 k) → KC h c → KC h' c) (sE : ∀ h h' c, (∀ k, hI h' 26 k = hI h 26 k) → KE h c → KE h' c) : Sp_deepest (JJ KC KDd KE) := by
  intro k h hk512 H a0
  obtain ⟨c, und, P, S, len, B, pl, gs, vc, vr⟩ := H
  have G := gs.1
  obtain ⟨h1, e1, f1, e3, kd⟩ := survey_ok (by omega) vc.1 G
  have vc1 := vc.sv sC sE f1 e3 kd
  have vr1 := vr.fs gs f1 (by decide)
  unfold f_C_deepest f_R_deepest
  rw [e1]
  simp only [Option.bind_some]
  have done : JJ KC KDd KE (k + 1) h1 := ⟨c, und, P, S, len, B, pl, gs, vc1, vr1⟩
  obtain ⟨h2, d1, d2, d3⟩ := deepestOf_ok vr1.1 G
  have done2 : JJ KC KDd KE (k + 1) h2 := ⟨c, und, P, S, len, B, pl, gs, vc1.fp hKC Kst_KDd hKE (Nat.le_refl _) d2 s79_c, vr1.fp gs d2 s79_r⟩
  have d3 := d3 (by unfold wd; exact Nat.mul_pos (by omega) (by omega))
  obtain ⟨k1, k2, k3, k4, -⟩ := kd
  by_cases q : 0 ≤ a0.toInt ∧ a0.toInt ≤ 3
  · obtain ⟨m, hm, rfl⟩ := pt_nat (n := 4) q.1 (by omega)
    have : m = 0 ∨ m = 1 ∨ m = 2 ∨ m = 3 := by omega
    have hin : f_R_in (nI m) 0 3 = 1 := by
      rw [show f_R_in (nI m) 0 3 = _ from in_ok (nI m) (lo := 0) (hi := 3) (by unfold InR; omega) (by unfold InR; omega), if_pos q]
    simp only [hin]
    rcases this with rfl | rfl | rfl | rfl
    · refine ⟨_, h1, h2, rfl, ?_, done2⟩
      rw [d1, k1]
      rfl
    · refine ⟨_, h1, h2, rfl, ?_, done2⟩
      rw [d1, k2]
      show some (hI h2 79 34, h2) = _
      rw [d3.1]
    · refine ⟨_, h1, h2, rfl, ?_, done2⟩
      rw [d1, k3]
      show some (hI h2 79 32, h2) = _
      rw [d3.2.1]
    · refine ⟨_, h1, h2, rfl, ?_, done2⟩
      rw [d1, k4]
      show some (hI h2 79 33, h2) = _
      rw [d3.2.2]
  · have ne : ∀ z : Int, 0 ≤ z ∧ z ≤ 3 → ¬ a0 = iI z := by
      rintro z hz rfl
      rw [iI_toInt (by unfold InR; omega)] at q
      omega
    rw [if_neg (show ¬ a0 = 0 from ne 0 (by omega)), if_neg (show ¬ a0 = 1 from ne 1 (by omega)), if_neg (show ¬ a0 = 2 from ne 2 (by omega)), if_neg (show ¬ a0 = 3 from ne 3 (by omega))]
    refine ⟨_, h1, h1, rfl, ?_, done⟩
    rw [show f_R_in a0 0 3 = _ from in_ok a0 (lo := 0) (hi := 3) (by unfold InR; omega) (by unfold InR; omega), if_neg q]
    rfl
theorem place_ok (x y : Int32) : f_C_isPlace x y = if (-200 ≤ x.toInt ∧ x.toInt ≤ 200) ∧ (-200 ≤ y.toInt ∧ y.toInt ≤ 200) then 1 else 0 := by
  unfold f_C_isPlace
  have t1 : x < -200 ↔ x.toInt < -200 := by
    rw [iI_of x, show (-200 : Int32) = iI (-200) from rfl, iI_lt (InR_of x) (by unfold InR; omega), iI_toInt (InR_of x)]
  have t2 : y < -200 ↔ y.toInt < -200 := by
    rw [iI_of y, show (-200 : Int32) = iI (-200) from rfl, iI_lt (InR_of y) (by unfold InR; omega), iI_toInt (InR_of y)]
  have t3 : 200 < x ↔ 200 < x.toInt := by
    rw [iI_of x, show (200 : Int32) = iI 200 from rfl, iI_lt (by unfold InR; omega) (InR_of x), iI_toInt (InR_of x)]
  have t4 : 200 < y ↔ 200 < y.toInt := by
    rw [iI_of y, show (200 : Int32) = iI 200 from rfl, iI_lt (by unfold InR; omega) (InR_of y), iI_toInt (InR_of y)]
  simp only [t1, t2, t3, t4]
  by_cases c1 : x.toInt < -200
  · rw [if_pos c1, if_neg (by omega)]
  · by_cases c2 : 200 < x.toInt
    · rw [if_neg c1, if_pos c2, if_neg (by omega)]
    · by_cases c3 : y.toInt < -200
      · rw [if_neg c1, if_neg c2, if_pos c3, if_neg (by omega)]
      · by_cases c4 : 200 < y.toInt
        · rw [if_neg c1, if_neg c2, if_neg c3, if_pos c4, if_neg (by omega)]
        · rw [if_neg c1, if_neg c2, if_neg c3, if_neg c4, if_pos (by omega)]
theorem in200 (x : Int32) : f_R_in x (-200) 200 = if -200 ≤ x.toInt ∧ x.toInt ≤ 200 then 1 else 0 := by
  have a := in_ok x (lo := -200) (hi := 200) (by unfold InR; omega) (by unfold InR; omega)
  exact a
theorem sc_19 : ∀ o, o ∈ [19, 20] → o < 79 ∧ ∀ k, ¬ Rc o k := by
  intro o ho
  simp only [List.mem_cons, List.not_mem_nil, or_false] at ho
  exact ⟨by omega, fun k hr => by unfold Rc Pl Pu Ps Pt at hr; omega⟩
theorem VC.fs {KD : pH → Cfg → Prop} (hKC : Kst KC) (hKD : Kst KD) (hKE : Kst KE) {k k' : Nat} (hk : k ≤ k') {h h' : pH} {c : Cfg} {und : Nat} {P : Nat → Cfg} {S : Nat → Option Cfg} {len : Nat} {B : Nat → Nat} {pl : Int32} (H : VC KC KD KE k h c und P S len B pl) {L : List Nat} (F : Fs L h h') (hQ : ∀ o, o ∈ L → ∀ k, ¬ Rc o k) : VC KC KD KE k' h' c und P S len B pl := H.ag hKC hKD hKE hk (fun o k hr => F.1 o k (fun x => hQ o x k hr))
theorem sp_depth {KD : pH → Cfg → Prop} (hKC : Kst KC) (hKD : Kst KD) (hKE : Kst KE) : Sp_depth (JJ KC KD KE) := by
  intro k h _ H a0 a1
  have H0 := H
  obtain ⟨c, und, P, S, len, B, pl, gs, vc, vr⟩ := H
  have G := gs.1
  unfold f_C_depth f_R_depth
  simp only [place_ok, in200]
  by_cases q : (-200 ≤ a0.toInt ∧ a0.toInt ≤ 200) ∧ (-200 ≤ a1.toInt ∧ a1.toInt ≤ 200)
  · obtain ⟨h1, e1, f1⟩ := depthAt_ok vc.cc G (by decide) (by rw [rf8_0]; decide) (by rw [rf8_1]; decide) q.1 q.2
    rw [← iI_of, ← iI_of] at e1
    have vr1 := vr.fs gs f1 (by decide)
    have e2 := R_depthOf_ok vr1.1 G q.1 q.2
    rw [← iI_of, ← iI_of] at e2
    rw [if_pos q, if_neg (by decide), e1]
    refine ⟨_, h1, rfl, ?_, c, und, P, S, len, B, pl, gs, vc.fs hKC hKD hKE (by omega) f1 (fun o ho => (sc_19 o ho).2), vr1⟩
    rw [if_pos q.1, if_pos q.2, if_neg (by decide), if_neg (by decide), e2]
    rfl
  · rw [if_neg q, if_pos rfl]
    refine ⟨_, h, rfl, ?_, H0.mono hKC hKD hKE⟩
    by_cases q1 : -200 ≤ a0.toInt ∧ a0.toInt ≤ 200
    · rw [if_pos q1, if_neg (by decide), if_neg (fun x => q ⟨q1, x⟩), if_pos rfl]
    · rw [if_neg q1, if_pos rfl]
end DS
