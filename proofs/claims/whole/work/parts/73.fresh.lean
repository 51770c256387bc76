/-! fresh -/
def mxn (c : Cfg) : Nat → Nat
  | 0 => 0
  | t + 1 => max (mxn c t) (dps c t)
theorem mxn_db {c : Cfg} (hn : c.1 ≤ 12) (t : Nat) : (mxn c t : Int) = max 0 (db c t) ∧ mxn c t ≤ 12 := by
  induction t with
  | zero => exact ⟨by show ((0 : Nat) : Int) = max 0 (-1); omega, by simp [mxn]⟩
  | succ t ih =>
    have := dps_le c t
    have b := db_in hn t
    unfold mxn db
    split <;> omega
section FR
variable {h : pH} {c : Cfg}
theorem greatestOf_ok {o : Nat} (C : CCc h o c) (G : GCc c) (ho : o ∉ [19, 20]) (ho0 : rf o 0 ∉ [19, 20]) (ho1 : rf o 1 ∉ [19, 20]) : ∃ h', f_Depths_greatestOf o h = some (nI (mxn c (wd c.2.1 * wd c.2.1)), h') ∧ Fs [19, 20] h h' := by
  have hn := G.1
  have hg : c.2.1 ≤ 20 := G.2.1.2
  have hw : wd c.2.1 ≤ 41 := by unfold wd; omega
  have cf : ∀ h', Fs [19, 20] h h' → CC h' o c.1 c.2.1 c.2.2.1 c.2.2.2 := fun h' S => CC.fs C S ho ho0 ho1
  unfold f_Depths_greatestOf
  rw [C.2.1]
  obtain ⟨⟨r1, r2⟩, e1, e2, e3⟩ := lp_grid (f1 := fun s => f_Depths_greatestOf_L1 o s.1 s.2.1 s.2.2) (fun j s => f_Depths_greatestOf_L2 o (iI (-(c.2.1 : Int) + (j : Int))) s.1 s.2.1 s.2.2) (wd c.2.1) (fun j s => s.1 = nI (mxn c (wd c.2.1 * j)) ∧ s.2.1 = iI (-(c.2.1 : Int) + (j : Int)) ∧ Fs [19, 20] h s.2.2) (fun j i s => s.1 = nI (mxn c (wd c.2.1 * j + i)) ∧ s.2.1 = iI (-(c.2.1 : Int) + (i : Int)) ∧ Fs [19, 20] h s.2.2) (fun r => r.1 = nI (mxn c (wd c.2.1 * wd c.2.1)) ∧ Fs [19, 20] h r.2) hw (by
    rintro j ⟨a, b, h'⟩ hj ⟨rfl, rfl, S⟩
    have S : Fs [19, 20] h h' := S
    have C' := cf _ S
    show ∃ s', f_Depths_greatestOf_L1 o _ (iI (-(c.2.1 : Int) + (j : Int))) h' = _ ∧ _
    unfold f_Depths_greatestOf_L1
    rw [C'.2.1, if_neg (fun x => by have := (g_end hg (by omega)).mp x; omega), ng0]
    exact ⟨_, rfl, rfl, rfl, S⟩) (by
    rintro ⟨a, b, h'⟩ ⟨rfl, rfl, S⟩
    have S : Fs [19, 20] h h' := S
    have C' := cf _ S
    show ∃ s', f_Depths_greatestOf_L1 o _ (iI (-(c.2.1 : Int) + (wd c.2.1 : Int))) h' = _ ∧ _
    unfold f_Depths_greatestOf_L1
    rw [C'.2.1, if_pos ((g_end hg (Nat.le_refl _)).mpr rfl)]
    exact ⟨_, rfl, rfl, S⟩) (by
    rintro j i ⟨a, b, h'⟩ hj hi ⟨rfl, rfl, S⟩
    have S : Fs [19, 20] h h' := S
    have C' := cf _ S
    show ∃ s' : Int32 × Int32 × pH, f_Depths_greatestOf_L2 o (iI (-(c.2.1 : Int) + (j : Int))) (nI (mxn c (wd c.2.1 * j + i))) (iI (-(c.2.1 : Int) + (i : Int))) h' = _ ∧ s'.1 = nI (mxn c (wd c.2.1 * j + i + 1)) ∧ s'.2.1 = iI (-(c.2.1 : Int) + ((i + 1 : Nat) : Int)) ∧ Fs [19, 20] h s'.2.2
    unfold f_Depths_greatestOf_L2
    have w1 : wd c.2.1 = 2 * c.2.1 + 1 := rfl
    have b := mxn_db hn (wd c.2.1 * j + i)
    obtain ⟨r, h2, e, F, q, qr⟩ := depthOver_ok C' G ho ho0 ho1 (x := -(c.2.1 : Int) + (i : Int)) (y := -(c.2.1 : Int) + (j : Int)) (by omega) (by omega) b.2
    rw [C'.2.1, if_neg (fun x => by have := (g_end hg (by omega)).mp x; omega), e]
    simp only [Option.bind_some]
    rw [nx1, jmax_ok (by omega) (by omega), q]
    refine ⟨_, rfl, ?_, rfl, S.trans F⟩
    show nI (max (mxn c (wd c.2.1 * j + i)) _) = nI (max (mxn c (wd c.2.1 * j + i)) (dps c (wd c.2.1 * j + i)))
    unfold dps
    rw [px_at _ _ hi, py_at _ _ hi]) (by
    rintro j ⟨a, b, h'⟩ hj ⟨rfl, rfl, S⟩
    have S : Fs [19, 20] h h' := S
    have C' := cf _ S
    show ∃ s', f_Depths_greatestOf_L2 o (iI (-(c.2.1 : Int) + (j : Int))) _ (iI (-(c.2.1 : Int) + (wd c.2.1 : Int))) h' = _ ∧ _
    unfold f_Depths_greatestOf_L2
    rw [C'.2.1, if_pos ((g_end hg (Nat.le_refl _)).mpr rfl), nx1]
    exact ⟨_, rfl, by show _ = nI (mxn c (wd c.2.1 * (j + 1))); rw [Nat.mul_add, Nat.mul_one], rfl, S⟩) (s := (0, -(nI c.2.1), h)) ⟨by rw [Nat.mul_zero]; rfl, ng0 _, Fs.rfl'⟩
  have e2 : r1 = nI (mxn c (wd c.2.1 * wd c.2.1)) := e2
  subst e2
  exact ⟨r2, e1, e3⟩
theorem greatest_eq (hn : c.1 ≤ 12) : iI (db c (wd c.2.1 * wd c.2.1)) = nI (mxn c (wd c.2.1 * wd c.2.1)) := by
  rw [nI_iI]
  congr 1
  have a := (mxn_db hn (wd c.2.1 * wd c.2.1)).1
  have b := (db_in hn (wd c.2.1 * wd c.2.1)).2.2 (by unfold wd; exact Nat.mul_pos (by omega) (by omega))
  omega
theorem VR.now {h' : pH} {und : Nat} {P : Nat → Cfg} {S : Nat → Option Cfg} {len : Nat} {B : Nat → Nat} {pl : Int32} (H : VR h c und P S len B pl) (gs : GS c und P S len B) (R' : RRc h' c) (A : ∀ o k, Rr o k → o ≠ 87 → hI h' o k = hI h o k) (A2 : h'.2 = h.2) : VR h' c und P S len B pl :=
  ⟨R', H.2.1.fr gs.2.2.1 (fun o k q => A o k (Or.inr (Or.inl q)) (by unfold Qu at q; omega)), H.2.2.1.fr gs.2.2.2.1 (fun o k q => A o k (Or.inr (Or.inr (Or.inl q))) (by unfold Qs at q; omega)), H.2.2.2.1.fr (fun o k q => A o k (Or.inr (Or.inr (Or.inr (Or.inl q)))) (by unfold Qt at q; omega)), by rw [A 79 16 (Or.inr (Or.inr (Or.inr (Or.inr ⟨rfl, rfl⟩)))) (by decide)]; exact H.2.2.2.2.1, by unfold hL; rw [A2]; exact H.2.2.2.2.2⟩
end FR
section FS
variable {KC KD KE : pH → Cfg → Prop}
theorem sc_11 : ∀ o, o ∈ [11, 12, 13, 14, 15, 16, 19, 20] → ∀ k, ¬ Rc o k := by
  intro o ho k hr
  simp only [List.mem_cons, List.not_mem_nil, or_false] at ho
  unfold Rc Pl Pu Ps Pt at hr
  omega
theorem rf11 : rf 11 0 = 12 ∧ rf 11 1 = 13 := ⟨Ob11.1, Ob11.2.1⟩
theorem Fr3.fs {h h' : pH} (F : Fr3 11 12 13 h h') : Fs [11, 12, 13, 14, 15, 16, 19, 20] h h' := ⟨fun o k x => by
  simp only [List.mem_cons, List.not_mem_nil, or_false, not_or] at x
  exact F.1 o k x.1 x.2.1 x.2.2.1, F.2⟩
/-- the new point in the reference, and the way back -/
theorem R_fresh_in {h : pH} {c : Cfg} (R : RRc h c) (hn : c.1 < 12) (x y : Int) : ∃ v, f_R_lays3 (f_R_all h) (iI x) (iI y) h = some v ∧ RRc (sI v 87 0 (hI v 87 0 + 1)) (addC c x y) ∧ ∀ h', Fp (fun o k => o = 94 ∨ (o = 79 ∧ 32 ≤ k ∧ k ≤ 34)) (sI v 87 0 (hI v 87 0 + 1)) h' → RRc (sI h' 87 0 (hI h' 87 0 - 1)) c ∧ (∀ o k, Rr o k → o ≠ 87 → hI (sI h' 87 0 (hI h' 87 0 - 1)) o k = hI h o k) ∧ (∀ o k, Rc o k → hI (sI h' 87 0 (hI h' 87 0 - 1)) o k = hI h o k) ∧ (sI h' 87 0 (hI h' 87 0 - 1)).2 = h.2 := by
  have e : f_R_all h = nI c.1 := R.1
  refine ⟨sI (sI h 87 (2 + 2 * c.1) (iI x)) 87 (3 + 2 * c.1) (iI y), by rw [e, lays3_ok (by omega)], ?_, fun h' F => ?_⟩
  · have := R_addp R x y
    rw [hI_n (by omega), hI_n (by omega), R.1, nI_1]
    exact this
  · have v0 : hI h' 87 0 = nI (c.1 + 1) := by
      rw [F.1 87 0 (by omega), hI_s, hI_n (by omega), hI_n (by omega), R.1, nI_1]
    have e1 : nI (c.1 + 1) - 1 = nI c.1 := by
      rw [show (1 : Int32) = nI 1 from rfl, pk_sub (by omega)]
      congr 1
    have off : ∀ o k, ¬ (o = 94 ∨ (o = 79 ∧ 32 ≤ k ∧ k ≤ 34)) → o ≠ 87 → hI (sI h' 87 0 (hI h' 87 0 - 1)) o k = hI h o k := fun o k q1 q2 => by
      rw [hI_n (by omega), F.1 o k q1, hI_n (by omega), hI_n (by omega), hI_n (by omega)]
    refine ⟨⟨by rw [hI_s, v0, e1], ?_, fun i hi => ⟨?_, ?_⟩⟩, fun o k hr ho => off o k (fun q => by unfold Rr Qu Qs Qt at hr; omega) ho, fun o k hr => off o k (fun q => by have := Rc_lt hr; omega) (by have := Rc_lt hr; omega), ?_⟩
    · rw [hI_n (by omega), F.1 87 1 (by omega), hI_n (by omega), hI_n (by omega), hI_n (by omega)]
      exact R.2.1
    · rw [hI_n (by omega), F.1 87 _ (by omega), hI_n (by omega), hI_n (by omega), hI_n (by omega)]
      exact (R.2.2 i hi).1
    · rw [hI_n (by omega), F.1 87 _ (by omega), hI_n (by omega), hI_n (by omega), hI_n (by omega)]
      exact (R.2.2 i hi).2
    · rw [sI_2, F.2, sI_2, sI_2, sI_2]
theorem sp_fresh (hKC : Kst KC) (hKD : Kst KD) (hKE : Kst KE) : Sp_fresh (JJ KC KD KE) := by
  intro k h _ H a0 a1 a2
  have H0 := H
  obtain ⟨c, und, P, S, len, B, pl, gs, vc, vr⟩ := H
  have G := gs.1
  have hn : c.1 ≤ 12 := G.1
  have i2 : f_R_in a2 0 2 = _ := in_ok a2 (lo := 0) (hi := 2) (by unfold InR; omega) (by unfold InR; omega)
  have lt2 : 2 < a2 ↔ 2 < a2.toInt := by
    conv => lhs; rw [iI_of a2, show (2 : Int32) = iI 2 from rfl]
    rw [iI_lt (by unfold InR; omega) (InR_of a2)]
  by_cases q : 0 ≤ a2.toInt ∧ a2.toInt ≤ 2
  rotate_left
  · refine ⟨-1, h, h, ?_, ?_, H0.mono hKC hKD hKE⟩
    · unfold f_C_fresh
      simp only [lt0x, lt2]
      by_cases q1 : a2.toInt < 0
      · rw [if_pos q1]
      · rw [if_neg q1, if_pos (by omega)]
    · unfold f_R_fresh
      rw [i2, if_neg q, if_pos rfl]
  have c8 : hI h 8 2 = nI c.1 := vc.cc.1
  have c87 : f_R_all h = nI c.1 := vr.1.1
  by_cases q12 : c.1 = 12
  · refine ⟨-1, h, h, ?_, ?_, H0.mono hKC hKD hKE⟩
    · unfold f_C_fresh
      simp only [lt0x, lt2]
      rw [if_neg (by omega), if_neg (by omega), c8, if_pos (by rw [q12]; exact ge_yes (n := 12) (Nat.le_refl _) (by omega))]
    · unfold f_R_fresh
      rw [i2, if_pos q, if_neg (by decide), c87, if_pos (by rw [q12]; rfl)]
  have n12 : ¬ (12 : Int32) ≤ nI c.1 := lt_no (n := 12) (by omega) (by omega)
  have n12' : ¬ nI c.1 = 12 := fun e => q12 ((nI_eqI (b := 12) (by omega) (by omega)).mp e)
  cases fr : frB c a0.toInt a1.toInt with
  | false =>
    refine ⟨-1, h, h, ?_, ?_, H0.mono hKC hKD hKE⟩
    · unfold f_C_fresh
      simp only [lt0x, lt2]
      rw [if_neg (by omega), if_neg (by omega), c8, if_neg n12, isFree_ok vc.cc G, fr]
      rfl
    · unfold f_R_fresh
      rw [i2, if_pos q, if_neg (by decide), c87, if_neg n12', canBe_ok vr.1 G, fr]
      rfl
  | true =>
  have fr0 := fr
  unfold frB at fr
  simp only [Bool.and_eq_true, decide_eq_true_eq, Bool.not_eq_true'] at fr
  have Ga : GCc (addC c a0.toInt a1.toInt) := GC_add G (by omega) fr0
  obtain ⟨t1, e1, cc1, -, f1⟩ := takeFrom_ok (h := h) (o := 11) (a := 12) (b := 13) Ob11 (d := c) hn (u := 8) (ua := 9) (ub := 10) ⟨rf8_0, rf8_1⟩ (by decide) vc.cc
  obtain ⟨t2, e2, cc2, -, f2⟩ := append_ok Ob11 cc1 (by omega) a0.toInt a1.toInt
  rw [← iI_of, ← iI_of] at e2
  have F0 : Fs [11, 12, 13, 14, 15, 16, 19, 20] h t2 := (Fr3.fs f1).trans (Fr3.fs f2)
  -- both sides from here
  have fin : ∀ v h1, Fs [11, 12, 13, 14, 15, 16, 19, 20] h h1 → (∀ v', f_R_lays3 (f_R_all h1) a0 a1 h1 = some v' → RRc (sI v' 87 0 (hI v' 87 0 + 1)) (addC c a0.toInt a1.toInt) → ∃ h', Fp (fun o k => o = 94 ∨ (o = 79 ∧ 32 ≤ k ∧ k ≤ 34)) (sI v' 87 0 (hI v' 87 0 + 1)) h' ∧ f_R_fresh a0 a1 a2 h1 = some (v, sI h' 87 0 (hI h' 87 0 - 1))) → ∃ h2, f_R_fresh a0 a1 a2 h1 = some (v, h2) ∧ JJ KC KD KE (k + 1) h2 := by
    intro v h1 F W
    have vc1 := vc.fs hKC hKD hKE (show k ≤ k + 1 by omega) F sc_11
    have vr1 := vr.fs gs F (by decide)
    obtain ⟨v', d1, d2, d3⟩ := R_fresh_in vr1.1 (by omega) a0.toInt a1.toInt
    rw [← iI_of, ← iI_of] at d1
    obtain ⟨h', w1, w2⟩ := W v' d1 d2
    obtain ⟨d4, d5, d6, d7⟩ := d3 h' w1
    exact ⟨_, w2, c, und, P, S, len, B, pl, gs, vc1.ag hKC hKD hKE (Nat.le_refl _) d6, vr1.now gs d4 d5 d7⟩
  have pre : ∀ h1, Fs [11, 12, 13, 14, 15, 16, 19, 20] h h1 → f_R_fresh a0 a1 a2 h1 = (f_R_lays3 (f_R_all h1) a0 a1 h1).bind fun v_6 =>
        if a2 = 0 then
          (f_R_laysLayers (sI v_6 87 0 ((hI v_6 87 0) + 1))).bind fun v_16 =>
          some (v_16.1, (sI v_16.2 87 0 ((hI v_16.2 87 0) - 1)))
        else
          if a2 = 1 then
            (f_R_deepestOf (sI v_6 87 0 ((hI v_6 87 0) + 1))).bind fun v_14 =>
            some (v_14.1, (sI v_14.2 87 0 ((hI v_14.2 87 0) - 1)))
          else
            (f_R_cornersOf (f_R_full (sI v_6 87 0 ((hI v_6 87 0) + 1))) (sI v_6 87 0 ((hI v_6 87 0) + 1))).bind fun v_10 =>
            (f_R_bitsOf v_10).bind fun v_12 =>
            some (v_12, (sI (sI v_6 87 0 ((hI v_6 87 0) + 1)) 87 0 ((hI (sI v_6 87 0 ((hI v_6 87 0) + 1)) 87 0) - 1))) := by
    intro h1 F
    have vr1 := vr.fs gs F (by decide)
    have c87' : f_R_all h1 = nI c.1 := vr1.1.1
    unfold f_R_fresh
    rw [i2, if_pos q, if_neg (by decide), if_neg (by rw [c87']; exact n12'), canBe_ok vr1.1 G, fr0]
    rfl
  have cpre : f_C_fresh a0 a1 a2 h = if a2 = 0 then
            (f_Hulls_peel 11 t2).bind fun v_17 =>
            some ((hI v_17 14 2), v_17)
          else
            if a2 = 1 then
              (f_Depths_greatestOf 11 t2).bind fun v_15 =>
              some (v_15.1, v_15.2)
            else
              (f_Hulls_cornersOf 11 (f_Cloud_everyone 11 t2) t2).bind fun v_13 =>
              some ((f_J_bitCount v_13), t2) := by
    unfold f_C_fresh
    simp only [lt0x, lt2]
    rw [if_neg (by omega), if_neg (by omega), c8, if_neg n12, isFree_ok vc.cc G, fr0]
    simp only [Option.bind_some]
    rw [if_neg (by decide), e1]
    simp only [Option.bind_some]
    rw [e2]
    rfl
  have o1 : rf 11 0 = 12 := rf11.1
  have o2 : rf 11 1 = 13 := rf11.2
  rw [cpre]
  obtain ⟨m, hm, rfl⟩ := pt_nat (n := 3) q.1 (by omega)
  have : m = 0 ∨ m = 1 ∨ m = 2 := by omega
  rcases this with rfl | rfl | rfl
  · obtain ⟨K, hK, z1, z2⟩ := layers_K Ga
    obtain ⟨h1, p1, p2, p3, -⟩ := peel_ok cc2 Ga (by decide) (by rw [o1]; decide) (by rw [o2]; decide) hK z1 z2
    rw [if_pos (show nI 0 = 0 from rfl), p1]
    simp only [Option.bind_some]
    rw [p3]
    have F1 : Fs [11, 12, 13, 14, 15, 16, 19, 20] h h1 := F0.trans (p2.mono (by decide))
    obtain ⟨h2, r1, r2⟩ := fin (nI K) h1 F1 (fun v' d1 d2 => by
      obtain ⟨h', w1, w2, -⟩ := laysLayers_ok d2 Ga hK z1 z2
      refine ⟨h', ⟨fun o k x => w2.1 o k (fun y => x (by simp only [List.mem_cons, List.not_mem_nil, or_false] at y; exact Or.inl y)), w2.2⟩, ?_⟩
      rw [pre h1 F1, d1]
      simp only [Option.bind_some]
      rw [if_pos (show nI 0 = 0 from rfl), w1]
      rfl)
    exact ⟨_, h1, h2, rfl, r1, r2⟩
  · obtain ⟨h1, p1, p2⟩ := greatestOf_ok cc2 Ga (by decide) (by rw [o1]; decide) (by rw [o2]; decide)
    rw [if_neg (show ¬ nI 1 = 0 by decide), if_pos (show nI 1 = 1 from rfl), p1]
    simp only [Option.bind_some]
    have F1 : Fs [11, 12, 13, 14, 15, 16, 19, 20] h h1 := F0.trans (p2.mono (by decide))
    obtain ⟨h2, r1, r2⟩ := fin _ h1 F1 (fun v' d1 d2 => by
      obtain ⟨h', w1, w2, -⟩ := deepestOf_ok d2 Ga
      refine ⟨h', ⟨fun o k x => w2.1 o k (fun y => x (Or.inr y)), w2.2⟩, ?_⟩
      rw [pre h1 F1, d1]
      simp only [Option.bind_some]
      rw [if_neg (show ¬ nI 1 = 0 by decide), if_pos (show nI 1 = 1 from rfl), w1, greatest_eq Ga.1]
      rfl)
    exact ⟨_, h1, h2, rfl, r1, r2⟩
  · have hna : (addC c a0.toInt a1.toInt).1 ≤ 12 := Ga.1
    have l4 : co (addC c a0.toInt a1.toInt).1 (addC c a0.toInt a1.toInt).2.2.1 (addC c a0.toInt a1.toInt).2.2.2 (2 ^ (addC c a0.toInt a1.toInt).1 - 1) < 4096 := Nat.lt_of_lt_of_le (co_lt _) (p12 hna)
    rw [if_neg (show ¬ nI 2 = 0 by decide), if_neg (show ¬ nI 2 = 1 by decide), every_ok cc2 hna, cornersOf_ok cc2 Ga (full_lt hna)]
    simp only [Option.bind_some]
    rw [bitCount_ok l4]
    obtain ⟨h2, r1, r2⟩ := fin _ t2 F0 (fun v' d1 d2 => by
      refine ⟨_, Fp.rfl', ?_⟩
      rw [pre t2 F0, d1]
      simp only [Option.bind_some]
      rw [if_neg (show ¬ nI 2 = 0 by decide), if_neg (show ¬ nI 2 = 1 by decide), full_ok d2 hna, R_cornersOf_ok d2 Ga (full_lt hna)]
      simp only [Option.bind_some]
      rw [bitsOf_ok l4]
      rfl)
    exact ⟨_, t2, h2, rfl, r1, r2⟩
end FS
