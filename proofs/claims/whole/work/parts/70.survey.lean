/-! the survey of the grid -/
def wd (g : Nat) : Nat := 2 * g + 1
def px (g t : Nat) : Int := -(g : Int) + ((t % wd g : Nat) : Int)
def py (g t : Nat) : Int := -(g : Int) + ((t / wd g : Nat) : Int)
theorem px_at (g j : Nat) {i : Nat} (hi : i < wd g) : px g (wd g * j + i) = -(g : Int) + (i : Int) := by
  unfold px
  rw [Nat.mul_add_mod, Nat.mod_eq_of_lt hi]
theorem py_at (g j : Nat) {i : Nat} (hi : i < wd g) : py g (wd g * j + i) = -(g : Int) + (j : Int) := by
  unfold py
  rw [Nat.mul_add_div (by unfold wd; omega), Nat.div_eq_of_lt hi, Nat.add_zero]
theorem wd_le {g j i : Nat} (hg : g ≤ 20) (hj : j < wd g) (hi : i < wd g) : wd g * j + i < wd g * wd g ∧ wd g * wd g ≤ 1681 := by
  have h1 : wd g * (j + 1) ≤ wd g * wd g := Nat.mul_le_mul_left _ hj
  rw [Nat.mul_add] at h1
  have h2 : wd g ≤ 41 := by unfold wd; omega
  have h3 : wd g * wd g ≤ 41 * 41 := Nat.mul_le_mul h2 h2
  omega
def dps (c : Cfg) (t : Nat) : Nat := dp c.1 c.2.2.1 c.2.2.2 (px c.2.1 t) (py c.2.1 t)
/-- the greatest so far, how many, where first -/
def db (c : Cfg) : Nat → Int
  | 0 => -1
  | t + 1 => if db c t < dps c t then dps c t else db c t
def dc (c : Cfg) : Nat → Nat
  | 0 => 0
  | t + 1 => if db c t < dps c t then 1 else if (dps c t : Int) = db c t then dc c t + 1 else dc c t
def df (c : Cfg) : Nat → Nat
  | 0 => 0
  | t + 1 => if db c t < dps c t then t else df c t
theorem dps_le (c : Cfg) (t : Nat) : dps c t ≤ c.1 := dp_le _ _
theorem db_in {c : Cfg} (hn : c.1 ≤ 12) (t : Nat) : -1 ≤ db c t ∧ db c t ≤ 12 ∧ (0 < t → 0 ≤ db c t) := by
  induction t with
  | zero => exact ⟨by unfold db; omega, by unfold db; omega, fun h => by omega⟩
  | succ t ih =>
    have := dps_le c t
    unfold db
    split <;> omega
def KDd (h : pH) (c : Cfg) : Prop := hI h 17 4 = iI (db c (wd c.2.1 * wd c.2.1)) ∧ hI h 17 5 = nI (dc c (wd c.2.1 * wd c.2.1)) ∧ hI h 17 6 = iI (px c.2.1 (df c (wd c.2.1 * wd c.2.1))) ∧ hI h 17 7 = iI (py c.2.1 (df c (wd c.2.1 * wd c.2.1))) ∧ ∀ u, u < wd c.2.1 * wd c.2.1 → hI h 18 u = nI (dps c u)
theorem Kst_KDd : Kst KDd := by
  intro h h' c A H
  unfold KDd at H ⊢
  rw [A 17 4 (by decide), A 17 5 (by decide), A 17 6 (by decide), A 17 7 (by decide)]
  exact ⟨H.1, H.2.1, H.2.2.1, H.2.2.2.1, fun u hu => by rw [A 18 u (by unfold krel; simp)]; exact H.2.2.2.2 u hu⟩
/-- what the class has noted after t places -/
def SV (h : pH) (c : Cfg) (t : Nat) (h' : pH) : Prop := Fs [17, 18, 19, 20] h h' ∧ hI h' 17 3 = hI h 8 4 ∧ hI h' 17 4 = iI (db c t) ∧ (0 < t → hI h' 17 5 = nI (dc c t) ∧ hI h' 17 6 = iI (px c.2.1 (df c t)) ∧ hI h' 17 7 = iI (py c.2.1 (df c t))) ∧ ∀ u, u < t → hI h' 18 u = nI (dps c u)
theorem SV.note {h h1 h2 : pH} {c : Cfg} (hn : c.1 ≤ 12) {t : Nat} (S : SV h c t h1) (F : Fs [19, 20] h1 h2) : SV h c (t + 1) (sI (f_Depths_noteDepth (nI (dps c t)) (iI (px c.2.1 t)) (iI (py c.2.1 t)) h2) 18 t (nI (dps c t))) := by
  obtain ⟨s1, s2, s3, s4, s5⟩ := S
  have F' : Fs [17, 18, 19, 20] h h2 := s1.trans (F.mono (by decide))
  have b := db_in hn t
  have l := dps_le c t
  have q : ∀ k, hI h2 17 k = hI h1 17 k := fun k => F.1 17 k (by decide)
  unfold f_Depths_noteDepth f_Depths_noteDepth_J1
  have c1 : nI (dps c t) ≤ hI h2 17 4 ↔ ¬ db c t < dps c t := by
    rw [q, s3, nI_iI, iI_le (by unfold InR; omega) (by unfold InR; omega)]
    omega
  by_cases e : db c t < dps c t
  · rw [if_neg (fun x => c1.mp x e)]
    rw [if_pos (by rw [hI_n (by omega), hI_n (by omega), hI_n (by omega), hI_s])]
    refine ⟨((((((F'.set (by decide)).set (by decide)).set (by decide)).set (by decide)).set (by decide)).set (by decide)), ?_, ?_, fun _ => ⟨?_, ?_, ?_⟩, fun u hu => ?_⟩
    · rw [hI_n (by omega), hI_n (by omega), hI_n (by omega), hI_n (by omega), hI_n (by omega), hI_n (by omega), q]; exact s2
    · rw [hI_n (by omega), hI_n (by omega), hI_n (by omega), hI_n (by omega), hI_n (by omega), hI_s, nI_iI]
      unfold db
      rw [if_pos e]
    · rw [hI_n (by omega), hI_s, hI_n (by omega), hI_n (by omega), hI_s]
      unfold dc
      rw [if_pos e]
      rfl
    · rw [hI_n (by omega), hI_n (by omega), hI_n (by omega), hI_s]
      unfold df
      rw [if_pos e]
    · rw [hI_n (by omega), hI_n (by omega), hI_s]
      unfold df
      rw [if_pos e]
    · by_cases e2 : u = t
      · subst e2; rw [hI_s]
      · rw [hI_n (by omega), hI_n (by omega), hI_n (by omega), hI_n (by omega), hI_n (by omega), hI_n (by omega), F.1 18 u (by decide)]
        exact s5 u (by omega)
  · rw [if_pos (c1.mpr e)]
    have ht : 0 < t := by
      by_cases z : t = 0
      · subst z
        exact absurd (show (-1 : Int) < dps c 0 by omega) e
      · omega
    have s4 := s4 ht
    have c2 : nI (dps c t) = hI h2 17 4 ↔ (dps c t : Int) = db c t := by
      rw [q, s3, nI_iI, iI_eq (by unfold InR; omega) (by unfold InR; omega)]
    by_cases e2 : (dps c t : Int) = db c t
    · rw [if_pos (c2.mpr e2)]
      refine ⟨(F'.set (by decide)).set (by decide), ?_, ?_, fun _ => ⟨?_, ?_, ?_⟩, fun u hu => ?_⟩
      · rw [hI_n (by omega), hI_n (by omega), q]; exact s2
      · rw [hI_n (by omega), hI_n (by omega), q, s3]
        conv => rhs; unfold db
        rw [if_neg e]
      · rw [hI_n (by omega), hI_s, q, s4.1, nI_1]
        conv => rhs; unfold dc
        rw [if_neg e, if_pos e2]
      · rw [hI_n (by omega), hI_n (by omega), q, s4.2.1]
        conv => rhs; unfold df
        rw [if_neg e]
      · rw [hI_n (by omega), hI_n (by omega), q, s4.2.2]
        conv => rhs; unfold df
        rw [if_neg e]
      · by_cases e3 : u = t
        · subst e3; rw [hI_s]
        · rw [hI_n (by omega), hI_n (by omega), F.1 18 u (by decide)]
          exact s5 u (by omega)
    · rw [if_neg (fun x => e2 (c2.mp x))]
      refine ⟨F'.set (by decide), ?_, ?_, fun _ => ⟨?_, ?_, ?_⟩, fun u hu => ?_⟩
      · rw [hI_n (by omega), q]; exact s2
      · rw [hI_n (by omega), q, s3]
        conv => rhs; unfold db
        rw [if_neg e]
      · rw [hI_n (by omega), q, s4.1]
        conv => rhs; unfold dc
        rw [if_neg e, if_neg e2]
      · rw [hI_n (by omega), q, s4.2.1]
        conv => rhs; unfold df
        rw [if_neg e]
      · rw [hI_n (by omega), q, s4.2.2]
        conv => rhs; unfold df
        rw [if_neg e]
      · by_cases e3 : u = t
        · subst e3; rw [hI_s]
        · rw [hI_n (by omega), F.1 18 u (by decide)]
          exact s5 u (by omega)
section SU
variable {h : pH} {c : Cfg}
/-- the end of a row and of the rows -/
theorem g_end {g i : Nat} (hg : g ≤ 20) (hi : i ≤ wd g) : nI g < iI (-(g : Int) + (i : Int)) ↔ i = wd g := by
  unfold wd at *
  rw [nI_iI, iI_lt (by unfold InR; omega) (by unfold InR; omega)]
  omega
theorem iI_1 (a : Int) : iI a + 1 = iI (a + 1) := iI_add a 1
theorem ng0 (g : Nat) : -(nI g) = iI (-(g : Int) + ((0 : Nat) : Int)) := by
  rw [nI_iI, iI_neg]
  simp
theorem nx1 (g i : Nat) : iI (-(g : Int) + (i : Int)) + 1 = iI (-(g : Int) + ((i + 1 : Nat) : Int)) := by
  rw [iI_1]
  congr 1
  omega
theorem survey_run (C : CCc h 8 c) (G : GCc c) : ∃ h', lp (fun s => f_Depths_survey_L1 8 s.1 s.2.1 s.2.2) lpN (0, (-(hI (sI (sI h 17 3 (hI h 8 4)) 17 4 (-1)) 8 3)), (sI (sI h 17 3 (hI h 8 4)) 17 4 (-1))) = some h' ∧ SV h c (wd c.2.1 * wd c.2.1) h' := by
  have hn := G.1
  have hg : c.2.1 ≤ 20 := G.2.1.2
  have hw : wd c.2.1 ≤ 41 := by unfold wd; omega
  have cf : ∀ t h', SV h c t h' → CC h' 8 c.1 c.2.1 c.2.2.1 c.2.2.2 := fun t h' S => CC.fs C S.1 (by decide) (by rw [rf8_0]; decide) (by rw [rf8_1]; decide)
  refine lp_grid (f1 := fun s => f_Depths_survey_L1 8 s.1 s.2.1 s.2.2) (fun j s => f_Depths_survey_L2 8 (iI (-(c.2.1 : Int) + (j : Int))) s.1 s.2.1 s.2.2) (wd c.2.1) (fun j s => s.1 = nI (wd c.2.1 * j) ∧ s.2.1 = iI (-(c.2.1 : Int) + (j : Int)) ∧ SV h c (wd c.2.1 * j) s.2.2) (fun j i s => s.1 = nI (wd c.2.1 * j + i) ∧ s.2.1 = iI (-(c.2.1 : Int) + (i : Int)) ∧ SV h c (wd c.2.1 * j + i) s.2.2) _ hw ?_ ?_ ?_ ?_ ?_
  · rintro j ⟨a, b, h'⟩ hj ⟨rfl, rfl, S⟩
    have S : SV h c (wd c.2.1 * j) h' := S
    have C' := cf _ _ S
    show ∃ s', f_Depths_survey_L1 8 (nI (wd c.2.1 * j)) (iI (-(c.2.1 : Int) + (j : Int))) h' = _ ∧ _
    unfold f_Depths_survey_L1
    rw [C'.2.1, if_neg (fun x => by have := (g_end hg (by omega)).mp x; omega), ng0]
    exact ⟨_, rfl, rfl, rfl, S⟩
  · rintro ⟨a, b, h'⟩ ⟨rfl, rfl, S⟩
    have S : SV h c (wd c.2.1 * wd c.2.1) h' := S
    have C' := cf _ _ S
    show ∃ s', f_Depths_survey_L1 8 (nI (wd c.2.1 * wd c.2.1)) (iI (-(c.2.1 : Int) + (wd c.2.1 : Int))) h' = _ ∧ _
    unfold f_Depths_survey_L1
    rw [C'.2.1, if_pos ((g_end hg (Nat.le_refl _)).mpr rfl)]
    exact ⟨_, rfl, S⟩
  · rintro j i ⟨a, b, h'⟩ hj hi ⟨rfl, rfl, S⟩
    have S : SV h c (wd c.2.1 * j + i) h' := S
    have C' := cf _ _ S
    have hl := wd_le hg hj hi
    show ∃ s', f_Depths_survey_L2 8 (iI (-(c.2.1 : Int) + (j : Int))) (nI (wd c.2.1 * j + i)) (iI (-(c.2.1 : Int) + (i : Int))) h' = _ ∧ _
    unfold f_Depths_survey_L2
    have w1 : wd c.2.1 = 2 * c.2.1 + 1 := rfl
    obtain ⟨h2, e, F⟩ := depthAt_ok C' G (by decide) (by rw [rf8_0]; decide) (by rw [rf8_1]; decide) (x := -(c.2.1 : Int) + (i : Int)) (y := -(c.2.1 : Int) + (j : Int)) (by omega) (by omega)
    rw [C'.2.1, if_neg (fun x => by have := (g_end hg (by omega)).mp x; omega), e]
    simp only [Option.bind_some]
    rw [show (1681 : Int32) = nI 1681 from rfl, if_neg (lt_no (by omega) (by omega)), if_neg (gd (by omega) (by omega)), cla (by omega), nI_1, nx1]
    have N := SV.note hn S F
    rw [show dps c (wd c.2.1 * j + i) = dp c.1 c.2.2.1 c.2.2.2 (-(c.2.1 : Int) + (i : Int)) (-(c.2.1 : Int) + (j : Int)) from by unfold dps; rw [px_at _ _ hi, py_at _ _ hi], px_at _ _ hi, py_at _ _ hi] at N
    exact ⟨_, rfl, rfl, rfl, N⟩
  · rintro j ⟨a, b, h'⟩ hj ⟨rfl, rfl, S⟩
    have S : SV h c (wd c.2.1 * j + wd c.2.1) h' := S
    have C' := cf _ _ S
    show ∃ s', f_Depths_survey_L2 8 (iI (-(c.2.1 : Int) + (j : Int))) (nI (wd c.2.1 * j + wd c.2.1)) (iI (-(c.2.1 : Int) + (wd c.2.1 : Int))) h' = _ ∧ _
    unfold f_Depths_survey_L2
    rw [C'.2.1, if_pos ((g_end hg (Nat.le_refl _)).mpr rfl), nx1]
    exact ⟨_, rfl, by show _ = nI (wd c.2.1 * (j + 1)); rw [Nat.mul_add, Nat.mul_one], rfl, by show SV h c (wd c.2.1 * (j + 1)) h'; rw [Nat.mul_add, Nat.mul_one]; exact S⟩
  · refine ⟨by rw [Nat.mul_zero]; rfl, ?_, ?_⟩
    · show -(hI (sI (sI h 17 3 (hI h 8 4)) 17 4 (-1)) 8 3) = iI (-(c.2.1 : Int) + ((0 : Nat) : Int))
      rw [hI_n (by omega), hI_n (by omega), C.2.1, ng0]
    · rw [Nat.mul_zero]
      refine ⟨(Fs.rfl'.set (by decide)).set (by decide), ?_, ?_, fun x => by omega, fun u hu => by omega⟩
      · show hI (sI (sI h 17 3 (hI h 8 4)) 17 4 (-1)) 17 3 = _
        rw [hI_n (by omega), hI_s]
      · show hI (sI (sI h 17 3 (hI h 8 4)) 17 4 (-1)) 17 4 = _
        rw [hI_s]
        rfl
theorem survey_ok {KC KE : pH → Cfg → Prop} {k : Nat} (hk : k ≤ 512) (V : VCl KC KDd KE k h c) (G : GCc c) : ∃ h', f_Depths_survey 8 h = some h' ∧ Fs [17, 18, 19, 20] h h' ∧ hI h' 17 3 = hI h 8 4 ∧ KDd h' c := by
  obtain ⟨st, cc, hs, -, ⟨a2, d1, d2, d3, d4⟩, -⟩ := V
  unfold f_Depths_survey
  by_cases e : hI h 17 3 = hI h 8 4
  · rw [if_pos e]
    refine ⟨h, rfl, Fs.rfl', e, d4 ?_⟩
    rw [d1, hs.1, nI_iI, iI_eq (by unfold InR; omega) (by unfold InR; omega)] at e
    exact e
  · rw [if_neg e]
    obtain ⟨h', e1, s1, s2, s3, s4, s5⟩ := survey_run cc G
    have s4 := s4 (by unfold wd; exact Nat.mul_pos (by omega) (by omega))
    exact ⟨h', e1, s1, s2, s3, s4.1, s4.2.1, s4.2.2, s5⟩
end SU
