/-! the best fit -/
/-- a loop over rows and columns -/
theorem lp_grid2 {σ ρ : Type} {f1 : σ → Option (σ ⊕ ρ)} (f2 : Nat → σ → Option (σ ⊕ (σ ⊕ ρ))) (w1 w2 : Nat) (I1 : Nat → σ → Prop) (I2 : Nat → Nat → σ → Prop) (Q : ρ → Prop) (hw1 : w1 ≤ 1000) (hw2 : w2 ≤ 1000)
    (ho : ∀ j s, j < w1 → I1 j s → ∃ s', f1 s = lp (f2 j) lpN s' ∧ I2 j 0 s')
    (hox : ∀ s, I1 w1 s → ∃ r, f1 s = some (.inr r) ∧ Q r)
    (hi : ∀ j i s, j < w1 → i < w2 → I2 j i s → ∃ s', f2 j s = some (.inl s') ∧ I2 j (i + 1) s')
    (hix : ∀ j s, j < w1 → I2 j w2 s → ∃ s', f2 j s = some (.inr (.inl s')) ∧ I1 (j + 1) s') {s : σ} (h0 : I1 0 s) : ∃ r, lp f1 lpN s = some r ∧ Q r := by
  refine lp_inv (f := f1) I1 Q w1 (fun j s hj hI => ?_) hox h0 (by unfold lpN; omega)
  obtain ⟨s', e1, i2⟩ := ho j s hj hI
  obtain ⟨r, e2, s2, rfl, q⟩ := lp_inv (f := f2 j) (I2 j) (fun r => ∃ s', r = .inl s' ∧ I1 (j + 1) s') w2 (fun i s hi' hI => hi j i s hj hi' hI) (fun s hI => by
    obtain ⟨s', e, q⟩ := hix j s hj hI
    exact ⟨_, e, s', rfl, q⟩) (n := lpN) i2 (by unfold lpN; omega)
  exact ⟨s2, by rw [e1, e2], q⟩
def fA (t : Nat) : Int := -10 + ((t / 101 : Nat) : Int)
def fB (t : Nat) : Int := -50 + ((t % 101 : Nat) : Int)
theorem fA_at (j : Nat) {i : Nat} (hi : i < 101) : fA (101 * j + i) = -10 + (j : Int) ∧ fB (101 * j + i) = -50 + (i : Int) := by
  unfold fA fB
  omega
def fvq (c : Cfg) (t : Nat) : Nat := fitV c.1 c.2.2.1 c.2.2.2 (fA t) (fB t)
def eb (c : Cfg) : Nat → Int
  | 0 => -1
  | t + 1 => if eb c t < fvq c t then fvq c t else eb c t
def ec (c : Cfg) : Nat → Nat
  | 0 => 0
  | t + 1 => if eb c t < fvq c t then 1 else if (fvq c t : Int) = eb c t then ec c t + 1 else ec c t
def ef (c : Cfg) : Nat → Nat
  | 0 => 0
  | t + 1 => if eb c t < fvq c t then t else ef c t
theorem fvq_le (c : Cfg) (t : Nat) : fvq c t ≤ c.1 := fbv_le _ _ _
theorem eb_in {c : Cfg} (hn : c.1 ≤ 12) (t : Nat) : -1 ≤ eb c t ∧ eb c t ≤ 12 := by
  induction t with
  | zero => exact ⟨by unfold eb; omega, by unfold eb; omega⟩
  | succ t ih =>
    have := fvq_le c t
    unfold eb
    split <;> omega
def KEe (h : pH) (c : Cfg) : Prop := hI h 26 2 = iI (eb c 2121) ∧ hI h 26 3 = nI (ec c 2121) ∧ hI h 26 4 = iI (fA (ef c 2121)) ∧ hI h 26 5 = iI (fB (ef c 2121))
theorem Kst_KEe : Kst KEe := by
  intro h h' c A H
  unfold KEe at H ⊢
  rw [A 26 2 (by decide), A 26 3 (by decide), A 26 4 (by decide), A 26 5 (by decide)]
  exact H
theorem KEe_on (h h' : pH) (c : Cfg) (A : ∀ k, hI h' 26 k = hI h 26 k) (H : KEe h c) : KEe h' c := by
  unfold KEe at H ⊢
  rw [A, A, A, A]
  exact H
def EV (h : pH) (c : Cfg) (t : Nat) (h' : pH) : Prop := Fs [26, 27] h h' ∧ hI h' 26 1 = hI h 8 4 ∧ hI h' 26 2 = iI (eb c t) ∧ (0 < t → hI h' 26 3 = nI (ec c t) ∧ hI h' 26 4 = iI (fA (ef c t)) ∧ hI h' 26 5 = iI (fB (ef c t))) ∧ ∀ k, k < c.1 → hI h' 27 k = nI (sgm c.2.2.1 c.1 k)
theorem EV.note {h h1 : pH} {c : Cfg} (hn : c.1 ≤ 12) {t : Nat} (S : EV h c t h1) : EV h c (t + 1) (f_Fits_noteFit (nI (fvq c t)) (iI (fA t)) (iI (fB t)) h1) := by
  obtain ⟨s1, s2, s3, s4, s5⟩ := S
  have b := eb_in hn t
  have l := fvq_le c t
  unfold f_Fits_noteFit f_Fits_noteFit_J1
  have c1 : nI (fvq c t) ≤ hI h1 26 2 ↔ ¬ eb c t < fvq c t := by
    rw [s3, nI_iI, iI_le (by unfold InR; omega) (by unfold InR; omega)]
    omega
  by_cases e : eb c t < fvq c t
  · rw [if_neg (fun x => c1.mp x e)]
    rw [if_pos (by rw [hI_n (by omega), hI_n (by omega), hI_n (by omega), hI_s])]
    refine ⟨(((((s1.set (by decide)).set (by decide)).set (by decide)).set (by decide)).set (by decide)), ?_, ?_, fun _ => ⟨?_, ?_, ?_⟩, fun k hk => ?_⟩
    · rw [hI_n (by omega), hI_n (by omega), hI_n (by omega), hI_n (by omega), hI_n (by omega)]; exact s2
    · rw [hI_n (by omega), hI_n (by omega), hI_n (by omega), hI_n (by omega), hI_s, nI_iI]
      unfold eb
      rw [if_pos e]
    · rw [hI_s, hI_n (by omega), hI_n (by omega), hI_s]
      unfold ec
      rw [if_pos e]
      rfl
    · rw [hI_n (by omega), hI_n (by omega), hI_s]
      unfold ef
      rw [if_pos e]
    · rw [hI_n (by omega), hI_s]
      unfold ef
      rw [if_pos e]
    · rw [hI_n (by omega), hI_n (by omega), hI_n (by omega), hI_n (by omega), hI_n (by omega)]
      exact s5 k hk
  · rw [if_pos (c1.mpr e)]
    have ht : 0 < t := by
      by_cases z : t = 0
      · subst z
        exact absurd (show (-1 : Int) < fvq c 0 by omega) e
      · omega
    have s4 := s4 ht
    have c2 : nI (fvq c t) = hI h1 26 2 ↔ (fvq c t : Int) = eb c t := by
      rw [s3, nI_iI, iI_eq (by unfold InR; omega) (by unfold InR; omega)]
    by_cases e2 : (fvq c t : Int) = eb c t
    · rw [if_pos (c2.mpr e2)]
      refine ⟨s1.set (by decide), ?_, ?_, fun _ => ⟨?_, ?_, ?_⟩, fun k hk => ?_⟩
      · rw [hI_n (by omega)]; exact s2
      · rw [hI_n (by omega), s3]
        conv => rhs; unfold eb
        rw [if_neg e]
      · rw [hI_s, s4.1, nI_1]
        conv => rhs; unfold ec
        rw [if_neg e, if_pos e2]
      · rw [hI_n (by omega), s4.2.1]
        conv => rhs; unfold ef
        rw [if_neg e]
      · rw [hI_n (by omega), s4.2.2]
        conv => rhs; unfold ef
        rw [if_neg e]
      · rw [hI_n (by omega)]
        exact s5 k hk
    · rw [if_neg (fun x => e2 (c2.mp x))]
      refine ⟨s1, s2, ?_, fun _ => ⟨?_, ?_, ?_⟩, s5⟩
      · rw [s3]
        conv => rhs; unfold eb
        rw [if_neg e]
      · rw [s4.1]
        conv => rhs; unfold ec
        rw [if_neg e, if_neg e2]
      · rw [s4.2.1]
        conv => rhs; unfold ef
        rw [if_neg e]
      · rw [s4.2.2]
        conv => rhs; unfold ef
        rw [if_neg e]
section SB
variable {h : pH} {c : Cfg}
theorem b_end (lo : Int) (w i : Nat) (K : Int) (hK : K = lo + (w : Int) - 1) (hlo : -1000 ≤ lo ∧ lo ≤ 1000) (hw : w ≤ 1000) (hi : i ≤ w) : iI K < iI (lo + (i : Int)) ↔ i = w := by
  rw [iI_lt (by unfold InR; omega) (by unfold InR; omega)]
  omega
theorem nxi (lo : Int) (i : Nat) : iI (lo + (i : Int)) + 1 = iI (lo + ((i + 1 : Nat) : Int)) := by
  rw [iI_1]
  congr 1
  omega
theorem search_run {h1 : pH} (C : CCc h 8 c) (G : GCc c) (E0 : EV h c 0 h1) : ∃ h', lp (fun s => f_Fits_search_L1 8 s.1 s.2) lpN (-10, h1) = some h' ∧ EV h c 2121 h' := by
  have hn := G.1
  have cf : ∀ t h', EV h c t h' → CC h' 8 c.1 c.2.1 c.2.2.1 c.2.2.2 := fun t h' S => CC.fs C S.1 (by decide) (by rw [rf8_0]; decide) (by rw [rf8_1]; decide)
  refine lp_grid2 (f1 := fun s => f_Fits_search_L1 8 s.1 s.2) (fun j s => f_Fits_search_L2 8 (iI (-10 + (j : Int))) s.1 s.2) 21 101 (fun j s => s.1 = iI (-10 + (j : Int)) ∧ EV h c (101 * j) s.2) (fun j i s => s.1 = iI (-50 + (i : Int)) ∧ EV h c (101 * j + i) s.2) (fun r => EV h c 2121 r) (by omega) (by omega) ?_ ?_ ?_ ?_ ⟨rfl, E0⟩
  · rintro j ⟨b, h'⟩ hj ⟨rfl, S⟩
    have S : EV h c (101 * j) h' := S
    show ∃ s', f_Fits_search_L1 8 (iI (-10 + (j : Int))) h' = _ ∧ _
    unfold f_Fits_search_L1
    rw [if_neg (fun x => by
      have x : iI 10 < iI (-10 + (j : Int)) := x
      have := (b_end (-10) 21 j 10 (by omega) (by omega) (by omega) (by omega)).mp x
      omega)]
    exact ⟨_, rfl, rfl, S⟩
  · rintro ⟨b, h'⟩ ⟨rfl, S⟩
    have S : EV h c 2121 h' := S
    show ∃ s', f_Fits_search_L1 8 (iI (-10 + ((21 : Nat) : Int))) h' = _ ∧ _
    unfold f_Fits_search_L1
    rw [if_pos (by decide)]
    exact ⟨_, rfl, S⟩
  · rintro j i ⟨b, h'⟩ hj hi ⟨rfl, S⟩
    have S : EV h c (101 * j + i) h' := S
    have C' := cf _ _ S
    show ∃ s', f_Fits_search_L2 8 (iI (-10 + (j : Int))) (iI (-50 + (i : Int))) h' = _ ∧ _
    unfold f_Fits_search_L2
    rw [if_neg (fun x => by
      have x : iI 50 < iI (-50 + (i : Int)) := x
      have := (b_end (-50) 101 i 50 (by omega) (by omega) (by omega) (by omega)).mp x
      omega), fitOf_ok C' G S.2.2.2.2 (by omega) (by omega), nxi]
    have N := EV.note hn S
    obtain ⟨q1, q2⟩ := fA_at j hi
    rw [show fvq c (101 * j + i) = fitV c.1 c.2.2.1 c.2.2.2 (-10 + (j : Int)) (-50 + (i : Int)) from by unfold fvq; rw [q1, q2], q1, q2] at N
    exact ⟨_, rfl, rfl, N⟩
  · rintro j ⟨b, h'⟩ hj ⟨rfl, S⟩
    have S : EV h c (101 * j + 101) h' := S
    show ∃ s', f_Fits_search_L2 8 (iI (-10 + (j : Int))) (iI (-50 + ((101 : Nat) : Int))) h' = _ ∧ _
    unfold f_Fits_search_L2
    rw [if_pos (by decide), nxi]
    exact ⟨_, rfl, rfl, by show EV h c (101 * (j + 1)) h'; rw [Nat.mul_add, Nat.mul_one]; exact S⟩
theorem search_ok {KC KD : pH → Cfg → Prop} {k : Nat} (hk : k ≤ 512) (V : VCl KC KD KEe k h c) (G : GCc c) : ∃ h', f_Fits_search 8 h = some h' ∧ Fs [26, 27] h h' ∧ hI h' 26 1 = hI h 8 4 ∧ KEe h' c := by
  obtain ⟨st, cc, hs, -, -, ⟨a2, d1, d2, d3, d4⟩⟩ := V
  unfold f_Fits_search
  by_cases e : hI h 26 1 = hI h 8 4
  · rw [if_pos e]
    refine ⟨h, rfl, Fs.rfl', e, d4 ?_⟩
    rw [d1, hs.1, nI_iI, iI_eq (by unfold InR; omega) (by unfold InR; omega)] at e
    exact e
  · rw [if_neg e]
    have F0 : Fs [26, 27] h (sI h 26 1 (hI h 8 4)) := Fs.rfl'.set (by decide)
    have C0 : CC (sI h 26 1 (hI h 8 4)) 8 c.1 c.2.1 c.2.2.1 c.2.2.2 := CC.fs cc F0 (by decide) (by rw [rf8_0]; decide) (by rw [rf8_1]; decide)
    obtain ⟨h1, e1, A⟩ := arrange_ok C0 G
    rw [e1, Option.bind_some]
    have E0 : EV h c 0 (sI h1 26 2 (-1)) := by
      refine ⟨(F0.trans (A.1.mono (by decide))).set (by decide), ?_, ?_, fun x => by omega, fun k hk => ?_⟩
      · rw [hI_n (by omega), A.1.1 26 1 (by decide), hI_s]
      · rw [hI_s]; rfl
      · rw [hI_n (by omega)]; exact A.2 k hk
    obtain ⟨h', e2, s1, s2, s3, s4, -⟩ := search_run cc G E0
    have s4 := s4 (by omega)
    exact ⟨h', e2, s1, s2, s3, s4.1, s4.2.1, s4.2.2⟩
theorem VC.se {KC KD : pH → Cfg → Prop} (sC : ∀ h h' c, (∀ k, hI h' 23 k = hI h 23 k) → KC h c → KC h' c) (sD : ∀ h h' c, (∀ k, hI h' 17 k = hI h 17 k) → (∀ k, hI h' 18 k = hI h 18 k) → KD h c → KD h' c) {k : Nat} {h' : pH} {und : Nat} {P : Nat → Cfg} {S : Nat → Option Cfg} {len : Nat} {B : Nat → Nat} {pl : Int32} (H : VC KC KD KEe k h c und P S len B pl) (F : Fs [26, 27] h h') (e3 : hI h' 26 1 = hI h 8 4) (ke : KEe h' c) : VC KC KD KEe (k + 1) h' c und P S len B pl := by
  obtain ⟨⟨st, cc, hs, ⟨a1, b1, b2, b3, b4⟩, ⟨a2, d1, d2, d3, d4⟩, ⟨a3, f1, f2, f3, f4⟩⟩, h2, h3, h4, h5⟩ := H
  refine ⟨⟨st, CC.fs cc F (by decide) (by rw [rf8_0]; decide) (by rw [rf8_1]; decide), ⟨by rw [F.1 8 4 (by decide)]; exact hs.1, by omega⟩, ⟨a1, by rw [F.1 21 1 (by decide)]; exact b1, b2, b3, fun e => sC h h' c (fun k => F.1 23 k (by decide)) (b4 e)⟩, ⟨a2, by rw [F.1 17 3 (by decide)]; exact d1, d2, d3, fun e => sD h h' c (fun k => F.1 17 k (by decide)) (fun k => F.1 18 k (by decide)) (d4 e)⟩, ⟨st, by rw [e3, hs.1, nI_iI], by omega, by omega, fun _ => ke⟩⟩, h2.fr (fun o k q => F.1 o k ?_), h3.fr (fun o k q => F.1 o k ?_), h4.fr (fun o k q => F.1 o k ?_), by rw [F.1 3 1 (by decide)]; exact h5⟩
  · intro x
    simp only [List.mem_cons, List.not_mem_nil, or_false] at x
    unfold Pu at q
    omega
  · intro x
    simp only [List.mem_cons, List.not_mem_nil, or_false] at x
    unfold Ps at q
    omega
  · intro x
    simp only [List.mem_cons, List.not_mem_nil, or_false] at x
    unfold Pt at q
    omega
/-- what the reference has noted after t lines -/
def BS (h : pH) (c : Cfg) (t : Nat) (s : Int32 × Int32 × Int32 × Int32 × Int32 × pH) : Prop := s.1 = iI (eb c t) ∧ (0 < t → s.2.1 = iI (fA (ef c t)) ∧ s.2.2.1 = iI (fB (ef c t)) ∧ s.2.2.2.1 = nI (ec c t)) ∧ Fs [102] h s.2.2.2.2.2
theorem R_best_ok (C : RRc h c) (G : GCc c) (x1 : Int32) : ∃ h', lp (fun s => f_R_best_L1 x1 s.1 s.2.1 s.2.2.1 s.2.2.2.1 s.2.2.2.2.1 s.2.2.2.2.2) lpN (-1, 0, 0, 0, -10, h) = some ((if x1 = 0 then iI (eb c 2121) else if x1 = 1 then iI (fA (ef c 2121)) else if x1 = 2 then iI (fB (ef c 2121)) else nI (ec c 2121)), h') ∧ Fs [102] h h' := by
  have hn := G.1
  obtain ⟨⟨r1, r2⟩, e1, e2, e3⟩ := lp_grid2 (f1 := fun s => f_R_best_L1 x1 s.1 s.2.1 s.2.2.1 s.2.2.2.1 s.2.2.2.2.1 s.2.2.2.2.2) (fun j s => f_R_best_L2 x1 (iI (-10 + (j : Int))) s.1 s.2.1 s.2.2.1 s.2.2.2.1 s.2.2.2.2.1 s.2.2.2.2.2) 21 101 (fun j s => s.2.2.2.2.1 = iI (-10 + (j : Int)) ∧ BS h c (101 * j) s) (fun j i s => s.2.2.2.2.1 = iI (-50 + (i : Int)) ∧ BS h c (101 * j + i) s) (fun r => r.1 = (if x1 = 0 then iI (eb c 2121) else if x1 = 1 then iI (fA (ef c 2121)) else if x1 = 2 then iI (fB (ef c 2121)) else nI (ec c 2121)) ∧ Fs [102] h r.2) (by omega) (by omega) (by
    rintro j ⟨s1, s2, s3, s4, s5, h'⟩ hj ⟨rfl, S⟩
    show ∃ s', f_R_best_L1 x1 s1 s2 s3 s4 (iI (-10 + (j : Int))) h' = _ ∧ _
    unfold f_R_best_L1
    rw [if_neg (fun x => by
      have x : iI 10 < iI (-10 + (j : Int)) := x
      have := (b_end (-10) 21 j 10 (by omega) (by omega) (by omega) (by omega)).mp x
      omega)]
    exact ⟨_, rfl, rfl, S⟩) (by
    rintro ⟨s1, s2, s3, s4, s5, h'⟩ ⟨rfl, b1, b2, b3⟩
    have b1 : s1 = iI (eb c 2121) := b1
    have b2 := b2 (by omega)
    have b2 : s2 = iI (fA (ef c 2121)) ∧ s3 = iI (fB (ef c 2121)) ∧ s4 = nI (ec c 2121) := b2
    have b3 : Fs [102] h h' := b3
    obtain ⟨c1, c2, c3⟩ := b2
    subst b1 c1 c2 c3
    show ∃ s', f_R_best_L1 x1 _ _ _ _ (iI (-10 + ((21 : Nat) : Int))) h' = _ ∧ _
    unfold f_R_best_L1
    rw [if_pos (by decide)]
    by_cases z0 : x1 = 0
    · rw [if_pos z0, if_pos z0]; exact ⟨_, rfl, rfl, b3⟩
    rw [if_neg z0, if_neg z0]
    by_cases z1 : x1 = 1
    · rw [if_pos z1, if_pos z1]; exact ⟨_, rfl, rfl, b3⟩
    rw [if_neg z1, if_neg z1]
    by_cases z2 : x1 = 2
    · rw [if_pos z2, if_pos z2]; exact ⟨_, rfl, rfl, b3⟩
    rw [if_neg z2, if_neg z2]
    exact ⟨_, rfl, rfl, b3⟩) (by
    rintro j i ⟨s1, s2, s3, s4, s5, h'⟩ hj hi ⟨rfl, b1, b2, b3⟩
    have b1 : s1 = iI (eb c (101 * j + i)) := b1
    have b2 : 0 < 101 * j + i → s2 = iI (fA (ef c (101 * j + i))) ∧ s3 = iI (fB (ef c (101 * j + i))) ∧ s4 = nI (ec c (101 * j + i)) := b2
    have b3 : Fs [102] h h' := b3
    subst b1
    have C' : RRc h' c := RR.fs C b3 (by decide)
    show ∃ s' : Int32 × Int32 × Int32 × Int32 × Int32 × pH, f_R_best_L2 x1 (iI (-10 + (j : Int))) (iI (eb c (101 * j + i))) s2 s3 s4 (iI (-50 + (i : Int))) h' = _ ∧ s'.2.2.2.2.1 = iI (-50 + ((i + 1 : Nat) : Int)) ∧ BS h c (101 * j + i + 1) s'
    unfold f_R_best_L2 f_R_best_J3
    obtain ⟨h2, w1, w2⟩ := R_fitOf_ok C' G (a := -10 + (j : Int)) (b := -50 + (i : Int)) (by omega) (by omega)
    rw [if_neg (fun x => by
      have x : iI 50 < iI (-50 + (i : Int)) := x
      have := (b_end (-50) 101 i 50 (by omega) (by omega) (by omega) (by omega)).mp x
      omega), w1]
    simp only [Option.bind_some]
    obtain ⟨q1, q2⟩ := fA_at j hi
    rw [show fitV c.1 c.2.2.1 c.2.2.2 (-10 + (j : Int)) (-50 + (i : Int)) = fvq c (101 * j + i) from by unfold fvq; rw [q1, q2], nxi]
    have F2 := b3.trans w2
    generalize 101 * j + i = t at *
    have b := eb_in hn t
    have l := fvq_le c t
    rw [nI_iI]
    simp only [iI_le (show InR ((fvq c t : Nat) : Int) by unfold InR; omega) (show InR (eb c t) by unfold InR; omega), iI_eq (show InR ((fvq c t : Nat) : Int) by unfold InR; omega) (show InR (eb c t) by unfold InR; omega)]
    by_cases e : eb c t < fvq c t
    · rw [if_neg (by omega), if_pos trivial]
      refine ⟨_, rfl, rfl, ?_, fun _ => ⟨?_, ?_, ?_⟩, F2⟩
      · unfold eb; rw [if_pos e]
      · unfold ef; rw [if_pos e, q1]
      · unfold ef; rw [if_pos e, q2]
      · unfold ec; rw [if_pos e]; rfl
    · rw [if_pos (by omega)]
      have ht : 0 < t := by
        by_cases z : t = 0
        · subst z
          exact absurd (show (-1 : Int) < fvq c 0 by omega) e
        · omega
      obtain ⟨c1, c2, c3⟩ := b2 ht
      subst c1 c2 c3
      by_cases e2 : (fvq c t : Int) = eb c t
      · rw [if_pos e2, nI_1]
        refine ⟨_, rfl, rfl, ?_, fun _ => ⟨?_, ?_, ?_⟩, F2⟩
        · conv => rhs; unfold eb
          rw [if_neg e]
        · conv => rhs; unfold ef
          rw [if_neg e]
        · conv => rhs; unfold ef
          rw [if_neg e]
        · conv => rhs; unfold ec
          rw [if_neg e, if_pos e2]
      · rw [if_neg e2]
        refine ⟨_, rfl, rfl, ?_, fun _ => ⟨?_, ?_, ?_⟩, F2⟩
        · conv => rhs; unfold eb
          rw [if_neg e]
        · conv => rhs; unfold ef
          rw [if_neg e]
        · conv => rhs; unfold ef
          rw [if_neg e]
        · conv => rhs; unfold ec
          rw [if_neg e, if_neg e2]) (by
    rintro j ⟨s1, s2, s3, s4, s5, h'⟩ hj ⟨rfl, S⟩
    show ∃ s', f_R_best_L2 x1 (iI (-10 + (j : Int))) s1 s2 s3 s4 (iI (-50 + ((101 : Nat) : Int))) h' = _ ∧ _
    unfold f_R_best_L2
    rw [if_pos (by decide), nxi]
    refine ⟨_, rfl, rfl, ?_⟩
    show BS h c (101 * (j + 1)) _
    rw [Nat.mul_add, Nat.mul_one]
    exact S) (s := (-1, 0, 0, 0, -10, h)) ⟨rfl, rfl, fun x => by omega, Fs.rfl'⟩
  have e2 : r1 = _ := e2
  subst e2
  exact ⟨r2, e1, e3⟩
end SB
section SC2
variable {KC KD : pH → Cfg → Prop}
theorem sp_best (hKC : Kst KC) (hKD : Kst KD) (sC : ∀ h h' c, (∀ k, hI h' 23 k = hI h 23 k) → KC h c → KC h' c) (sD : ∀ h h' c, (∀ k, hI h' 17 k = hI h 17 k) → (∀ k, hI h' 18 k = hI h 18 k) → KD h c → KD h' c) : Sp_best (JJ KC KD KEe) := by
  intro k h hk512 H a0
  obtain ⟨c, und, P, S, len, B, pl, gs, vc, vr⟩ := H
  have G := gs.1
  obtain ⟨h1, e1, f1, e3, ke⟩ := search_ok (by omega) vc.1 G
  have vc1 := vc.se sC sD f1 e3 ke
  have vr1 := vr.fs gs f1 (by decide)
  unfold f_C_best f_R_best
  rw [e1, Option.bind_some]
  have done : JJ KC KD KEe (k + 1) h1 := ⟨c, und, P, S, len, B, pl, gs, vc1, vr1⟩
  obtain ⟨k1, k2, k3, k4⟩ := ke
  have i3 := in_ok a0 (lo := 0) (hi := 3) (by unfold InR; omega) (by unfold InR; omega)
  have i3 : f_R_in a0 0 3 = if 0 ≤ a0.toInt ∧ a0.toInt ≤ 3 then 1 else 0 := i3
  by_cases q : 0 ≤ a0.toInt ∧ a0.toInt ≤ 3
  · obtain ⟨h2, d1, d2⟩ := R_best_ok vr1.1 G a0
    have done2 : JJ KC KD KEe (k + 1) h2 := ⟨c, und, P, S, len, B, pl, gs, vc1.fs hKC hKD Kst_KEe (Nat.le_refl _) d2 (fun o ho k hr => by have := (sr_102 o ho).1; have := Rc_lt hr; omega), vr1.ag gs (fun o k hr => d2.1 o k (fun x => (sr_102 o x).2.2 k hr)) (fun k => by unfold hL; rw [d2.2])⟩
    have fin : ∀ v : Int32, v = (if a0 = 0 then iI (eb c 2121) else if a0 = 1 then iI (fA (ef c 2121)) else if a0 = 2 then iI (fB (ef c 2121)) else nI (ec c 2121)) → (if f_R_in a0 0 3 = 0 then some (-100000, h1) else lp (fun s => f_R_best_L1 a0 s.1 s.2.1 s.2.2.1 s.2.2.2.1 s.2.2.2.2.1 s.2.2.2.2.2) lpN (-1, 0, 0, 0, -10, h1)) = some (v, h2) := by
      intro v hv
      rw [i3, if_pos q, if_neg (by decide), d1, hv]
    obtain ⟨m, hm, rfl⟩ := pt_nat (n := 4) q.1 (by omega)
    have : m = 0 ∨ m = 1 ∨ m = 2 ∨ m = 3 := by omega
    rcases this with rfl | rfl | rfl | rfl
    · exact ⟨_, h1, h2, rfl, fin _ k1, done2⟩
    · exact ⟨_, h1, h2, rfl, fin _ k3, done2⟩
    · exact ⟨_, h1, h2, rfl, fin _ k4, done2⟩
    · exact ⟨_, h1, h2, rfl, fin _ k2, done2⟩
  · have ne : ∀ z : Int, 0 ≤ z ∧ z ≤ 3 → ¬ a0 = iI z := by
      rintro z hz rfl
      rw [iI_toInt (by unfold InR; omega)] at q
      omega
    rw [if_neg (show ¬ a0 = 0 from ne 0 (by omega)), if_neg (show ¬ a0 = 1 from ne 1 (by omega)), if_neg (show ¬ a0 = 2 from ne 2 (by omega)), if_neg (show ¬ a0 = 3 from ne 3 (by omega))]
    refine ⟨_, h1, h1, rfl, ?_, done⟩
    rw [i3, if_neg q]
    rfl
end SC2
