/-! point, count -/
section PT
variable {h : pH} {c : Cfg}
def dpp (c : Cfg) (p : Nat) : Nat := dp c.1 c.2.2.1 c.2.2.2 (c.2.2.1 p) (c.2.2.2 p)
def mpd (c : Cfg) : Nat → Nat
  | 0 => 0
  | k + 1 => max (mpd c k) (dpp c k)
theorem dpp_le (c : Cfg) (p : Nat) : dpp c p ≤ c.1 := dp_le _ _
theorem mpd_le (c : Cfg) (k : Nat) : mpd c k ≤ c.1 := by
  induction k with
  | zero => exact Nat.zero_le _
  | succ k ih =>
    have := dpp_le c k
    show max (mpd c k) (dpp c k) ≤ _
    omega
theorem mpd_at (c : Cfg) {p : Nat} : ∀ k, p < k → dpp c p ≤ mpd c k := by
  intro k
  induction k with
  | zero => intro hk; omega
  | succ k ih =>
    intro hk
    show _ ≤ max (mpd c k) (dpp c k)
    by_cases e : p = k
    · subst e; omega
    · have := ih (by omega)
      omega
theorem ptb (G : GCc c) {p : Nat} (hp : p < c.1) : (-200 ≤ c.2.2.1 p ∧ c.2.2.1 p ≤ 200) ∧ (-200 ≤ c.2.2.2 p ∧ c.2.2.2 p ≤ 200) := by
  have b : -50 ≤ c.2.2.1 p ∧ c.2.2.1 p ≤ 50 ∧ -50 ≤ c.2.2.2 p ∧ c.2.2.2 p ≤ 50 := G.2.2.1 p hp
  omega
theorem gpd_ok (C : CCc h 8 c) (G : GCc c) : ∃ h', f_C_greatestPointDepth h = some (nI (mpd c c.1), h') ∧ Fs [19, 20] h h' := by
  have hn := G.1
  unfold f_C_greatestPointDepth
  obtain ⟨⟨r1, r2⟩, e1, e2, e3⟩ := lp_inv (f := fun s => f_C_greatestPointDepth_L1 s.1 s.2.1 s.2.2) (fun k s => s.1 = nI (mpd c k) ∧ s.2.1 = nI k ∧ Fs [19, 20] h s.2.2) (fun r => r.1 = nI (mpd c c.1) ∧ Fs [19, 20] h r.2) c.1 (by
    rintro k ⟨a, b, h'⟩ hk ⟨rfl, rfl, F⟩
    have F : Fs [19, 20] h h' := F
    have C' : CCc h' 8 c := CC.fs C F (by decide) (by rw [rf8_0]; decide) (by rw [rf8_1]; decide)
    have c8 := (CCc_8.mp C').2.2 k hk
    have pb := ptb G hk
    obtain ⟨h2, d1, d2⟩ := depthAt_ok C' G (by decide) (by rw [rf8_0]; decide) (by rw [rf8_1]; decide) pb.1 pb.2
    have m1 := mpd_le c k
    have m2 := dpp_le c k
    have hn : c.1 ≤ 12 := hn
    show ∃ s', f_C_greatestPointDepth_L1 (nI (mpd c k)) (nI k) h' = some (.inl s') ∧ _
    unfold f_C_greatestPointDepth_L1
    rw [C'.1, if_neg (lt_no hk (by omega)), if_neg (gd (by omega) (by omega)), cla (by omega), c8.1, c8.2, d1, Option.bind_some, nI_1]
    rw [show jmax (nI (mpd c k)) (nI (dp c.1 c.2.2.1 c.2.2.2 (c.2.2.1 k) (c.2.2.2 k))) = nI (mpd c (k + 1)) from jmax_ok (by omega) (show dpp c k ≤ 100000 by omega)]
    exact ⟨_, rfl, rfl, rfl, F.trans d2⟩) (by
    rintro ⟨a, b, h'⟩ ⟨rfl, rfl, F⟩
    have F : Fs [19, 20] h h' := F
    have C' : CCc h' 8 c := CC.fs C F (by decide) (by rw [rf8_0]; decide) (by rw [rf8_1]; decide)
    have hn : c.1 ≤ 12 := hn
    show ∃ r, f_C_greatestPointDepth_L1 (nI (mpd c c.1)) (nI c.1) h' = some (.inr r) ∧ _
    unfold f_C_greatestPointDepth_L1
    rw [C'.1, if_pos (ge_yes (Nat.le_refl _) (by omega))]
    exact ⟨_, rfl, rfl, F⟩) (n := lpN) (s := (0, 0, h)) ⟨rfl, rfl, Fs.rfl'⟩ (by unfold lpN; have : c.1 ≤ 12 := hn; omega)
  have e2 : r1 = nI (mpd c c.1) := e2
  subst e2
  exact ⟨r2, e1, e3⟩
theorem pod_ok (C : CCc h 8 c) (G : GCc c) {v : Nat} (hv : v ≤ 1000) : ∃ h', f_C_pointsOfDepth (nI v) h = some (nI (bs (fun p => decide (dpp c p = v)) c.1), h') ∧ Fs [19, 20] h h' := by
  have hn : c.1 ≤ 12 := G.1
  unfold f_C_pointsOfDepth
  obtain ⟨⟨r1, r2⟩, e1, e2, e3⟩ := lp_inv (f := fun s => f_C_pointsOfDepth_L1 (nI v) s.1 s.2.1 s.2.2) (fun k s => s.1 = nI (bs (fun p => decide (dpp c p = v)) k) ∧ s.2.1 = nI k ∧ Fs [19, 20] h s.2.2) (fun r => r.1 = nI (bs (fun p => decide (dpp c p = v)) c.1) ∧ Fs [19, 20] h r.2) c.1 (by
    rintro k ⟨a, b, h'⟩ hk ⟨rfl, rfl, F⟩
    have F : Fs [19, 20] h h' := F
    have C' : CCc h' 8 c := CC.fs C F (by decide) (by rw [rf8_0]; decide) (by rw [rf8_1]; decide)
    have c8 := (CCc_8.mp C').2.2 k hk
    have pb := ptb G hk
    obtain ⟨h2, d1, d2⟩ := depthAt_ok C' G (by decide) (by rw [rf8_0]; decide) (by rw [rf8_1]; decide) pb.1 pb.2
    have m2 := dpp_le c k
    show ∃ s', f_C_pointsOfDepth_L1 (nI v) (nI (bs (fun p => decide (dpp c p = v)) k)) (nI k) h' = some (.inl s') ∧ s'.1 = nI (if decide (dpp c k = v) then bs (fun p => decide (dpp c p = v)) k ||| 2 ^ k else bs (fun p => decide (dpp c p = v)) k) ∧ s'.2.1 = nI (k + 1) ∧ Fs [19, 20] h s'.2.2
    unfold f_C_pointsOfDepth_L1
    rw [C'.1, if_neg (lt_no hk (by omega)), if_neg (gd (by omega) (by omega)), cla (by omega), c8.1, c8.2, d1, Option.bind_some, nI_1, jshl_ok k (by omega), nI_or]
    have cc : (nI (dp c.1 c.2.2.1 c.2.2.2 (c.2.2.1 k) (c.2.2.2 k)) = nI v) ↔ dpp c k = v := nI_eqI (show dpp c k ≤ 100000 by omega) (by omega)
    by_cases z : dpp c k = v
    · rw [if_pos (cc.mpr z), decide_eq_true z]
      exact ⟨_, rfl, rfl, rfl, F.trans d2⟩
    · rw [if_neg (fun x => z (cc.mp x)), decide_eq_false z]
      exact ⟨_, rfl, rfl, rfl, F.trans d2⟩) (by
    rintro ⟨a, b, h'⟩ ⟨rfl, rfl, F⟩
    have F : Fs [19, 20] h h' := F
    have C' : CCc h' 8 c := CC.fs C F (by decide) (by rw [rf8_0]; decide) (by rw [rf8_1]; decide)
    show ∃ r, f_C_pointsOfDepth_L1 (nI v) (nI (bs (fun p => decide (dpp c p = v)) c.1)) (nI c.1) h' = some (.inr r) ∧ _
    unfold f_C_pointsOfDepth_L1
    rw [C'.1, if_pos (ge_yes (Nat.le_refl _) (by omega))]
    exact ⟨_, rfl, rfl, F⟩) (n := lpN) (s := (0, 0, h)) ⟨rfl, rfl, Fs.rfl'⟩ (by unfold lpN; omega)
  have e2 : r1 = nI (bs (fun p => decide (dpp c p = v)) c.1) := e2
  subst e2
  exact ⟨r2, e1, e3⟩
theorem R_dpt_ok (C : RRc h c) (G : GCc c) (x1 : Int32) : f_R_deepestPoint x1 h = some (if x1 = 0 then nI (mpd c c.1) else nI (bs (fun p => decide (dpp c p = mpd c c.1)) c.1)) := by
  have hn : c.1 ≤ 12 := G.1
  unfold f_R_deepestPoint
  refine lp_run (f := fun s => f_R_deepestPoint_L1 x1 h s.1 s.2.1 s.2.2) (fun k => (nI (mpd c k), nI (bs (fun p => decide (dpp c p = mpd c k)) k), nI k)) c.1 (fun k hk => ?_) ?_ (n := lpN) (by unfold lpN; omega)
  · show f_R_deepestPoint_L1 x1 h (nI (mpd c k)) (nI (bs (fun p => decide (dpp c p = mpd c k)) k)) (nI k) = some (.inl (nI (max (mpd c k) (dpp c k)), nI (bs (fun p => decide (dpp c p = max (mpd c k) (dpp c k))) (k + 1)), nI (k + 1)))
    have pb := ptb G hk
    have m1 := mpd_le c k
    have m2 := dpp_le c k
    have rd := R_depthOf_ok C G pb.1 pb.2
    have rd : f_R_depthOf (iI (c.2.2.1 k)) (iI (c.2.2.2 k)) h = some (nI (dpp c k)) := rd
    unfold f_R_deepestPoint_L1 f_R_deepestPoint_J2 f_R_deepestPoint_J3 f_R_all
    rw [C.1, if_neg (lt_no hk (by omega)), R_x_ok C hn hk, R_y_ok C hn hk]
    simp only [Option.bind_some]
    rw [rd, nI_1, jshl_ok k (by omega)]
    simp only [Option.bind_some]
    by_cases z : mpd c k < dpp c k
    · have nle : ¬ nI (dpp c k) ≤ nI (mpd c k) := nI_ge z (by omega)
      rw [if_neg nle, if_neg nle, if_pos trivial, Nat.max_eq_right (by omega), show (0 : Int32) = nI 0 from rfl, nI_or]
      congr 4
      refine congrArg nI ?_
      apply set_eq (n := k + 1) ?_ (bs_lt _ _)
      · intro i hi
        rw [Nat.testBit_or, Nat.zero_testBit, Bool.false_or, Nat.testBit_two_pow, bs_bit, decide_eq_true hi, Bool.true_and]
        by_cases e : i = k
        · subst e; simp
        · have := mpd_at c (p := i) k (by omega)
          rw [decide_eq_false (by omega), decide_eq_false (by omega)]
      · exact Nat.or_lt_two_pow (Nat.two_pow_pos _) (Nat.pow_lt_pow_right (by decide) (by omega))
    · have le : nI (dpp c k) ≤ nI (mpd c k) := nI_le (by omega) (by omega)
      rw [if_pos le, if_pos le, Nat.max_eq_left (by omega)]
      simp only [nI_eqI (show dpp c k ≤ 100000 by omega) (show mpd c k ≤ 100000 by omega)]
      show _ = some (Sum.inl (nI (mpd c k), nI (if decide (dpp c k = mpd c k) then bs (fun p => decide (dpp c p = mpd c k)) k ||| 2 ^ k else bs (fun p => decide (dpp c p = mpd c k)) k), nI (k + 1)))
      by_cases y : dpp c k = mpd c k
      · rw [if_pos y, nI_or, decide_eq_true y, if_pos rfl]
      · rw [if_neg y, decide_eq_false y]
        rfl
  · show f_R_deepestPoint_L1 x1 h (nI (mpd c c.1)) (nI (bs (fun p => decide (dpp c p = mpd c c.1)) c.1)) (nI c.1) = _
    unfold f_R_deepestPoint_L1 f_R_all
    rw [C.1, if_pos (ge_yes (Nat.le_refl _) (by omega))]
    split <;> rfl
end PT
section PS
variable {KC KD KE : pH → Cfg → Prop}
theorem rd_go4 (hKC : Kst KC) (hKD : Kst KD) (hKE : Kst KE) {k : Nat} {h : pH} {c : Cfg} {und : Nat} {P : Nat → Cfg} {S : Nat → Option Cfg} {len : Nat} {B : Nat → Nat} {pl : Int32} (gs : GS c und P S len B) (vc : VC KC KD KE k h c und P S len B pl) (vr : VR h c und P S len B pl) {h1 h2 : pH} (L M : Nat → Nat → Prop) (hA : ∀ o k, L o k → o < 79 ∧ ¬ Rc o k) (hB : ∀ o k, M o k → 79 ≤ o ∧ ¬ Rr o k) (f1 : Fp L h h1) (f2 : Fp M h1 h2) : JJ KC KD KE (k + 1) h2 := by
  refine ⟨c, und, P, S, len, B, pl, gs, ?_, ?_⟩
  · refine vc.ag hKC hKD hKE (by omega) (fun o k hr => ?_)
    rw [f2.1 o k (fun x => by have := (hB o k x).1; have := Rc_lt hr; omega), f1.1 o k (fun x => (hA o k x).2 hr)]
  · refine vr.ag gs (fun o k hr => ?_) (fun k => ?_)
    · rw [f2.1 o k (fun x => (hB o k x).2 hr), f1.1 o k (fun x => by have := (hA o k x).1; have := Rr_ge hr; omega)]
    · unfold hL
      rw [f2.2, f1.2]
def QL (o _ : Nat) : Prop := o = 14 ∨ o = 15 ∨ o = 16 ∨ o = 19 ∨ o = 20 ∨ o = 30
def QM (o k : Nat) : Prop := o = 94 ∨ o = 95 ∨ SM79 o k
theorem QL_ok : ∀ o k, QL o k → o < 79 ∧ ¬ Rc o k := fun o k x => ⟨by unfold QL at x; omega, fun y => by unfold QL at x; unfold Rc Pl Pu Ps Pt at y; omega⟩
theorem QM_ok : ∀ o k, QM o k → 79 ≤ o ∧ ¬ Rr o k := fun o k x => ⟨by unfold QM SM79 at x; omega, fun y => by unfold QM SM79 at x; unfold Rr Qu Qs Qt at y; omega⟩
theorem Fs.fp {L : List Nat} {Q : Nat → Nat → Prop} {h h' : pH} (F : Fs L h h') (H : ∀ o k, o ∈ L → Q o k) : Fp Q h h' := ⟨fun o k x => F.1 o k (fun y => x (H o k y)), F.2⟩
theorem Fp.fp {P Q : Nat → Nat → Prop} {h h' : pH} (F : Fp P h h') (H : ∀ o k, P o k → Q o k) : Fp Q h h' := ⟨fun o k x => F.1 o k (fun y => x (H o k y)), F.2⟩
theorem mQL {L : List Nat} (H : ∀ o, o ∈ L → o = 14 ∨ o = 15 ∨ o = 16 ∨ o = 19 ∨ o = 20 ∨ o = 30) : ∀ o k, o ∈ L → QL o k := fun o _ x => H o x
theorem sp_point (hKC : Kst KC) (hKD : Kst KD) (hKE : Kst KE) : Sp_point (JJ KC KD KE) := by
  intro k h _ H a0 a1
  have J0 := H.mono hKC hKD hKE
  obtain ⟨c, und, P, S, len, B, pl, gs, vc, vr⟩ := H
  have G := gs.1
  have C := vc.cc
  have R := vr.1
  have hn : c.1 ≤ 12 := G.1
  have i5 := in_ok a1 (lo := 0) (hi := 5) (by unfold InR; omega) (by unfold InR; omega)
  have i5 : f_R_in a1 0 5 = if 0 ≤ a1.toInt ∧ a1.toInt ≤ 5 then 1 else 0 := i5
  by_cases z : 0 ≤ a0.toInt ∧ a0.toInt < c.1
  rotate_left
  · refine ⟨-100000, h, h, ?_, ?_, J0⟩
    · unfold f_C_point
      rw [has_in C hn, if_neg z, if_pos rfl]
    · unfold f_R_point
      rw [isPoint_ok R hn, if_neg z, if_pos rfl]
  obtain ⟨p, hp, rfl⟩ := pt_nat z.1 z.2
  have hasC : ¬ f_Cloud_has 8 (nI p) h = 0 := by rw [has_in C hn, if_pos z]; decide
  have isP : ∀ h', RRc h' c → ¬ f_R_isPoint (nI p) h' = 0 := fun h' R' => by rw [isPoint_ok R' hn, if_pos z]; decide
  by_cases q : 0 ≤ a1.toInt ∧ a1.toInt ≤ 5
  rotate_left
  · have ne : ∀ y : Int, 0 ≤ y ∧ y ≤ 5 → ¬ a1 = iI y := by
      rintro y hy rfl
      rw [iI_toInt (by unfold InR; omega)] at q
      omega
    refine ⟨-100000, h, h, ?_, ?_, J0⟩
    · unfold f_C_point
      rw [if_neg hasC, if_neg (show ¬ a1 = 0 from ne 0 (by omega)), if_neg (show ¬ a1 = 1 from ne 1 (by omega)), if_neg (show ¬ a1 = 2 from ne 2 (by omega)), if_neg (show ¬ a1 = 3 from ne 3 (by omega)), if_neg (show ¬ a1 = 4 from ne 4 (by omega)), if_neg (show ¬ a1 = 5 from ne 5 (by omega))]
    · unfold f_R_point
      rw [if_neg (isP h R), i5, if_neg q, if_pos rfl]
  have inq : ¬ f_R_in a1 0 5 = 0 := by rw [i5, if_pos q]; decide
  obtain ⟨m, hm, rfl⟩ := pt_nat (n := 6) q.1 (by omega)
  have c8 := (CCc_8.mp C).2.2 p hp
  have gdd : ¬ (nI p < 0 ∨ 12 ≤ (nI p).toNatClampNeg) := gd (by omega) (by omega)
  have cl : (nI p).toNatClampNeg = p := cla (by omega)
  have fin : ∀ v h1 h2, f_C_point (nI p) (nI m) h = some (v, h1) → f_R_point (nI p) (nI m) h1 = some (v, h2) → Fp QL h h1 → Fp QM h1 h2 → ∃ v h1 h2, f_C_point (nI p) (nI m) h = some (v, h1) ∧ f_R_point (nI p) (nI m) h1 = some (v, h2) ∧ JJ KC KD KE (k + 1) h2 := fun v h1 h2 e1 e2 f1 f2 => ⟨v, h1, h2, e1, e2, rd_go4 hKC hKD hKE gs vc vr QL QM QL_ok QM_ok f1 f2⟩
  have : m = 0 ∨ m = 1 ∨ m = 2 ∨ m = 3 ∨ m = 4 ∨ m = 5 := by omega
  rcases this with rfl | rfl | rfl | rfl | rfl | rfl
  · refine fin (iI (c.2.2.1 p)) h h ?_ ?_ Fp.rfl' Fp.rfl'
    · unfold f_C_point
      rw [if_neg hasC, if_pos (show nI 0 = 0 from rfl), if_neg gdd, cl, c8.1]
    · unfold f_R_point
      rw [if_neg (isP h R), if_neg inq, if_pos (show nI 0 = 0 from rfl), R_x_ok R hn hp]
      rfl
  · refine fin (iI (c.2.2.2 p)) h h ?_ ?_ Fp.rfl' Fp.rfl'
    · unfold f_C_point
      rw [if_neg hasC, if_neg (show ¬ nI 1 = 0 by decide), if_pos (show nI 1 = 1 from rfl), if_neg gdd, cl, c8.2]
    · unfold f_R_point
      rw [if_neg (isP h R), if_neg inq, if_neg (show ¬ nI 1 = 0 by decide), if_pos (show nI 1 = 1 from rfl), R_y_ok R hn hp]
      rfl
  · obtain ⟨K, hK, z1, z2⟩ := layers_K G
    obtain ⟨h1, e1, f1, d2, d3⟩ := peel_ok C G (by decide) (by rw [rf8_0]; decide) (by rw [rf8_1]; decide) hK z1 z2
    have R1 := RR.fs R f1 (by decide)
    obtain ⟨h2, e2, f2, d4⟩ := laysLayers_ok R1 G hK z1 z2
    obtain ⟨j, hj, w1, w2⟩ := layerWith_ok hK hn hp z2 d2 d3 d4
    refine fin (nI j) h1 h2 ?_ ?_ (f1.fp (mQL (by decide))) (f2.fp (fun o k x => Or.inl (by simpa using x)))
    · unfold f_C_point
      rw [if_neg hasC, if_neg (show ¬ nI 2 = 0 by decide), if_neg (show ¬ nI 2 = 1 by decide), if_pos (show nI 2 = 2 from rfl), e1, Option.bind_some, w1, Option.bind_some]
    · unfold f_R_point f_R_layerOf
      rw [if_neg (isP h1 R1), if_neg inq, if_neg (show ¬ nI 2 = 0 by decide), if_neg (show ¬ nI 2 = 1 by decide), if_pos (show nI 2 = 2 from rfl), e2, Option.bind_some, w2]
      rfl
  · have pb := ptb G hp
    obtain ⟨h1, e1, f1⟩ := depthAt_ok C G (by decide) (by rw [rf8_0]; decide) (by rw [rf8_1]; decide) pb.1 pb.2
    have R1 : RRc h1 c := RR.fs R f1 (by decide)
    refine fin (nI (dpp c p)) h1 h1 ?_ ?_ (f1.fp (mQL (by decide))) Fp.rfl'
    · unfold f_C_point
      rw [if_neg hasC, if_neg (show ¬ nI 3 = 0 by decide), if_neg (show ¬ nI 3 = 1 by decide), if_neg (show ¬ nI 3 = 2 by decide), if_pos (show nI 3 = 3 from rfl), if_neg gdd, cl, c8.1, c8.2, e1]
      rfl
    · unfold f_R_point
      rw [if_neg (isP h1 R1), if_neg inq, if_neg (show ¬ nI 3 = 0 by decide), if_neg (show ¬ nI 3 = 1 by decide), if_neg (show ¬ nI 3 = 2 by decide), if_pos (show nI 3 = 3 from rfl), R_x_ok R1 hn hp, R_y_ok R1 hn hp, Option.bind_some, Option.bind_some, R_depthOf_ok R1 G pb.1 pb.2]
      rfl
  · obtain ⟨K, hK, z1, z2⟩ := layers_K G
    obtain ⟨h1, e1, f1, d2, d3⟩ := peel_ok C G (by decide) (by rw [rf8_0]; decide) (by rw [rf8_1]; decide) hK z1 z2
    have C1 := CC.fs C f1 (by decide) (by rw [rf8_0]; decide) (by rw [rf8_1]; decide)
    have R1 := RR.fs R f1 (by decide)
    obtain ⟨h2, e2, f2, d4⟩ := laysLayers_ok R1 G hK z1 z2
    have R2 := RR.fs R1 f2 (by decide)
    obtain ⟨j, hj, w1, w2⟩ := layerWith_ok hK hn hp z2 d2 d3 d4
    have l4 := hl_4 (X := c.2.2.1) (Y := c.2.2.2) hn (ly c.1 c.2.2.1 c.2.2.2 j)
    have lb : f_Hulls_layerBits (nI j) h1 = some (nI (hl c.1 c.2.2.1 c.2.2.2 (ly c.1 c.2.2.1 c.2.2.2 j))) := by
      unfold f_Hulls_layerBits
      rw [if_neg (by rw [lt0x, nI_iI, iI_toInt (by unfold InR; omega)]; omega), d2, if_neg (lt_no hj (by omega)), if_neg (gd (by omega) (by omega)), cla (by omega), d3 j hj]
    have c4 : co c.1 c.2.2.1 c.2.2.2 (hl c.1 c.2.2.1 c.2.2.2 (ly c.1 c.2.2.1 c.2.2.2 j)) < 4096 := Nat.lt_of_lt_of_le (co_lt _) (p12 hn)
    refine fin (if (co c.1 c.2.2.1 c.2.2.2 (hl c.1 c.2.2.1 c.2.2.2 (ly c.1 c.2.2.1 c.2.2.2 j))).testBit p then 1 else 0) h1 h2 ?_ ?_ (f1.fp (mQL (by decide))) (f2.fp (fun o k x => Or.inl (by simpa using x)))
    · unfold f_C_point
      rw [if_neg hasC, if_neg (show ¬ nI 4 = 0 by decide), if_neg (show ¬ nI 4 = 1 by decide), if_neg (show ¬ nI 4 = 2 by decide), if_neg (show ¬ nI 4 = 3 by decide), if_pos (show nI 4 = 4 from rfl), e1, Option.bind_some, w1, Option.bind_some, lb, Option.bind_some, cornersOf_ok C1 G l4, Option.bind_some, bit_ok (by omega) (by omega)]
    · unfold f_R_point f_R_isLayersCorner f_R_layerOf
      rw [if_neg (isP h1 R1), if_neg inq, if_neg (show ¬ nI 4 = 0 by decide), if_neg (show ¬ nI 4 = 1 by decide), if_neg (show ¬ nI 4 = 2 by decide), if_neg (show ¬ nI 4 = 3 by decide), if_pos (show nI 4 = 4 from rfl), e2, Option.bind_some, w2, Option.bind_some, if_neg (show ¬ (nI j < 0 ∨ 13 ≤ (nI j).toNatClampNeg) from gd (by omega) (by omega)), show (nI j).toNatClampNeg = j from cla (by omega), d4 j hj, R_cornersOf_ok R2 G l4, Option.bind_some, has_ok (by omega) (by omega), Option.bind_some]
      cases (co c.1 c.2.2.1 c.2.2.2 (hl c.1 c.2.2.1 c.2.2.2 (ly c.1 c.2.2.1 c.2.2.2 j))).testBit p <;> rfl
  · refine fin (nI (ctn (fun t => nrB c p (px c.2.1 t) (py c.2.1 t)) (wd c.2.1 * wd c.2.1))) h h ?_ ?_ Fp.rfl' Fp.rfl'
    · unfold f_C_point
      rw [if_neg hasC, if_neg (show ¬ nI 5 = 0 by decide), if_neg (show ¬ nI 5 = 1 by decide), if_neg (show ¬ nI 5 = 2 by decide), if_neg (show ¬ nI 5 = 3 by decide), if_neg (show ¬ nI 5 = 4 by decide), if_pos (show nI 5 = 5 from rfl), shareOf_ok C G hp, Option.bind_some]
    · unfold f_R_point
      rw [if_neg (isP h R), if_neg inq, if_neg (show ¬ nI 5 = 0 by decide), if_neg (show ¬ nI 5 = 1 by decide), if_neg (show ¬ nI 5 = 2 by decide), if_neg (show ¬ nI 5 = 3 by decide), if_neg (show ¬ nI 5 = 4 by decide), R_shareOf_ok R G hp, Option.bind_some]
end PS
