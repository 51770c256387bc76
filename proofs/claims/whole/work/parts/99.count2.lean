/-! count -/
section CN
variable {KC KE : pH → Cfg → Prop}
def cw (S : Nat → Option Cfg) : Nat := (if (S 0).isSome then 1 else 0) + (if (S 1).isSome then 1 else 0) + (if (S 2).isSome then 1 else 0)
theorem slots_ok {h : pH} {S : Nat → Option Cfg} (V : VCs h S) : f_C_slotsInUse h = some (nI (cw S)) := by
  unfold f_C_slotsInUse
  have st : ∀ k, k < 3 → ∀ a : Nat, f_C_slotsInUse_L1 h (nI a) (nI k) = some (.inl (nI (a + if (S k).isSome then 1 else 0), nI (k + 1))) := by
    intro k hk a
    unfold f_C_slotsInUse_L1
    rw [if_neg (show ¬ (3 : Int32) ≤ nI k from nI_ge (b := 3) hk (by omega)), if_neg (gd (by omega) (by omega)), cla (by omega), (V k hk).1, nI_1, nI_1]
    cases (S k).isSome <;> rfl
  have e := lp_ct0 (f := fun s => f_C_slotsInUse_L1 h s.1 s.2) 3 (fun k => (S k).isSome) (r := nI (ctn (fun k => (S k).isSome) 3)) (fun k hk a => st k hk a) (by
    show f_C_slotsInUse_L1 h _ (nI 3) = _
    unfold f_C_slotsInUse_L1
    rw [if_pos (show (3 : Int32) ≤ nI 3 by decide)]) (by unfold lpN; omega)
  rw [e]
  congr 2
  show 0 + (if (S 0).isSome then 1 else 0) + (if (S 1).isSome then 1 else 0) + (if (S 2).isSome then 1 else 0) = _
  unfold cw
  omega
theorem R_slots_ok {h : pH} {S : Nat → Option Cfg} (V : VRs h S) : (if hI h 93 0 = 0 then f_R_count_J1 0 h else f_R_count_J1 1 h) = some (nI (cw S), h) := by
  unfold f_R_count_J1 f_R_count_J2 cw
  rw [(V 0 (by omega)).1, (V 1 (by omega)).1, (V 2 (by omega)).1]
  cases (S 0).isSome <;> cases (S 1).isSome <;> cases (S 2).isSome <;> rfl
theorem third_ok {h : pH} {c : Cfg} (C : CCc h 8 c) (hn : c.1 ≤ 12) : f_C_thirdPart h = nI ((c.1 + 2) / 3) := by
  unfold f_C_thirdPart
  rw [C.1, show (2 : Int32) = nI 2 from rfl, nI_add, show (3 : Int32) = nI 3 from rfl, pk_div (by omega) (by omega) (by omega)]
theorem R_third_ok {h : pH} {c : Cfg} (C : RRc h c) (hn : c.1 ≤ 12) : f_R_third h = nI ((c.1 + 2) / 3) := by
  unfold f_R_third f_R_all
  rw [C.1, show (2 : Int32) = nI 2 from rfl, nI_add, show (3 : Int32) = nI 3 from rfl, pk_div (by omega) (by omega) (by omega)]
theorem sp_count (hKC : Kst KC) (hKE : Kst KE) (sC : ∀ h h' c, (∀ k, hI h' 23 k = hI h 23 k) → KC h c → KC h' c) (sE : ∀ h h' c, (∀ k, hI h' 26 k = hI h 26 k) → KE h c → KE h' c) : Sp_count (JJ KC KDd KE) := by
  intro k h hk512 H a0
  have J0 := H.mono hKC Kst_KDd hKE
  obtain ⟨c, und, P, S, len, B, pl, gs, vc, vr⟩ := H
  have G := gs.1
  have C := vc.cc
  have R := vr.1
  have hn : c.1 ≤ 12 := G.1
  have fin : ∀ v h1 h2, f_C_count a0 h = some (v, h1) → f_R_count a0 h1 = some (v, h2) → Fp QL h h1 → Fp QM h1 h2 → ∃ v h1 h2, f_C_count a0 h = some (v, h1) ∧ f_R_count a0 h1 = some (v, h2) ∧ JJ KC KDd KE (k + 1) h2 := fun v h1 h2 e1 e2 f1 f2 => ⟨v, h1, h2, e1, e2, rd_go4 hKC Kst_KDd hKE gs vc vr QL QM QL_ok QM_ok f1 f2⟩
  have qm95 : ∀ o k, o ∈ [95] → QM o k := fun o k x => Or.inr (Or.inl (by simpa using x))
  have qmS : ∀ o k, SM79 o k → QM o k := fun o k x => Or.inr (Or.inr x)
  by_cases q : 0 ≤ a0.toInt ∧ a0.toInt ≤ 14
  rotate_left
  · have ne : ∀ y : Int, 0 ≤ y ∧ y ≤ 14 → ¬ a0 = iI y := by
      rintro y hy rfl
      rw [iI_toInt (by unfold InR; omega)] at q
      omega
    have n0 : ¬ a0 = 0 := ne 0 (by omega)
    have n1 : ¬ a0 = 1 := ne 1 (by omega)
    have n2 : ¬ a0 = 2 := ne 2 (by omega)
    have n3 : ¬ a0 = 3 := ne 3 (by omega)
    have n4 : ¬ a0 = 4 := ne 4 (by omega)
    have n5 : ¬ a0 = 5 := ne 5 (by omega)
    have n6 : ¬ a0 = 6 := ne 6 (by omega)
    have n7 : ¬ a0 = 7 := ne 7 (by omega)
    have n8 : ¬ a0 = 8 := ne 8 (by omega)
    have n9 : ¬ a0 = 9 := ne 9 (by omega)
    have n10 : ¬ a0 = 10 := ne 10 (by omega)
    have n11 : ¬ a0 = 11 := ne 11 (by omega)
    have n12 : ¬ a0 = 12 := ne 12 (by omega)
    have n13 : ¬ a0 = 13 := ne 13 (by omega)
    have n14 : ¬ a0 = 14 := ne 14 (by omega)
    refine ⟨-1, h, h, ?_, ?_, J0⟩
    · unfold f_C_count
      rw [if_neg n0, if_neg n1, if_neg n2, if_neg n3, if_neg n4, if_neg n5, if_neg n6, if_neg n7, if_neg n8, if_neg n9, if_neg n10, if_neg n11, if_neg n12, if_neg n13, if_neg n14]
    · unfold f_R_count
      rw [if_neg n0, if_neg n1, if_neg n2, if_neg n3, if_neg n4, if_neg n5, if_neg n6, if_neg n7, if_neg n8, if_neg n9, if_neg n10, if_neg n11, if_neg n12, if_neg n13, if_neg n14]
  obtain ⟨m, hm, rfl⟩ := pt_nat (n := 15) q.1 (by omega)
  have hms : m = 0 ∨ m = 1 ∨ m = 2 ∨ m = 3 ∨ m = 4 ∨ m = 5 ∨ m = 6 ∨ m = 7 ∨ m = 8 ∨ m = 9 ∨ m = 10 ∨ m = 11 ∨ m = 12 ∨ m = 13 ∨ m = 14 := by omega
  have l12 := p12 hn
  rcases hms with rfl | rfl | rfl | rfl | rfl | rfl | rfl | rfl | rfl | rfl | rfl | rfl | rfl | rfl | rfl
  · exact fin (nI c.1) h h (by show some (hI h 8 2, h) = _; rw [C.1]) (by show some (f_R_all h, h) = _; rw [show f_R_all h = nI c.1 from R.1]) Fp.rfl' Fp.rfl'
  · exact fin (nI c.2.1) h h (by show some (hI h 8 3, h) = _; rw [C.2.1]) (by show some (hI h 87 1, h) = _; rw [R.2.1]) Fp.rfl' Fp.rfl'
  · obtain ⟨h1, e1, f1, d2, d3⟩ := walk_ok C G (by decide) (by rw [rf8_0]; decide) (by rw [rf8_1]; decide)
    have C1 := CC.fs C f1 (by decide) (by rw [rf8_0]; decide) (by rw [rf8_1]; decide)
    have R1 := RR.fs R f1 (by decide)
    obtain ⟨h2, e2, f2, d4⟩ := laysCorners_ok R1 G
    have R2 := RR.fs R1 f2 (by decide)
    have hc : cm c.1 c.2.2.1 c.2.2.2 ≤ 12 := pct_le _
    have hw : ∀ i, i < cm c.1 c.2.2.1 c.2.2.2 → wc c.1 c.2.2.1 c.2.2.2 i < c.1 := fun i hi => ((wk_in (X := c.2.2.1) (Y := c.2.2.2) (co_lt (2 ^ c.1 - 1)) (fun e => by
      unfold cm at hi
      rw [e, pct_0] at hi
      omega)).2 i).1
    have a1 := area_ok C1 hn hc hw d2 d3
    have a2 := R_area_ok R2 hn hc hw d4
    refine fin (iI (fan c.2.2.1 c.2.2.2 (wc c.1 c.2.2.1 c.2.2.2) (cm c.1 c.2.2.1 c.2.2.2 - 2))) h1 h2 ?_ ?_ (f1.fp (mQL (by decide))) (f2.fp qm95)
    · show ((f_Hulls_walk 8 h).bind fun v => (f_Hulls_areaTwice 8 v).bind fun w => some (w, v)) = _
      rw [e1, Option.bind_some, a1, Option.bind_some]
    · show ((f_R_area h1).bind fun v => some (v.1, v.2)) = _
      unfold f_R_area
      rw [e2, Option.bind_some, a2, Option.bind_some, fan_shl]
  · refine fin (nI (co c.1 c.2.2.1 c.2.2.2 (2 ^ c.1 - 1))) h h ?_ ?_ Fp.rfl' Fp.rfl'
    · show ((f_Hulls_cornersOf 8 (f_Cloud_everyone 8 h) h).bind fun v => some (v, h)) = _
      rw [every_ok C hn, cornersOf_ok C G (full_lt hn), Option.bind_some]
    · show ((f_R_cornersOf (f_R_full h) h).bind fun v => some (v, h)) = _
      rw [full_ok R hn, R_cornersOf_ok R G (full_lt hn), Option.bind_some]
  · refine fin _ h h (?_ : ((f_Shapes_triplesOnOneLine 8 h).bind fun v => some (v, h)) = some (nI (S3 c.1 (fun p q r => b1 (p < q ∧ q < r ∧ decide (T3 c.2.2.1 c.2.2.2 p q r = 0) = true))), h)) ?_ Fp.rfl' Fp.rfl'
    · rw [onLine_ok C G, Option.bind_some]
    · show ((f_R_onLine h).bind fun v => some (v, h)) = _
      rw [R_onLine_ok R G, Option.bind_some]
  · obtain ⟨h1, e1, f1⟩ := gpd_ok C G
    have R1 : RRc h1 c := RR.fs R f1 (by decide)
    refine fin (nI (mpd c c.1)) h1 h1 ?_ ?_ (f1.fp (mQL (by decide))) Fp.rfl'
    · show ((f_C_greatestPointDepth h).bind fun v => some (v.1, v.2)) = _
      rw [e1, Option.bind_some]
    · show ((f_R_deepestPoint 0 h1).bind fun v => some (v, h1)) = _
      rw [R_dpt_ok R1 G, Option.bind_some, if_pos rfl]
  · obtain ⟨h1, e1, f1⟩ := gpd_ok C G
    have C1 : CCc h1 8 c := CC.fs C f1 (by decide) (by rw [rf8_0]; decide) (by rw [rf8_1]; decide)
    obtain ⟨h2, e2, f2⟩ := pod_ok C1 G (v := mpd c c.1) (by have := mpd_le c c.1; omega)
    have F := f1.trans f2
    have R2 : RRc h2 c := RR.fs R F (by decide)
    refine fin (nI (bs (fun p => decide (dpp c p = mpd c c.1)) c.1)) h2 h2 ?_ ?_ (F.fp (mQL (by decide))) Fp.rfl'
    · show ((f_C_greatestPointDepth h).bind fun v => (f_C_pointsOfDepth v.1 v.2).bind fun w => some (w.1, w.2)) = _
      rw [e1, Option.bind_some, e2, Option.bind_some]
    · show ((f_R_deepestPoint 1 h2).bind fun v => some (v, h2)) = _
      rw [R_dpt_ok R2 G, Option.bind_some, if_neg (by decide)]
  · exact fin (nI len) h h (by show some (hI h 1 1, h) = _; rw [vc.2.2.2.1.1]) (by show some (hI h 79 2, h) = _; rw [vr.2.2.2.1.1]) Fp.rfl' Fp.rfl'
  · obtain ⟨np, ⟨u1, -⟩, -⟩ := vc.2.1
    obtain ⟨er, ⟨u2, -⟩, -⟩ := vr.2.1
    exact fin (nI und) h h (by show some (hI h 0 13, h) = _; rw [u1]) (by show some (hI h 79 24, h) = _; rw [u2]) Fp.rfl' Fp.rfl'
  · refine fin (nI (cw S)) h h ?_ ?_ Fp.rfl' Fp.rfl'
    · show ((f_C_slotsInUse h).bind fun v => some (v, h)) = _
      rw [slots_ok vc.2.2.1, Option.bind_some]
    · exact R_slots_ok vr.2.2.1
  · exact fin (nI ((c.1 + 2) / 3)) h h (by show some (f_C_thirdPart h, h) = _; rw [third_ok C hn]) (by show some (f_R_third h, h) = _; rw [R_third_ok R hn]) Fp.rfl' Fp.rfl'
  · obtain ⟨h1, e1, f1, e3, kd⟩ := survey_ok (by omega) vc.1 G
    have vc1 := vc.sv sC sE f1 e3 kd
    have vr1 := vr.fs gs f1 (by decide)
    obtain ⟨h2, d1, d2, -⟩ := deepestOf_ok vr1.1 G
    have J2 : JJ KC KDd KE (k + 1) h2 := ⟨c, und, P, S, len, B, pl, gs, vc1.fp hKC Kst_KDd hKE (Nat.le_refl _) d2 s79_c, vr1.fp gs d2 s79_r⟩
    have R2 : RRc h2 c := RR.fp vr1.1 d2 (fun k e => by unfold S79 at e; omega)
    have tc := third_ok vc1.cc hn
    have tr := R_third_ok R2 hn
    refine ⟨if iI (db c (wd c.2.1 * wd c.2.1)) < nI ((c.1 + 2) / 3) then 0 else 1, h1, h2, ?_, ?_, J2⟩
    · show ((f_Depths_survey 8 h).bind fun v => if hI v 17 4 < f_C_thirdPart v then some (0, v) else some (1, v)) = _
      rw [e1, Option.bind_some, kd.1, tc]
      split <;> rfl
    · show ((f_R_deepestOf h1).bind fun v => if v.1 < f_R_third v.2 then some (0, v.2) else some (1, v.2)) = _
      rw [d1, Option.bind_some, tr]
      split <;> rfl
  · obtain ⟨h1, e1, f1⟩ := greatestConvex_ok C G
    have R1 := RR.fs R f1 (by decide)
    obtain ⟨h2, d1, d2⟩ := laysMeetings_ok R1 G
    have R2 := RR.ml R1 d2
    refine fin (nI (mcx c.1 c.2.2.1 c.2.2.2 (2 ^ c.1))) h1 h2 ?_ ?_ (f1.fp (mQL (by decide))) (d2.1.fp qmS)
    · show ((f_Shapes_greatestConvex 8 h).bind fun v => some (v.1, v.2)) = _
      rw [e1, Option.bind_some]
    · show ((f_R_convexMost h1).bind fun v => some (v.1, v.2)) = _
      unfold f_R_convexMost
      rw [d1, Option.bind_some, R_convexMost_ok R2 G d2, Option.bind_some]
  · refine fin _ h h (?_ : ((f_Shapes_emptyTriangles 8 h).bind fun v => some (v, h)) = some (nI (S3 c.1 (fun p q r => b1 (p < q ∧ q < r ∧ (decide (T3 c.2.2.1 c.2.2.2 p q r ≠ 0) && emB c.1 c.2.2.1 c.2.2.2 p q r) = true))), h)) ?_ Fp.rfl' Fp.rfl'
    · rw [empty_ok C G, Option.bind_some]
    · show ((f_R_emptyOnes h).bind fun v => some (v, h)) = _
      rw [R_empty_ok R G, Option.bind_some]
  · obtain ⟨h2, d1, d2⟩ := laysMeetings_ok R G
    refine fin (nI (S4 c.1 (pr4 c.2.2.1 c.2.2.2))) h h2 ?_ ?_ Fp.rfl' (d2.1.fp qmS)
    · show ((f_Shapes_meetingPairs 8 h).bind fun v => some (v, h)) = _
      rw [pairs_ok C G, Option.bind_some]
    · show ((f_R_crossingWays h).bind fun v => some (v.1, v.2)) = _
      unfold f_R_crossingWays
      rw [d1, Option.bind_some, crossing_ok G d2, Option.bind_some, pairs_eq hn]
end CN
