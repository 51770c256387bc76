/-! the reference's meaning of the grid's line, and of the whole text -/
def FMs (h h' : pH) : Prop := (∀ o k, ¬ (o = 79 ∧ (k = 14 ∨ k = 15)) → o ≠ 88 → o ≠ 90 → hI h' o k = hI h o k) ∧ ∀ o k, o ≠ 89 → hL h' o k = hL h o k
theorem FMs.rfl' {h : pH} : FMs h h := ⟨fun _ _ _ _ _ => rfl, fun _ _ _ => rfl⟩
theorem FMs.trans {a b c : pH} (A : FMs a b) (B : FMs b c) : FMs a c := ⟨fun o k x y z => (B.1 o k x y z).trans (A.1 o k x y z), fun o k x => (B.2 o k x).trans (A.2 o k x)⟩
theorem FMs.set {a b : pH} (A : FMs a b) {k : Nat} {v : Int32} : FMs a (sI b 88 k v) := ⟨fun o' k' x y z => by rw [hI_n (by omega)]; exact A.1 o' k' x y z, fun o' k' x => A.2 o' k' x⟩
theorem FM.fms {n : Nat} {a b : pH} (F : FM n a b) : FMs a b := ⟨fun o k x y z => F.1 o k x (by omega) (by omega), fun o k x => F.2 o k (by omega)⟩
theorem Fp.fms {a b : pH} (A : Fp FWp a b) : FMs a b := ⟨fun o k x _ _ => A.1 o k (by unfold FWp; omega), fun o k _ => by unfold hL; rw [A.2]⟩
section WM
variable {K P V : Nat → Nat} {W : Nat → Int64} {q : Nat} {h h' : pH}
theorem FMs.tla (F : FMs h h') (T : TLa K P V W q h) : TLa K P V W q h' := T.fr (fun o k ho => F.1 o k (by omega) (by omega) (by omega)) (fun k => F.2 85 k (by omega))
theorem in20 {v : Nat} (hv : v ≤ 9999) : f_R_in (nI v) 1 20 = if 1 ≤ v ∧ v ≤ 20 then 1 else 0 := by
  have a := in_ok (nI v) (lo := 1) (hi := 20) (by unfold InR; omega) (by unfold InR; omega)
  rw [nI_iI, iI_toInt (by unfold InR; omega)] at a
  rw [nI_iI]
  have a : f_R_in (iI v) 1 20 = _ := a
  rw [a]
  by_cases c : 1 ≤ v ∧ v ≤ 20
  · rw [if_pos c, if_pos (by omega)]
  · rw [if_neg c, if_neg (by omega)]
theorem gline_ok (hg : ∀ j, j < q → gdK K j) (hq : ssK K q = 0) (hP : ∀ j, j < q → P j < P (j + 1)) (hq4 : q ≤ 400) (T : TLa K P V W q h) {e : Nat} (he : e < q) (es : ssK K e = 0) (k21 : K e = 21) (R : SMr (npK K e) (sfK K P V W e) h) : ∃ h', f_R_means_J3 (nI e) h = some (.inl (nI (e + 1), h')) ∧ FMs h h' ∧ e + 3 ≤ q ∧ ssK K (e + 3) = 0 ∧ (∀ j, e < j → j < e + 3 → K j ≠ 20 ∧ K j ≠ 21) ∧ SMr (npK K (e + 3)) (sfK K P V W (e + 3)) h' := by
  obtain ⟨k2, e2, s1, s2⟩ := gr_shape hg hq he es k21
  obtain ⟨k4, e3, s3, f3⟩ := end_shape (P := P) (V := V) (W := W) hg hq (i := e + 2) e2 s2
  have f3 : sfK K P V W (e + 3) = sfK K P V W (e + 2) := f3
  have e3 : e + 3 ≤ q := e3
  have kj : ∀ j, e < j → j < e + 3 → K j ≠ 20 ∧ K j ≠ 21 := by
    intro j j1 j2
    rcases (show j = e + 1 ∨ j = e + 2 by omega) with c | c
    · rw [c, k2]; omega
    · rw [c, k4]; omega
  have np : npK K (e + 3) = npK K e := np_keep (by omega) (fun m m1 m2 => by
    by_cases c : m = e
    · rw [c, k21]; omega
    · exact (kj m (by omega) m2).1)
  obtain ⟨⟨t1, -⟩, t2, -⟩ := T e (by omega)
  obtain ⟨⟨-, u1⟩, -, u2, u3, -⟩ := T (e + 1) (by omega)
  obtain ⟨u3, u4⟩ := u3 k2
  rw [k21] at t2
  have p1 : P e < P (e + 1) := hP e he
  have pp := (sf_place (K := K) (V := V) (W := W) hP e (by omega)).2
  have pl2 := sf_pl (K := K) (V := V) (W := W) (fun j hj => (T j hj).1.2) e (by omega)
  obtain ⟨r1, r2, r3⟩ := R
  have F1 : FMs h (sI h 88 1 (nI (V (e + 1)))) := FMs.rfl'.set
  have R1 : WR (sfK K P V W e).1 (sfK K P V W e).2.1 (sI h 88 1 (nI (V (e + 1)))) := r1.fr (fun j _ => by rw [hI_n (by omega)])
  have bad : (sfK K P V W e).1 ≠ 0 → sfK K P V W (e + 2) = sfK K P V W e := by
    intro z
    have E1 := sf_bad z
    have : sfK K P V W (e + 1 + 1) = _ := sf_bad (by rw [E1]; exact z)
    exact this.trans E1
  have good : ∀ pl c w x m, sfK K P V W e = (0, pl, c, w, x, m) → sfK K P V W (e + 2) = if 1 ≤ V (e + 1) ∧ V (e + 1) ≤ 20 then (0, pl, (c.1, V (e + 1), c.2.2), w, x, false) else (5, P (e + 1), c, w, x, false) := by
    intro pl c w x m E
    have E1 := sf_s E
    rw [k21, sstP_o (by decide)] at E1
    have mf : m = false := by
      have := sfI_all (P := P) (V := V) (W := W) (e + 1) (fun j hj => hg j (by omega))
      rw [E1] at this
      have := (this rfl).2.2.2
      cases m with
      | false => rfl
      | true => have := this.mp rfl; omega
    subst mf
    have E2 : sfK K P V W (e + 2) = _ := sf_s E1
    rw [k2, sstP_2, s1, numS_g, if_neg (show ¬ (false = true) from Bool.false_ne_true)] at E2
    rw [E2]
    by_cases y : 1 ≤ V (e + 1) ∧ V (e + 1) ≤ 20
    · rw [if_pos y, if_pos (by omega), Int.toNat_natCast]
    · rw [if_neg y, if_neg (by omega)]
  unfold f_R_means_J3
  rw [if_neg (gd (by omega) (by omega)), cla (by omega), t2, if_pos (show nI 21 = (21 : Int32) from rfl), nI_1, if_neg (gd (by omega) (by omega)), cla (by omega), hI_n (h := h) (by omega), u3, in20 u4]
  by_cases y : 1 ≤ V (e + 1) ∧ V (e + 1) ≤ 20
  · rw [if_pos y, if_neg (by decide)]
    refine ⟨_, rfl, F1, e3, s3, kj, ?_⟩
    rw [np, f3]
    by_cases z : (sfK K P V W e).1 = 0
    · obtain ⟨pl, c, w, x, m, E⟩ := sf_0 z
      have g := good _ _ _ _ _ E
      rw [if_pos y] at g
      rw [E] at r3 R1
      obtain ⟨d1, d2⟩ := r3 rfl
      rw [g]
      refine ⟨WR.z R1, by rw [hI_n (by omega)]; exact r2, fun _ => ⟨⟨hI_s, fun i hi => ?_⟩, fun i hi => d2 i hi⟩⟩
      rw [hI_n (by omega), hI_n (by omega), hI_n (by omega)]
      exact d1.2 i hi
    · rw [bad z]
      exact ⟨R1, by rw [hI_n (by omega)]; exact r2, fun y => absurd y z⟩
  · rw [if_neg y, if_pos rfl]
    obtain ⟨h', w1, w2, w3⟩ := wrong_ok (x := 5) (j := e + 1) (p := P (e + 1)) R1 pl2 (by omega) (by rw [hI_n (by omega)]; exact u2) u1 (Or.inr rfl) (fun z => Or.inl (by have := pp z; omega))
    have w1 : f_R_wrong 5 (nI (e + 1)) (sI h 88 1 (nI (V (e + 1)))) = some h' := w1
    rw [w1, Option.bind_some]
    have h0 : hI h' 88 0 = nI (npK K e) := by rw [w2.1 88 0 (by unfold FWp; omega), hI_n (by omega)]; exact r2
    refine ⟨_, rfl, F1.trans w2.fms, e3, s3, kj, ?_⟩
    rw [np, f3]
    by_cases z : (sfK K P V W e).1 = 0
    · obtain ⟨pl, c, w, x, m, E⟩ := sf_0 z
      have g := good _ _ _ _ _ E
      rw [if_neg y] at g
      rw [E] at w3
      rw [g]
      exact ⟨w3, h0, fun y => absurd y (show ¬ (5 : Nat) = 0 by decide)⟩
    · rw [if_pos z, if_pos z] at w3
      rw [bad z]
      exact ⟨w3, h0, fun y => absurd y z⟩
/-- the whole text -/
theorem means_ok (hg : ∀ j, j < q → gdK K j) (hq : ssK K q = 0) (hP : ∀ j, j < q → P j < P (j + 1)) (hq4 : q ≤ 400) (T : TLa K P V W q h) (k0 : K q = 0) (hc : hI h 79 10 = nI (q + 1)) (w2 : hI h 79 12 = 0) (w4 : hI h 79 14 = 0) : ∃ h', f_R_means h = some h' ∧ FMs h h' ∧ SMr (npK K q) (sfK K P V W q) h' := by
  unfold f_R_means
  refine lp_inv (f := fun s => f_R_means_L1 s.1 s.2) (fun k s => s.1 = nI k ∧ FMs h s.2 ∧ hI s.2 79 14 = 0 ∧ ∀ i, i < k → hI s.2 88 i = 0) _ 26 ?_ ?_ ⟨rfl, FMs.rfl', w4, fun i hi => absurd hi (by omega)⟩ (by unfold lpN; omega)
  · rintro k ⟨y, h'⟩ hk ⟨d1, d2, d4, d3⟩
    have d1 : y = nI k := d1
    subst d1
    have d2 : FMs h h' := d2
    have d4 : hI h' 79 14 = 0 := d4
    have d3 : ∀ i, i < k → hI h' 88 i = 0 := d3
    show ∃ s', f_R_means_L1 (nI k) h' = some (.inl s') ∧ _
    unfold f_R_means_L1
    rw [if_neg (show ¬ (26 : Int32) ≤ nI k from lt_no (n := 26) hk (by omega)), if_neg (gd (by omega) (by omega)), cla (by omega), nI_1]
    refine ⟨_, rfl, rfl, d2.set, ?_, fun i hi => ?_⟩
    · show hI (sI h' 88 k 0) 79 14 = 0
      rw [hI_n (by omega)]; exact d4
    · show hI (sI h' 88 k 0) 88 i = 0
      by_cases c : i = k
      · rw [c]; exact hI_s
      · rw [hI_n (by omega)]; exact d3 i (by omega)
  · rintro ⟨y, h1⟩ ⟨d1, d2, d4, d3⟩
    have d1 : y = nI 26 := d1
    subst d1
    have d2 : FMs h h1 := d2
    have d4 : hI h1 79 14 = 0 := d4
    have d3 : ∀ i, i < 26 → hI h1 88 i = 0 := d3
    show ∃ s', f_R_means_L1 (nI 26) h1 = some (.inr s') ∧ _
    unfold f_R_means_L1
    rw [if_pos (show (26 : Int32) ≤ nI 26 by decide)]
    have F1 : FMs h (sI h1 88 1 10) := d2.set
    have L : ∃ r, lp (fun s => f_R_means_L2 s.1 s.2) lpN (0, sI h1 88 1 10) = some r ∧ (FMs h r ∧ SMr (npK K q) (sfK K P V W q) r) := by
      refine lp_inv (f := fun s => f_R_means_L2 s.1 s.2) (fun k s => s.1 = nI k ∧ FMs h s.2 ∧ ∃ e, e ≤ q ∧ ssK K e = 0 ∧ (∀ j, k ≤ j → j < e → K j ≠ 20 ∧ K j ≠ 21) ∧ SMr (npK K e) (sfK K P V W e) s.2 ∧ (k ≤ e ∨ e = q)) _ (q + 1) ?_ ?_ ⟨rfl, F1, 0, Nat.zero_le _, rfl, fun j _ hj => absurd hj (by omega), ?_, Or.inl (Nat.zero_le _)⟩ (by unfold lpN; omega)
      · rintro k ⟨y, h'⟩ hk ⟨d1, d2, e, e1, e2, e3, e4, e5⟩
        have d1 : y = nI k := d1
        subst d1
        have d2 : FMs h h' := d2
        have e4 : SMr (npK K e) (sfK K P V W e) h' := e4
        have T1 := d2.tla T
        obtain ⟨⟨t1, -⟩, t2, -⟩ := T1 k (by omega)
        have c10 : hI h' 79 10 = nI (q + 1) := by rw [d2.1 79 10 (by omega) (by omega) (by omega)]; exact hc
        have keep : K k ≠ 20 → K k ≠ 21 → f_R_means_L2 (nI k) h' = some (.inl (nI (k + 1), h')) := by
          intro a b
          unfold f_R_means_L2
          rw [c10, if_neg (lt_no hk (by omega)), if_neg (gd (by omega) (by omega)), cla (by omega), t2, show (20 : Int32) = nI 20 from rfl, if_neg (fun z => a ((nI_eqI (by omega) (by omega)).mp z))]
          unfold f_R_means_J3
          rw [if_neg (gd (by omega) (by omega)), cla (by omega), t2, show (21 : Int32) = nI 21 from rfl, if_neg (fun z => b ((nI_eqI (by omega) (by omega)).mp z)), nI_1]
        show ∃ s', f_R_means_L2 (nI k) h' = some (.inl s') ∧ _
        by_cases ck : k = e ∧ e < q
        · obtain ⟨ck, ce⟩ := ck
          subst ck
          rcases st_shape hg ce e2 with k20 | k21
          · obtain ⟨h2, e', m1, m2, m3, m4, m5, m6, m7, m8⟩ := mpt_ok hg hq hP hq4 T1 ce e2 k20 e4
            have F2 : FMs h h2 := d2.trans m2.fms
            have t3 : hI h2 82 k = nI 20 := by
              have := ((F2.tla T) k (by omega)).2.1
              rw [this, k20]
            unfold f_R_means_L2
            rw [c10, if_neg (lt_no hk (by omega)), if_neg (gd (by omega) (by omega)), cla (by omega), t2, k20, if_pos (show nI 20 = (20 : Int32) from rfl), nI_1, m1, Option.bind_some]
            unfold f_R_means_J3
            rw [if_neg (gd (by omega) (by omega)), cla (by omega), t3, if_neg (by decide), nI_1]
            exact ⟨_, rfl, rfl, F2, e', m4, m6, fun j j1 j2 => m7 j (by omega) j2, m8, Or.inl (by omega)⟩
          · obtain ⟨h2, m1, m2, m4, m6, m7, m8⟩ := gline_ok hg hq hP hq4 T1 ce e2 k21 e4
            unfold f_R_means_L2
            rw [c10, if_neg (lt_no hk (by omega)), if_neg (gd (by omega) (by omega)), cla (by omega), t2, k21, if_neg (by decide), m1]
            exact ⟨_, rfl, rfl, d2.trans m2, k + 3, m4, m6, fun j j1 j2 => m7 j (by omega) j2, m8, Or.inl (by omega)⟩
        · have kk : K k ≠ 20 ∧ K k ≠ 21 := by
            by_cases c : k < e
            · exact e3 k (Nat.le_refl _) c
            · have : k = q := by omega
              rw [this, k0]
              omega
          rw [keep kk.1 kk.2]
          exact ⟨_, rfl, rfl, d2, e, e1, e2, fun j j1 j2 => e3 j (by omega) j2, e4, by omega⟩
      · rintro ⟨y, h'⟩ ⟨d1, d2, e, e1, e2, e3, e4, e5⟩
        have d1 : y = nI (q + 1) := d1
        subst d1
        have d2 : FMs h h' := d2
        have e4 : SMr (npK K e) (sfK K P V W e) h' := e4
        have c10 : hI h' 79 10 = nI (q + 1) := by rw [d2.1 79 10 (by omega) (by omega) (by omega)]; exact hc
        have : e = q := by omega
        subst this
        show ∃ s', f_R_means_L2 (nI (e + 1)) h' = some (.inr s') ∧ _
        unfold f_R_means_L2
        rw [c10, if_pos (ge_yes (Nat.le_refl _) (by omega))]
        exact ⟨_, rfl, d2, e4⟩
      · refine ⟨⟨Nat.zero_le _, ?_, ?_, fun z => absurd rfl z⟩, ?_, fun _ => ⟨⟨hI_s, fun i hi => absurd hi (Nat.not_lt_zero _)⟩, fun i hi => absurd hi (Nat.not_lt_zero _)⟩⟩
        · show hI (sI h1 88 1 10) 79 12 = 0
          rw [F1.1 79 12 (by omega) (by omega) (by omega)]; exact w2
        · show hI (sI h1 88 1 10) 79 14 = nI 0
          rw [hI_n (by omega)]; exact d4
        · show hI (sI h1 88 1 10) 88 0 = nI 0
          rw [hI_n (by omega)]; exact d3 0 (by omega)
    obtain ⟨r, l1, l2⟩ := L
    rw [l1]
    exact ⟨r, rfl, l2⟩
end WM
