/-! the class reads a text, to its end or its first hard fault -/
def FrC (h h' : pH) : Prop := (∀ o k, o ≠ 1 → o ≠ 3 → o ≠ 4 → o ≠ 5 → o ≠ 6 → hI h' o k = hI h o k) ∧ hI h' 1 1 = hI h 1 1 ∧ ∀ o k, o ≠ 1 → o ≠ 7 → hL h' o k = hL h o k
theorem FrC.rfl' {h : pH} : FrC h h := ⟨fun _ _ _ _ _ _ _ => rfl, rfl, fun _ _ _ _ => rfl⟩
theorem FrC.trans {a b c : pH} (A : FrC a b) (B : FrC b c) : FrC a c := ⟨fun o k x y z w v => (B.1 o k x y z w v).trans (A.1 o k x y z w v), B.2.1.trans A.2.1, fun o k x y => (B.2.2 o k x y).trans (A.2.2 o k x y)⟩
theorem FrC.set {h h' : pH} (A : FrC h h') {o k : Nat} {v : Int32} (ho : o = 3 ∨ o = 4 ∨ (o = 1 ∧ k ≠ 1)) : FrC h (sI h' o k v) := ⟨fun a b x y z w u => by rw [hI_n (by omega)]; exact A.1 a b x y z w u, by rw [hI_n (by omega)]; exact A.2.1, fun a b x y => A.2.2 a b x y⟩
theorem T1.frc {h h' : pH} (A : T1 h h') : FrC h h' := ⟨fun o k x _ _ _ _ => A.1 o k x, A.2.1, fun o k x _ => A.2.2 o k x⟩
theorem Ft.frc {h h' : pH} (A : Ft h h') : FrC h h' := ⟨fun o k _ x y z w => A.1 o k x y z w, A.1 1 1 (by decide) (by decide) (by decide) (by decide), fun o k _ y => A.2.2 o k y⟩
theorem VCt.frc {h h' : pH} {len : Nat} {B : Nat → Nat} (V : VCt h len B) (A : FrC h h') : VCt h' len B := ⟨by rw [A.2.1]; exact V.1, fun i hi => by rw [A.1 2 i (by decide) (by decide) (by decide) (by decide) (by decide)]; exact V.2 i hi⟩
section PO
variable {h : pH}
theorem hard_ok {K : Nat → Nat} {k : Nat} (hK : K k < 22) (h0 : K k ≠ 0) (hk : k ≤ 400) (hs : ssK K k < 8) (hn : npK K k ≤ 12) (e3 : hI h 1 3 = nI (ck (K k))) (e5 : hI h 3 5 = nI (ssK K k)) (e6 : hI h 3 6 = nI k) (e7 : hI h 3 7 = nI (npK K k)) : ∃ h', f_TextReader_hardFault h = (nI (hfK K k), h') ∧ (∀ a b, ¬ (a = 3 ∧ (b = 6 ∨ b = 7)) → hI h' a b = hI h a b) ∧ h'.2 = h.2 ∧ (hfK K k = 0 → hI h' 3 6 = nI (k + 1) ∧ hI h' 3 7 = nI (npK K (k + 1))) := by
  unfold f_TextReader_hardFault hfK
  rw [e5, e3, fol_ok _ hs _ hK, if_neg h0]
  by_cases c : fol (ssK K k) (K k) = 9
  · rw [if_pos c, if_pos rfl, if_pos c]
    exact ⟨h, rfl, fun _ _ _ => rfl, rfl, fun q => absurd q (by decide)⟩
  · have fl := (fol_lt _ _ c).1
    have nm1 : ¬ nI (fol (ssK K k) (K k)) = -1 := by
      generalize fol (ssK K k) (K k) = f at fl
      have : ∀ f, f < 8 → ¬ nI f = -1 := by decide +kernel
      exact this f fl
    rw [if_neg c, if_neg nm1, if_neg c, hI_n (h := h) (by omega), hI_n (h := h) (by omega), e3, e6, nI_1, e7, nI_1]
    have c1 : (nI (ck (K k)) = 1) ↔ K k = 20 := by
      generalize K k = z at hK
      have : ∀ z, z < 22 → ((nI (ck z) = 1) ↔ z = 20) := by decide +kernel
      exact this z hK
    have J : ∀ h' : pH, ∀ n' : Nat, n' ≤ 13 → hI h' 3 6 = nI (k + 1) → hI h' 3 7 = nI n' → f_TextReader_hardFault_J1 h' = (nI (if k = 400 ∨ n' = 13 then 2 else 0), h') := by
      intro h' n' a b d
      unfold f_TextReader_hardFault_J1
      rw [b, d, show (400 : Int32) = nI 400 from rfl, show (12 : Int32) = nI 12 from rfl]
      simp only [nI_ltI (a := 400) (b := k + 1) (by omega) (by omega)]
      by_cases q : k = 400
      · rw [if_pos (by omega), if_pos (Or.inl q)]; rfl
      · rw [if_neg (by omega)]
        by_cases q2 : n' = 13
        · rw [if_neg (lt_no (by omega) (by omega)), if_pos (Or.inr q2)]; rfl
        · rw [if_pos (ge_yes (by omega) (by omega)), if_neg (by omega)]; rfl
    by_cases k20 : K k = 20
    · rw [if_pos (c1.mpr k20), J _ (npK K k + 1) (by omega) (by rw [hI_n (by omega), hI_s]) hI_s]
      have ee : (k = 400 ∨ npK K k + 1 = 13) ↔ (k = 400 ∨ (K k = 20 ∧ npK K k = 12)) := by omega
      simp only [ee]
      refine ⟨_, rfl, fun a b q => ?_, rfl, fun _ => ⟨?_, ?_⟩⟩
      · rw [hI_n (by omega), hI_n (by omega)]
      · rw [hI_n (by omega), hI_s]
      · rw [hI_s]
        show _ = nI (npK K k + if K k = 20 then 1 else 0)
        rw [if_pos k20]
    · rw [if_neg (fun q => k20 (c1.mp q)), J _ (npK K k) (by omega) hI_s (by rw [hI_n (by omega)]; exact e7)]
      have ee : (k = 400 ∨ npK K k = 13) ↔ (k = 400 ∨ (K k = 20 ∧ npK K k = 12)) := by omega
      simp only [ee]
      refine ⟨_, rfl, fun a b q => ?_, rfl, fun _ => ⟨hI_s, ?_⟩⟩
      · rw [hI_n (by omega)]
      · rw [hI_n (by omega), e7]
        show _ = nI (npK K k + if K k = 20 then 1 else 0)
        rw [if_neg k20]
        rfl
variable {len : Nat} {B : Nat → Nat}
theorem SfM.fr {st : Nat} {S : SFt} {h h' : pH} (A : ∀ o k, (o = 3 ∧ (k = 1 ∨ k = 4 ∨ k = 8 ∨ k = 9)) ∨ o = 4 ∨ o = 5 ∨ o = 6 → hI h' o k = hI h o k) (A2 : ∀ k, hL h' 7 k = hL h 7 k) (M : SfM st S h) : SfM st S h' := by
  obtain ⟨a, b, c, d⟩ := M
  refine ⟨a, by rw [A 3 4 (by omega)]; exact b, by rw [A 3 1 (by omega)]; exact c, fun q => ?_⟩
  obtain ⟨d1, d2, d3, d4, d5⟩ := d q
  exact ⟨CC4 (fun o k r => A o k (by omega)) d1, fun i hi => by rw [A2]; exact d2 i hi, fun r => by rw [A2]; exact d3 r, fun r => by rw [A 3 8 (by omega)]; exact d4 r, by rw [A 3 9 (by omega)]; exact d5⟩
theorem parse_ok (V : VCt h len B) (hl : len ≤ 2000) (hB : ∀ i, i < len → B i < 256) {q : Nat} (hq : q ≤ 400) (hg : ∀ j, j < q → gdK (tkK B len) j) (hs : ¬ gdK (tkK B len) q) : ∃ r, f_TextReader_parse h = some r ∧ FrC h r.2 ∧ (hfK (tkK B len) q ≠ 0 → r.1 = nI (hfK (tkK B len) q) ∧ hI r.2 3 1 = nI (tsk B len q)) ∧ (hfK (tkK B len) q = 0 → r.1 = nI (sfB B len q).1 ∧ hI r.2 3 1 = (if (sfB B len q).1 = 0 then -1 else nI (sfB B len q).2.1) ∧ ((sfB B len q).1 = 0 → CCc r.2 4 (sfB B len q).2.2.1)) := by
  unfold f_TextReader_parse
  refine lp_inv (f := fun s => f_TextReader_parse_L1 s.1 s.2) (fun k s => s.1 = nI k ∧ FrC h s.2 ∧ hI s.2 1 6 = nI (tps B len k) ∧ hI s.2 3 5 = nI (ssK (tkK B len) k) ∧ hI s.2 3 6 = nI k ∧ hI s.2 3 7 = nI (npK (tkK B len) k) ∧ SfM (ssK (tkK B len) k) (sfB B len k) s.2) _ q ?_ ?_ ?_ (by unfold lpN; omega)
  · rintro k ⟨x, h'⟩ hk ⟨rfl, d1, d2, d3, d4, d5, d6⟩
    have d1 : FrC h h' := d1
    have d2 : hI h' 1 6 = nI (tps B len k) := d2
    have d3 : hI h' 3 5 = nI (ssK (tkK B len) k) := d3
    have d4 : hI h' 3 6 = nI k := d4
    have d5 : hI h' 3 7 = nI (npK (tkK B len) k) := d5
    have d6 : SfM (ssK (tkK B len) k) (sfB B len k) h' := d6
    have gk := hg k hk
    have hp := npK_le k (fun j hj => hg j (by omega))
    have lt : tsk B len k < len := tkK_0.mp gk.1
    have ek : tkK B len k = kd B len (tsk B len k) := by unfold tkK; rw [if_pos lt]
    obtain ⟨⟨y, h1⟩, a1, a2, a3⟩ := advance_ok (V.frc d1) hl hB (tps_le k) d2
    have a2 : T1 h' h1 := a2
    rcases a3 with ⟨-, b1, t1, t2, t3, t4, t5⟩ | ⟨b0, -⟩
    · have b1 : y = 1 := b1
      subst b1
      have t1 : hI h1 1 2 = nI (tsk B len k) := t1
      have t2 : hI h1 1 6 = nI (tnx B len (tsk B len k)) := t2
      have t3 : hI h1 1 3 = nI (ck (tkK B len k)) := by rw [ek]; exact t3
      have s3 : ∀ j, hI h1 3 j = hI h' 3 j := fun j => a2.1 3 j (by decide)
      obtain ⟨h2, c1, c2, c3, c4⟩ := hard_ok (h := h1) (tkK_lt B len k) gk.1 hp.2.2 hp.2.1 hp.1 t3 (by rw [s3]; exact d3) (by rw [s3]; exact d4) (by rw [s3]; exact d5)
      rw [gk.2] at c1
      obtain ⟨c5, c6⟩ := c4 gk.2
      have l2 : ∀ a b, hL h2 a b = hL h1 a b := fun a b => by unfold hL; rw [c3]
      obtain ⟨h3, e1, e2, e3⟩ := take_ok (h := h2) (st := ssK (tkK B len) k) (np := npK (tkK B len) k) (κ := tkK B len k) (p := tsk B len k) (v := tkV B len k) (w := tkW B len k) (S := sfB B len k) (gdK_fol gk).1 (by rw [c2 1 3 (by omega)]; exact t3) (by rw [c2 1 2 (by omega)]; exact t1) (fun z => ⟨by rw [c2 1 4 (by omega)]; exact t4 (ek.symm.trans z), tkV_le z⟩) (fun z => by rw [l2]; exact t5 (ek.symm.trans z)) (by rw [c2 3 5 (by omega), s3]; exact d3) (d6.fr (fun o j z => by rw [c2 o j (by omega), a2.1 o j (by omega)]) (fun j => by rw [l2, a2.2.2 7 j (by decide)])) (sfI_all k (fun j hj => hg j (by omega))) hp.1
      show ∃ s', f_TextReader_parse_L1 (nI k) h' = some (.inl s') ∧ _
      unfold f_TextReader_parse_L1
      rw [if_neg (show ¬ (2000 : Int32) < nI k from fun z => absurd ((nI_ltI (a := 2000) (b := k) (by omega) (by omega)).mp z) (by omega)), a1]
      simp only [Option.bind_some]
      rw [if_neg (by decide), c1, if_pos (by rfl), e1]
      simp only [Option.bind_some]
      have f5 : hI h3 3 5 = nI (ssK (tkK B len) k) := by rw [e2.2.1 5 (by decide) (by decide) (by decide) (by decide), c2 3 5 (by omega), s3]; exact d3
      have f3 : hI h3 1 3 = nI (ck (tkK B len k)) := by rw [e2.1 1 3 (by decide) (by decide) (by decide) (by decide), c2 1 3 (by omega)]; exact t3
      rw [f5, f3, fol_ok _ hp.2.1 _ (tkK_lt B len k), if_neg (gdK_fol gk).1, nI_1]
      have F1 : FrC h1 h2 := ⟨fun o j _ z _ _ _ => c2 o j (by omega), c2 1 1 (by omega), fun o j _ _ => l2 o j⟩
      refine ⟨_, rfl, rfl, (((d1.trans a2.frc).trans F1).trans e2.frc).set (by omega), ?_, hI_s, ?_, ?_, ?_⟩
      · show hI (sI h3 3 5 _) 1 6 = _
        rw [hI_n (by omega), e2.1 1 6 (by decide) (by decide) (by decide) (by decide), c2 1 6 (by omega), t2, tps_s lt]
      · show hI (sI h3 3 5 _) 3 6 = _
        rw [hI_n (by omega), e2.2.1 6 (by decide) (by decide) (by decide) (by decide)]; exact c5
      · show hI (sI h3 3 5 _) 3 7 = _
        rw [hI_n (by omega), e2.2.1 7 (by decide) (by decide) (by decide) (by decide)]; exact c6
      · exact e3.fr (fun o j z => by show hI (sI h3 3 5 _) o j = _; rw [hI_n (by omega)]) (fun j => rfl)
    · exact absurd lt b0
  · rintro ⟨x, h'⟩ ⟨rfl, d1, d2, d3, d4, d5, d6⟩
    have d1 : FrC h h' := d1
    have d2 : hI h' 1 6 = nI (tps B len q) := d2
    have d3 : hI h' 3 5 = nI (ssK (tkK B len) q) := d3
    have d4 : hI h' 3 6 = nI q := d4
    have d5 : hI h' 3 7 = nI (npK (tkK B len) q) := d5
    have d6 : SfM (ssK (tkK B len) q) (sfB B len q) h' := d6
    have hp := npK_le q (fun j hj => hg j (by omega))
    obtain ⟨⟨y, h1⟩, a1, a2, a3⟩ := advance_ok (V.frc d1) hl hB (tps_le q) d2
    have a2 : T1 h' h1 := a2
    have s3 : ∀ j, hI h1 3 j = hI h' 3 j := fun j => a2.1 3 j (by decide)
    show ∃ s', f_TextReader_parse_L1 (nI q) h' = some (.inr s') ∧ _
    unfold f_TextReader_parse_L1
    rw [if_neg (show ¬ (2000 : Int32) < nI q from fun z => absurd ((nI_ltI (a := 2000) (b := q) (by omega) (by omega)).mp z) (by omega)), a1]
    simp only [Option.bind_some]
    rcases a3 with ⟨lt, b1, t1, t2, t3, t4, t5⟩ | ⟨b0, b1⟩
    · have b1 : y = 1 := b1
      subst b1
      have lt : tsk B len q < len := lt
      have k0 := tkK_0.mpr lt
      have hne : hfK (tkK B len) q ≠ 0 := fun z => hs ⟨k0, z⟩
      have ek : tkK B len q = kd B len (tsk B len q) := by unfold tkK; rw [if_pos lt]
      have t1 : hI h1 1 2 = nI (tsk B len q) := t1
      have t3 : hI h1 1 3 = nI (ck (tkK B len q)) := by rw [ek]; exact t3
      obtain ⟨h2, c1, c2, c3, c4⟩ := hard_ok (h := h1) (tkK_lt B len q) k0 hp.2.2 hp.2.1 hp.1 t3 (by rw [s3]; exact d3) (by rw [s3]; exact d4) (by rw [s3]; exact d5)
      have hle : hfK (tkK B len) q ≤ 2 := by
        unfold hfK
        repeat' split
        all_goals omega
      have l2 : ∀ a b, hL h2 a b = hL h1 a b := fun a b => by unfold hL; rw [c3]
      have F1 : FrC h1 h2 := ⟨fun o j _ z _ _ _ => c2 o j (by omega), c2 1 1 (by omega), fun o j _ _ => l2 o j⟩
      rw [if_neg (by decide), c1, if_neg (show ¬ nI (hfK (tkK B len) q) = 0 from fun z => hne ((nI_eqI (b := 0) (by omega) (by omega)).mp z))]
      unfold f_TextReader_endWith
      refine ⟨_, rfl, (((d1.trans a2.frc).trans F1).set (by omega)).set (by omega), fun _ => ⟨rfl, ?_⟩, fun z => absurd z hne⟩
      show hI (sI _ 3 1 _) 3 1 = _
      rw [hI_s, c2 1 2 (by omega)]; exact t1
    · have b1 : y = 0 := b1
      subst b1
      have nlt : ¬ tsk B len q < len := b0
      have k0 : tkK B len q = 0 := by
        unfold tkK; rw [if_neg nlt]
      rw [if_pos rfl]
      unfold f_TextReader_parse_J2
      rw [s3, d3, show (0 : Int32) = nI 0 from rfl]
      simp only [nI_eqI (show ssK (tkK B len) q ≤ 100000 by omega) (show 0 ≤ 100000 by omega)]
      unfold hfK
      rw [if_pos k0]
      by_cases z : ssK (tkK B len) q = 0
      · rw [if_pos z, if_pos z]
        obtain ⟨g1, g2, g3, g4⟩ := d6
        refine ⟨_, rfl, d1.trans a2.frc, fun w => absurd rfl w, fun _ => ⟨?_, ?_, fun w => CC4 (fun o j r => a2.1 o j (by omega)) (g4 w).1⟩⟩
        · show hI h1 3 4 = _
          rw [s3]; exact g2
        · show hI h1 3 1 = _
          rw [s3]; exact g3
      · rw [if_neg z, if_neg z]
        unfold f_TextReader_endWith
        refine ⟨_, rfl, ((d1.trans a2.frc).set (by omega)).set (by omega), fun _ => ⟨rfl, ?_⟩, fun w => absurd w (by decide)⟩
        show hI (sI _ 3 1 _) 3 1 = _
        rw [hI_s, (V.frc (d1.trans a2.frc)).1]
        have := (tsk_le (B := B) (len := len) q).2
        congr 1
        omega
  · unfold f_TextReader_reset f_Tape_rewind
    obtain ⟨⟨q1, -⟩, q3⟩ := clear_ok (h := sI h 1 6 0) (o := 4) (a := 4) (b := 4)
    generalize f_Cloud_clear 4 (sI h 1 6 0) = g at q1 q3
    have q3 : (∀ o k, o ≠ 4 → hI g o k = hI (sI h 1 6 0) o k) ∧ g.2 = h.2 := ⟨fun o k x => q3.1 o k x x x, q3.2⟩
    have lv : ∀ a b, hL g a b = hL h a b := fun a b => by unfold hL; rw [q3.2]
    have F : FrC h g := ⟨fun o k x _ y _ _ => by rw [q3.1 o k y, hI_n (by omega)], by rw [q3.1 1 1 (by decide), hI_n (by omega)], fun o k _ _ => lv o k⟩
    refine ⟨rfl, (((((F.set (by omega)).set (by omega)).set (by omega)).set (by omega)).set (by omega)).set (by omega), ?_, ?_, ?_, ?_, SfM.good ?_ ?_ (CC4 (fun o k z => ?_) q1) (fun i hi => absurd hi (Nat.not_lt_zero _)) (fun z => absurd z (show ¬ (2 ≤ 0 ∧ 0 ≤ 5) by decide)) (fun z => absurd z (show ¬ (0 = 4 ∨ 0 = 5) by decide)) hI_s⟩
    · show hI (sI _ _ _ _) _ _ = _
      rw [hI_n (by omega), hI_n (by omega), hI_n (by omega), hI_n (by omega), hI_n (by omega), hI_n (by omega), q3.1 1 6 (by decide), hI_s]; rfl
    · show hI (sI _ _ _ _) _ _ = _
      rw [hI_n (by omega), hI_n (by omega), hI_n (by omega), hI_s]; rfl
    · show hI (sI _ _ _ _) _ _ = _
      rw [hI_n (by omega), hI_n (by omega), hI_s]; rfl
    · show hI (sI _ _ _ _) _ _ = _
      rw [hI_n (by omega), hI_s]; rfl
    · show hI (sI _ _ _ _) _ _ = _
      rw [hI_n (by omega), hI_n (by omega), hI_n (by omega), hI_n (by omega), hI_n (by omega), hI_s]
    · show hI (sI _ _ _ _) _ _ = _
      rw [hI_n (by omega), hI_n (by omega), hI_n (by omega), hI_n (by omega), hI_s]
    · show hI (sI _ _ _ _) _ _ = _
      rw [hI_n (by omega), hI_n (by omega), hI_n (by omega), hI_n (by omega), hI_n (by omega), hI_n (by omega)]
end PO
