/-! the reference reads a text -/
def FRk (g : Nat) (h h' : pH) : Prop := (∀ o k, (o < 79 ∨ o = 80 ∨ o = 91 ∨ o = 92 ∨ (o = 79 ∧ (k = 2 ∨ k = 23)) ∨ (g ≠ 0 ∧ (o = 87 ∨ o = 93 ∨ (o = 79 ∧ k = 24)))) → hI h' o k = hI h o k) ∧ ∀ k, hL h' 86 k = hL h 86 k
theorem FRk.set {g : Nat} {h h' : pH} (A : FRk g h h') {v : Int32} : FRk g h (sI h' 79 16 v) := ⟨fun o k x => by rw [hI_n (by omega)]; exact A.1 o k x, fun k => A.2 k⟩
theorem FMs.frk {g : Nat} {h h' : pH} (F : FMs h h') : FRk g h h' := ⟨fun o k x => F.1 o k (by omega) (by omega) (by omega), fun k => F.2 86 k (by omega)⟩
def RdS (B : Nat → Nat) (len q : Nat) (h : pH) (r : Int32 × pH) : Prop := (hfK (tkK B len) q ≠ 0 → r.1 = nI (hfK (tkK B len) q) ∧ hI r.2 79 16 = nI (tsk B len q) ∧ FRk (hfK (tkK B len) q) h r.2) ∧ (hfK (tkK B len) q = 0 → r.1 = nI (sfB B len q).1 ∧ hI r.2 79 16 = (if (sfB B len q).1 = 0 then -1 else nI (sfB B len q).2.1) ∧ FRk (sfB B len q).1 h r.2 ∧ ((sfB B len q).1 = 0 → GCc (sfB B len q).2.2.1 ∧ RRc r.2 (sfB B len q).2.2.1 ∧ hI r.2 79 24 = 0 ∧ ∀ i, i < 3 → hI r.2 93 i = 0))
def clS (w : Nat) (h : pH) : Nat → pH
  | 0 => h
  | k + 1 => sI (clS w h k) w k 0
theorem clS_o {w : Nat} {h : pH} {o j : Nat} (hn : o ≠ w) : ∀ k, hI (clS w h k) o j = hI h o j
  | 0 => rfl
  | k + 1 => by show hI (sI (clS w h k) w k 0) o j = _; rw [hI_n (by omega)]; exact clS_o hn k
theorem clS_l {w : Nat} {h : pH} : ∀ k, (clS w h k).2 = h.2
  | 0 => rfl
  | k + 1 => by show (sI (clS w h k) w k 0).2 = _; rw [sI_2]; exact clS_l k
theorem clS_i {w : Nat} {h : pH} {i : Nat} (hi : i < 3) : hI (clS w h 3) w i = 0 := by
  show hI (sI (sI (sI h w 0 0) w 1 0) w 2 0) w i = 0
  rcases (show i = 0 ∨ i = 1 ∨ i = 2 by omega) with e | e | e
  · rw [e, hI_n (by omega), hI_n (by omega), hI_s]
  · rw [e, hI_n (by omega), hI_s]
  · rw [e, hI_s]
theorem L7_ok {h : pH} : lp (fun s => f_R_read_L7 s.1 s.2) lpN (0, h) = some (0, clS 93 h 3) := by
  refine lp_run (f := fun s => f_R_read_L7 s.1 s.2) (fun k => (nI k, clS 93 h k)) 3 (fun k hk => ?_) ?_ (n := lpN) (by unfold lpN; omega)
  · show f_R_read_L7 (nI k) (clS 93 h k) = some (.inl (nI (k + 1), sI (clS 93 h k) 93 k 0))
    unfold f_R_read_L7
    rw [if_neg (show ¬ (3 : Int32) ≤ nI k from lt_no (n := 3) hk (by omega)), if_neg (gd hk (by omega)), cla (by omega), nI_1, nb0]
  · show f_R_read_L7 (nI 3) (clS 93 h 3) = _
    unfold f_R_read_L7
    rw [if_pos (by decide)]
theorem L6_ok {h : pH} : lp (fun s => f_R_read_L6 s.1 s.2) lpN (0, h) = some (0, clS 93 (sI (cpF h 88 0 87 0 26) 79 24 0) 3) := by
  refine lp_run (f := fun s => f_R_read_L6 s.1 s.2) (fun k => (nI k, cpF h 88 0 87 0 k)) 26 (fun k hk => ?_) ?_ (n := lpN) (by unfold lpN; omega)
  · show f_R_read_L6 (nI k) (cpF h 88 0 87 0 k) = some (.inl (nI (k + 1), cpF h 88 0 87 0 (k + 1)))
    unfold f_R_read_L6
    rw [show (26 : Int32) = nI 26 from rfl, if_neg (lt_no hk (by omega)), if_neg (gd (by omega) (by omega)), cla (by omega), cpF_o (by omega), nI_1]
    show _ = some (Sum.inl (_, sI (cpF h 88 0 87 0 k) 87 (0 + k) (hI h 88 (0 + k))))
    rw [Nat.zero_add]
  · show f_R_read_L6 (nI 26) _ = _
    unfold f_R_read_L6
    rw [if_pos (by decide), L7_ok]
    rfl
section RQ
variable {h : pH} {B : Nat → Nat} {len cnt q : Nat}
theorem fposN {f : Nat} (h1 : 1 ≤ f) (h2 : f ≤ 5) : ¬ nI f ≤ 0 := lt_no (k := 0) h1 (by omega)
theorem j3_bad (R : RF B len h) (hg : ∀ j, j < q → gdK (tkK B len) j) (hs : ¬ gdK (tkK B len) q) : ∃ r, f_R_read_J3 h = some r ∧ RdS B len q h r := by
  have R' := R
  obtain ⟨q', a, b, c, d, e⟩ := R'
  have : q' = q := stop_eq b (fun z => c z.2) hg hs
  subst this
  obtain ⟨f, g1, g2, g3⟩ := R.ne
  unfold f_R_read_J3 f_R_read_J4 f_R_read_J5
  rw [g1, if_neg (fun z => fposN g2 (by omega) (by rw [z]; decide)), if_neg (fposN g2 (by omega)), hI_n (h := h) (by omega), g1, if_neg (fposN g2 (by omega)), e]
  refine ⟨_, rfl, fun _ => ⟨by rw [← g1]; exact d, hI_s, FRk.set ⟨fun _ _ _ => rfl, fun _ => rfl⟩⟩, fun z => absurd z c⟩
theorem TKS.tla (T : TKS B len cnt h) (hl : len ≤ 2000) (hg : ∀ j, j < q → gdK (tkK B len) j) (k0 : tkK B len q = 0) (hq : q ≤ 400) : TLa (tkK B len) (tsk B len) (tkV B len) (tkW B len) q h ∧ cnt = q + 1 := by
  obtain ⟨i1, i2⟩ := k_in T hg
  obtain ⟨⟨t1, t2⟩, t3, t4, t5, t6⟩ := T
  refine ⟨fun j hj => ?_, ?_⟩
  · obtain ⟨a, b, c, d⟩ := t4 j (by omega)
    exact ⟨⟨tkK_lt _ _ _, Nat.le_trans (tsk_le j).2 hl⟩, a, b, fun z => ⟨c z, tkV_le z⟩, d⟩
  · by_cases c : q + 1 < cnt
    · exact absurd k0 (t5 q c)
    · omega
theorem j3_good (T : TKS B len cnt h) (hl : len ≤ 2000) (w2 : hI h 79 12 = 0) (w4 : hI h 79 14 = 0) {q' : Nat} (hq : q' ≤ 400) (hg' : ∀ j, j < q' → gdK (tkK B len) j) (s0 : ssK (tkK B len) q' = 0) (k0 : tkK B len q' = 0) (hg : ∀ j, j < q → gdK (tkK B len) j) (hs : ¬ gdK (tkK B len) q) : ∃ r, f_R_read_J3 h = some r ∧ RdS B len q h r := by
  have : q' = q := stop_eq hg' (fun z => z.1 k0) hg hs
  subst this
  obtain ⟨T1, ec⟩ := T.tla hl hg k0 hq
  subst ec
  have hf : hfK (tkK B len) q' = 0 := by
    unfold hfK
    rw [if_pos k0, if_pos s0]
  have hP : ∀ j, j < q' → tsk B len j < tsk B len (j + 1) := fun j hj => tsk_lt (tkK_0.mp (hg j hj).1)
  obtain ⟨h1, m1, m2, m3⟩ := means_ok hg s0 hP hq T1 k0 T.2.1 w2 w4
  have m3 : SMr (npK (tkK B len) q') (sfB B len q') h1 := m3
  have I : SfI (ssK (tkK B len) q') (npK (tkK B len) q') (sfB B len q') := sfI_all q' hg
  obtain ⟨⟨r0, r1, r2, r3⟩, r4, r5⟩ := m3
  unfold f_R_read_J3 f_R_read_J4 f_R_read_J5
  rw [w2, if_pos rfl, m1, Option.bind_some, r1, if_pos (by decide), r2]
  by_cases z : (sfB B len q').1 = 0
  · obtain ⟨d1, d2⟩ := r5 z
    obtain ⟨G, i2, -⟩ := I z
    rw [s0, if_neg (by omega), Nat.add_zero] at i2
    have G1 : (sfB B len q').2.2.1.1 ≤ 12 := G.1
    rw [z, if_pos (by decide), hI_n (h := h1) (by omega), r1, if_pos (by decide), hI_n (h := h1) (by omega), r2, z, if_pos (by decide), L6_ok]
    have e1 : ∀ o k, o ≠ 93 → ¬ (o = 79 ∧ (k = 24 ∨ k = 16)) → o ≠ 87 → hI (clS 93 (sI (cpF (sI h1 79 16 (-1)) 88 0 87 0 26) 79 24 0) 3) o k = hI h1 o k := fun o k a b c => by
      rw [clS_o a, hI_n (by omega), cpF_o c, hI_n (by omega)]
    have e2 : ∀ o k, hL (clS 93 (sI (cpF (sI h1 79 16 (-1)) 88 0 87 0 26) 79 24 0) 3) o k = hL h1 o k := fun o k => by
      unfold hL; rw [clS_l, sI_2, cpF_l, sI_2]
    refine ⟨_, rfl, fun y => absurd hf y, fun _ => ⟨by rw [z]; rfl, ?_, ⟨fun o k x => ?_, fun k => ?_⟩, fun _ => ⟨G, ?_, ?_, fun i hi => clS_i hi⟩⟩⟩
    · rw [if_pos z, clS_o (by omega), hI_n (by omega), cpF_o (by omega), hI_s]
    · rw [e1 o k (by omega) (by omega) (by omega)]
      exact m2.1 o k (by omega) (by omega) (by omega)
    · rw [e2]; exact m2.2 86 k (by omega)
    · have R0 : RRow (sI h1 79 16 (-1)) 88 0 (sfB B len q').2.2.1 := by
        refine ⟨?_, ?_, fun i hi => ?_⟩
        · rw [hI_n (by omega), r4, i2]
        · rw [hI_n (by omega)]; exact d1.1
        · rw [hI_n (by omega), hI_n (by omega), Nat.zero_add, Nat.zero_add]
          exact ⟨(d1.2 i hi).1, (d1.2 i hi).2.1⟩
      refine RRc_row.mpr (RRow.fr (h := cpF (sI h1 79 16 (-1)) 88 0 87 0 26) (fun k hk => by rw [clS_o (by omega), hI_n (by omega)]) G1 (RRow.cp G1 R0))
    · rw [clS_o (by omega), hI_s]
  · have f1 : 1 ≤ (sfB B len q').1 := by omega
    rw [if_neg (fposN f1 r0), hI_n (h := h1) (by omega), r1, if_pos (by decide), hI_n (h := h1) (by omega), r2, if_neg (fposN f1 r0), r3 z]
    exact ⟨_, rfl, fun y => absurd hf y, fun _ => ⟨rfl, by rw [if_neg z]; exact hI_s, FRk.set m2.frk, fun y => absurd y z⟩⟩
theorem RdS.pre {h0 : pH} {r : Int32 × pH} (A : ∀ o k, (o < 79 ∨ o = 80 ∨ o = 91 ∨ o = 92 ∨ o = 87 ∨ o = 93 ∨ (o = 79 ∧ (k = 2 ∨ k = 23 ∨ k = 24))) → hI h o k = hI h0 o k) (A2 : ∀ k, hL h 86 k = hL h0 86 k) (R : RdS B len q h r) : RdS B len q h0 r := by
  have X : ∀ g, FRk g h r.2 → FRk g h0 r.2 := fun g F => ⟨fun o k x => (F.1 o k x).trans (A o k (by omega)), fun k => (F.2 k).trans (A2 k)⟩
  exact ⟨fun z => ⟨(R.1 z).1, (R.1 z).2.1, X _ (R.1 z).2.2⟩, fun z => ⟨(R.2 z).1, (R.2 z).2.1, X _ (R.2 z).2.2.1, (R.2 z).2.2.2⟩⟩
/-- the reference reads -/
theorem R_read_ok (V : VRt h len B) (wd : hL h 86 0 = jletters 112 111 105 110 116 0 0 ∧ hL h 86 1 = jletters 103 114 105 100 0 0 0) (hl : len ≤ 2000) (hB : ∀ i, i < len → B i < 256) (hg : ∀ j, j < q → gdK (tkK B len) j) (hs : ¬ gdK (tkK B len) q) : ∃ r, f_R_read h = some r ∧ ∃ h2, hI h2 79 2 = 0 ∧ (∀ o k, o ≠ 81 → ¬ (o = 79 ∧ (k = 2 ∨ k = 4)) → hI h2 o k = hI h o k) ∧ h2.2 = h.2 ∧ RdS B len q h2 r := by
  obtain ⟨v1, v2⟩ := V
  unfold f_R_read
  rw [v1]
  refine lp_inv (f := fun s => f_R_read_L1 s.1 s.2) (fun k s => s.1 = nI k ∧ hI s.2 79 4 = nI len ∧ (∀ o k, o ≠ 81 → ¬ (o = 79 ∧ (k = 2 ∨ k = 4)) → hI s.2 o k = hI h o k) ∧ s.2.2 = h.2 ∧ ∀ i, i < k → hI s.2 81 i = (nI (B i)).toInt8.toInt32) _ len ?_ ?_ ⟨rfl, hI_s, fun o k a b => by show hI (sI h 79 4 _) o k = _; rw [hI_n (by omega)], by rw [sI_2], fun i hi => absurd hi (by omega)⟩ (by unfold lpN; omega)
  · rintro k ⟨y, h'⟩ hk ⟨d1, d2, d3, d4, d5⟩
    have d1 : y = nI k := d1
    subst d1
    have d2 : hI h' 79 4 = nI len := d2
    have d3 : ∀ o k, o ≠ 81 → ¬ (o = 79 ∧ (k = 2 ∨ k = 4)) → hI h' o k = hI h o k := d3
    have d4 : h'.2 = h.2 := d4
    have d5 : ∀ i, i < k → hI h' 81 i = (nI (B i)).toInt8.toInt32 := d5
    show ∃ s', f_R_read_L1 (nI k) h' = some (.inl s') ∧ _
    unfold f_R_read_L1
    rw [d2, if_neg (lt_no hk (by omega)), if_neg (gd (by omega) (by omega)), cla (by omega), d3 80 k (by omega) (by omega), v2 k hk, pk_vb, nI_1]
    refine ⟨_, rfl, rfl, ?_, fun o j a b => ?_, ?_, fun i hi => ?_⟩
    · show hI (sI h' 81 k _) 79 4 = _
      rw [hI_n (by omega)]; exact d2
    · show hI (sI h' 81 k _) o j = _
      rw [hI_n (by omega)]; exact d3 o j a b
    · show (sI h' 81 k _).2 = _
      rw [sI_2]; exact d4
    · show hI (sI h' 81 k _) 81 i = _
      by_cases c : i = k
      · rw [c]; exact hI_s
      · rw [hI_n (by omega)]; exact d5 i (by omega)
  · rintro ⟨y, h1⟩ ⟨d1, d2, d3, d4, d5⟩
    have d1 : y = nI len := d1
    subst d1
    have d2 : hI h1 79 4 = nI len := d2
    have d3 : ∀ o k, o ≠ 81 → ¬ (o = 79 ∧ (k = 2 ∨ k = 4)) → hI h1 o k = hI h o k := d3
    have d4 : h1.2 = h.2 := d4
    have d5 : ∀ i, i < len → hI h1 81 i = (nI (B i)).toInt8.toInt32 := d5
    show ∃ s', f_R_read_L1 (nI len) h1 = some (.inr s') ∧ _
    unfold f_R_read_L1
    rw [d2, if_pos (ge_yes (Nat.le_refl _) (by omega))]
    have w86 : ∀ k, hL h1 86 k = hL h 86 k := fun k => by unfold hL; rw [d4]
    have R : RB (sI h1 79 2 0) len B := ⟨by rw [hI_n (by omega)]; exact d2, fun i hi => by rw [hI_n (by omega)]; exact d5 i hi, by show hL h1 86 0 = _; rw [w86]; exact wd.1, by show hL h1 86 1 = _; rw [w86]; exact wd.2⟩
    obtain ⟨h3, c1, c2, cnt, T⟩ := cuts_ok R hl hB
    rw [c1, Option.bind_some]
    have c2 : FX (sI h1 79 2 0) h3 := c2
    generalize hh4 : sI (sI (sI (sI h3 79 11 0) 79 12 0) 79 14 0) 79 21 0 = h4
    have e4 : ∀ o k, ¬ (o = 79 ∧ (k = 11 ∨ k = 12 ∨ k = 14 ∨ k = 21)) → hI h4 o k = hI h3 o k := fun o k a => by
      rw [← hh4, hI_n (by omega), hI_n (by omega), hI_n (by omega), hI_n (by omega)]
    have l4 : h4.2 = h3.2 := by rw [← hh4, sI_2, sI_2, sI_2, sI_2]
    have z11 : hI h4 79 11 = 0 := by rw [← hh4, hI_n (by omega), hI_n (by omega), hI_n (by omega), hI_s]
    have z12 : hI h4 79 12 = 0 := by rw [← hh4, hI_n (by omega), hI_n (by omega), hI_s]
    have z14 : hI h4 79 14 = 0 := by rw [← hh4, hI_n (by omega), hI_s]
    have z21 : hI h4 79 21 = 0 := by rw [← hh4, hI_s]
    have T4 : TKS B len cnt h4 := T.fr (fun o j a => e4 o j (by omega)) (fun j => by unfold hL; rw [l4])
    have keep : ∀ h', FL h4 h' → (∀ o k, (o < 79 ∨ o = 80 ∨ o = 91 ∨ o = 92 ∨ o = 87 ∨ o = 93 ∨ (o = 79 ∧ (k = 2 ∨ k = 23 ∨ k = 24))) → hI h' o k = hI (sI h1 79 2 0) o k) ∧ ∀ k, hL h' 86 k = hL (sI h1 79 2 0) 86 k := by
      intro h' F
      refine ⟨fun o k a => ?_, fun k => ?_⟩
      · rw [F.1 o k (by unfold FLp; omega), e4 o k (by omega)]
        exact c2.1 o k (by omega) (by omega) (by omega) (by omega)
      · have : hL h' 86 k = hL h3 86 k := by unfold hL; rw [F.2, l4]
        rw [this]
        exact c2.2 86 k (by omega)
    obtain ⟨r, g1, g2⟩ := lines_ok T4 z12 z11 z21 (fun r => RdS B len q (sI h1 79 2 0) r) (fun h' q' F a b c d e => by
      obtain ⟨r, x1, x2⟩ := j3_good (F.tks T4) hl a (by rw [F.1 79 14 (by unfold FLp; omega)]; exact z14) b c d e hg hs
      exact ⟨r, x1, x2.pre (keep h' F).1 (keep h' F).2⟩) (fun h' F a => by
      obtain ⟨r, x1, x2⟩ := j3_bad a hg hs
      exact ⟨r, x1, x2.pre (keep h' F).1 (keep h' F).2⟩)
    rw [g1]
    refine ⟨r, rfl, sI h1 79 2 0, hI_s, fun o k a b => ?_, by rw [sI_2]; exact d4, g2⟩
    rw [hI_n (by omega)]
    exact d3 o k a b
end RQ
