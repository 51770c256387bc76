/-! crossing, bends -/
section BE
variable {n g : Nat} {X Y : Nat → Int} {h h0 : pH}
theorem divisor_ok (C : CC h 8 n g X Y) (G : GC n g X Y) {s : Sq} (L : LC h0 h s) (V : VS n X s) (hm : s.1 ≤ 66) {k : Nat} (hk : k < s.1) : f_Lines_divisor 8 (nI k) h = some (nI (gcp X Y (s.2 k))) := by
  obtain ⟨o1, u1⟩ := over_ok C G L V hm hk
  obtain ⟨b1, b2⟩ := ov_in G (V k hk)
  have g1 := (gc_ok G (V k hk)).1
  unfold f_Lines_divisor
  rw [o1, u1]
  simp only [Option.bind_some]
  rw [jabs_ok (by unfold InR; omega)]
  have e := dv_ok (h := h) 12 (ovp X Y (s.2 k)).natAbs (unp X (s.2 k)) 0 lpN (es_12 _ (by omega) _ (by omega)) (by omega) (by unfold lpN; omega) (by omega) (by omega)
  rw [show lp (fun s => f_Lines_divisor_L1 h s.1 s.2.1 s.2.2) lpN (nI (ovp X Y (s.2 k)).natAbs, nI (unp X (s.2 k)), 0) = _ from e]
  congr 2
  show max 1 (gcp X Y (s.2 k)) = _
  omega
theorem frac_ok (G : GC n g X Y) {x : Nat × Nat} (hx : okp n X x) : iI (ovp X Y x) / nI (gcp X Y x) = iI (ovr X Y x) ∧ nI (unp X x) / nI (gcp X Y x) = nI (unr X Y x) ∧ ¬ nI (gcp X Y x) = 0 := by
  obtain ⟨b1, b2⟩ := ov_in G hx
  obtain ⟨g1, g2, g3, g4, g5, -⟩ := gc_ok G hx
  obtain ⟨r1, r2⟩ := or_in G hx
  refine ⟨?_, pk_div (by omega) g1 (by omega), fun e => by have := (nI_eqI (b := 0) (by omega) (by omega)).mp e; omega⟩
  rw [g3]
  exact idiv_ok g1 (by omega) (by omega)
def bdB (n : Nat) (X Y : Nat → Int) (S : Nat → Nat × Nat) (i : Int32) (k : Nat) : Bool := (decide (k = 0) || decide (ovp X Y (S k) * unp X (S (k - 1)) ≠ ovp X Y (S (k - 1)) * unp X (S k))) && decide (laV n (rk n X Y (ovp X Y (S k)) (unp X (S k)) (-1)) i ≠ laV n (rk n X Y (ovp X Y (S k)) (unp X (S k)) 1) i)
theorem bendsAt_ok (C : CC h 8 n g X Y) (G : GC n g X Y) {x : Nat × Nat} (hx : okp n X x) (i : Int32) : f_Lines_bendsAt 8 i (iI (ovp X Y x)) (nI (unp X x)) h = some (if laV n (rk n X Y (ovp X Y x) (unp X x) (-1)) i = laV n (rk n X Y (ovp X Y x) (unp X x) 1) i then 0 else 1) := by
  obtain ⟨b1, b2⟩ := ov_in G hx
  have e1 := lineAt_ok C G (ov := ovp X Y x) (un := (unp X x : Int)) (sd := 1) (by omega) (by omega) (Or.inl rfl) i
  have e2 := lineAt_ok C G (ov := ovp X Y x) (un := (unp X x : Int)) (sd := -1) (by omega) (by omega) (Or.inr rfl) i
  rw [← nI_iI] at e1 e2
  have e1 : f_Lines_lineAt 8 i (iI (ovp X Y x)) (nI (unp X x)) 1 h = _ := e1
  have e2 : f_Lines_lineAt 8 i (iI (ovp X Y x)) (nI (unp X x)) (-1) h = _ := e2
  unfold f_Lines_bendsAt
  rw [e1, e2]
  simp only [Option.bind_some]
  split <;> rfl
theorem bendsOf_ok (C : CC h 8 n g X Y) (G : GC n g X Y) {s : Sq} (L : LC h0 h s) (V : VS n X s) (hm : s.1 ≤ 66) (i : Int32) : f_Lines_bendsOf 8 i h = some (nI (ctn (bdB n X Y s.2 i) s.1)) := by
  unfold f_Lines_bendsOf
  refine lp_ct0 (f := fun t => f_Lines_bendsOf_L1 8 i h t.1 t.2) s.1 (bdB n X Y s.2 i) (fun k hk a => ?_) ?_ (by unfold lpN; omega)
  · show f_Lines_bendsOf_L1 8 i h (nI a) (nI k) = _
    obtain ⟨o1, u1⟩ := over_ok C G L V hm hk
    have J1 : f_Lines_bendsOf_J2 8 i (nI a) (nI k) 1 h = some (.inl (nI (a + if decide (laV n (rk n X Y (ovp X Y (s.2 k)) (unp X (s.2 k)) (-1)) i ≠ laV n (rk n X Y (ovp X Y (s.2 k)) (unp X (s.2 k)) 1) i) then 1 else 0), nI (k + 1))) := by
      unfold f_Lines_bendsOf_J2
      rw [if_neg (by decide), o1, u1]
      simp only [Option.bind_some]
      rw [bendsAt_ok C G (V k hk), nI_1, nI_1]
      simp only [Option.bind_some]
      by_cases z : laV n (rk n X Y (ovp X Y (s.2 k)) (unp X (s.2 k)) (-1)) i = laV n (rk n X Y (ovp X Y (s.2 k)) (unp X (s.2 k)) 1) i
      · rw [if_pos z, if_pos rfl, if_neg (by simp [z])]
        rfl
      · rw [if_neg z, if_neg (by decide), if_pos (by simp [z])]
    have J0 : f_Lines_bendsOf_J2 8 i (nI a) (nI k) 0 h = some (.inl (nI a, nI (k + 1))) := by
      unfold f_Lines_bendsOf_J2
      rw [if_pos rfl, nI_1]
    unfold f_Lines_bendsOf_L1 bdB
    rw [L.2.1, if_neg (lt_no hk (by omega))]
    by_cases z : k = 0
    · subst z
      rw [if_pos (show nI 0 = 0 from rfl), J1]
      simp
    · have nz : ¬ nI k = 0 := fun e => z ((nI_eqI (b := 0) (by omega) (by omega)).mp e)
      have s1 : nI k - 1 = nI (k - 1) := by rw [show (1 : Int32) = nI 1 from rfl, pk_sub (by omega)]
      rw [if_neg nz, s1, cmpX_ok C G L V hm hk (show k - 1 < s.1 by omega), J0, J1]
      simp only [Option.bind_some]
      by_cases y1 : ovp X Y (s.2 k) * unp X (s.2 (k - 1)) < ovp X Y (s.2 (k - 1)) * unp X (s.2 k)
      · have y2 : ¬ ovp X Y (s.2 k) * unp X (s.2 (k - 1)) = ovp X Y (s.2 (k - 1)) * unp X (s.2 k) := by omega
        rw [if_pos y1, if_neg (by decide), decide_eq_false z, decide_eq_true y2, Bool.false_or, Bool.true_and]
      · rw [if_neg y1]
        by_cases y2 : ovp X Y (s.2 k) * unp X (s.2 (k - 1)) = ovp X Y (s.2 (k - 1)) * unp X (s.2 k)
        · rw [if_pos y2, if_pos rfl, decide_eq_false z, decide_eq_false (fun x => x y2), Bool.false_or, Bool.false_and]
          rfl
        · rw [if_neg y2, if_neg (by decide), decide_eq_false z, decide_eq_true y2, Bool.false_or, Bool.true_and]
  · show f_Lines_bendsOf_L1 8 i h _ (nI s.1) = _
    unfold f_Lines_bendsOf_L1
    rw [L.2.1, if_pos (ge_yes (Nat.le_refl _) (by omega))]
theorem la_red (G : GC n g X Y) {x : Nat × Nat} (hx : okp n X x) (sd : Int) (i : Int32) : laV n (rk n X Y (ovp X Y x) (unp X x) sd) i = laV n (rk n X Y (ovr X Y x) (unr X Y x) sd) i := by
  obtain ⟨g1, g2, g3, g4, g5, -⟩ := gc_ok G hx
  refine laV_cong (fun p _ => ?_) i
  have e : (unp X x : Int) = (unr X Y x : Int) * (gcp X Y x : Int) := by rw [g4]; exact Int.natCast_mul _ _
  rw [e, g3]
  exact rk_scale g1 sd p
theorem R_bends_ok (C : RR h n g X Y) (G : GC n g X Y) {s : Sq} (L : LRs X Y h0 h s) (V : VS n X s) (hm : s.1 ≤ 66) (i : Int32) : lp (fun t => f_R_bends_L1 i (nI s.1) h t.1 t.2) lpN (0, 0) = some (nI (ctn (bdB n X Y s.2 i) s.1), h) := by
  refine lp_ct0 (f := fun t => f_R_bends_L1 i (nI s.1) h t.1 t.2) s.1 (bdB n X Y s.2 i) (fun k hk a => ?_) ?_ (by unfold lpN; omega)
  · show f_R_bends_L1 i (nI s.1) h (nI a) (nI k) = _
    obtain ⟨q1, q2, -⟩ := L.2 k hk
    obtain ⟨r1, r2⟩ := or_in G (V k hk)
    have e1 := R_lineAt_ok C G (ov := ovr X Y (s.2 k)) (un := (unr X Y (s.2 k) : Int)) (sd := -1) (by omega) (by omega) (x4 := 1) (Or.inr ⟨rfl, rfl⟩) i
    have e2 := R_lineAt_ok C G (ov := ovr X Y (s.2 k)) (un := (unr X Y (s.2 k) : Int)) (sd := 1) (by omega) (by omega) (x4 := 0) (Or.inl ⟨rfl, rfl⟩) i
    rw [← nI_iI, ← la_red G (V k hk)] at e1 e2
    have J1 : f_R_bends_J2 i (nI s.1) (nI a) (nI k) h = some (.inl (nI (a + if decide (laV n (rk n X Y (ovp X Y (s.2 k)) (unp X (s.2 k)) (-1)) i ≠ laV n (rk n X Y (ovp X Y (s.2 k)) (unp X (s.2 k)) 1) i) then 1 else 0), nI (k + 1))) := by
      unfold f_R_bends_J2
      rw [if_neg (gd (by omega) (by omega)), cla (by omega), q1, q2, e1, e2, nI_1, nI_1]
      simp only [Option.bind_some]
      by_cases z : laV n (rk n X Y (ovp X Y (s.2 k)) (unp X (s.2 k)) (-1)) i = laV n (rk n X Y (ovp X Y (s.2 k)) (unp X (s.2 k)) 1) i
      · rw [if_pos z, if_neg (by simp [z])]
        rfl
      · rw [if_neg z, if_pos (by simp [z])]
    unfold f_R_bends_L1 bdB
    rw [if_neg (lt_no hk (by omega))]
    by_cases z : k = 0
    · subst z
      rw [if_pos (show nI 0 ≤ 0 by decide), J1]
      simp
    · have hk1 : k - 1 < s.1 := by omega
      obtain ⟨w1, w2, -⟩ := L.2 (k - 1) hk1
      obtain ⟨v1, v2⟩ := or_in G (V (k - 1) hk1)
      have s1 : nI k - 1 = nI (k - 1) := by rw [show (1 : Int32) = nI 1 from rfl, pk_sub (by omega)]
      rw [if_neg (show ¬ nI k ≤ 0 from nI_ge (a := 0) (by omega) (by omega)), s1, if_neg (gd (by omega) (by omega)), if_neg (gd (by omega) (by omega)), cla (by omega), cla (by omega), q1, q2, w1, w2, J1, nI_1]
      simp only [iI_eq (show InR (ovr X Y (s.2 k)) by unfold InR; omega) (show InR (ovr X Y (s.2 (k - 1))) by unfold InR; omega), nI_eqI (show unr X Y (s.2 k) ≤ 100000 by omega) (show unr X Y (s.2 (k - 1)) ≤ 100000 by omega)]
      have rs := red_same G (V k hk) (V (k - 1) hk1)
      by_cases y2 : ovp X Y (s.2 k) * unp X (s.2 (k - 1)) = ovp X Y (s.2 (k - 1)) * unp X (s.2 k)
      · have y := rs.mp y2
        rw [if_pos y.1, if_pos y.2, decide_eq_false z, decide_eq_false (fun x => x y2), Bool.false_or, Bool.false_and]
        rfl
      · rw [decide_eq_false z, decide_eq_true y2, Bool.false_or, Bool.true_and]
        by_cases y3 : ovr X Y (s.2 k) = ovr X Y (s.2 (k - 1))
        · rw [if_pos y3, if_neg (fun x => y2 (rs.mpr ⟨y3, x⟩))]
        · rw [if_neg y3]
  · show f_R_bends_L1 i (nI s.1) h _ (nI s.1) = _
    unfold f_R_bends_L1
    rw [if_pos (ge_yes (Nat.le_refl _) (by omega))]
end BE
section BS
variable {KC KD KE : pH → Cfg → Prop}
theorem sc_24 : ∀ o, o ∈ [24, 25] → o < 79 ∧ ∀ k, ¬ Rc o k := by
  intro o ho
  simp only [List.mem_cons, List.not_mem_nil, or_false] at ho
  exact ⟨by omega, fun k hr => by unfold Rc Pl Pu Ps Pt at hr; omega⟩
theorem sr_98 : ∀ o, o ∈ [98, 99, 100, 101] → 79 ≤ o ∧ o ≠ 86 ∧ ∀ k, ¬ Rr o k := by
  intro o ho
  simp only [List.mem_cons, List.not_mem_nil, or_false] at ho
  exact ⟨by omega, by omega, fun k hr => by unfold Rr Qu Qs Qt at hr; omega⟩
theorem R_bends_call {n g : Nat} {X Y : Nat → Int} {h : pH} (R : RR h n g X Y) (G : GC n g X Y) {a0 : Int32} (z : 0 ≤ a0.toInt ∧ a0.toInt < n) : ∃ h2, f_R_bends a0 h = some (nI (ctn (bdB n X Y (stO n X Y n).2 a0) (stO n X Y n).1), h2) ∧ Fs [98, 99, 100, 101] h h2 := by
  have hn := G.1
  obtain ⟨h2, e2, L2⟩ := laysCrossings_ok R G
  have V := vs_stO (n := n) (X := X) (Y := Y) n (Nat.le_refl _)
  have m66 := all66 (X := X) (Y := Y) hn
  have b := R_bends_ok (RR.fs R L2.1 (by decide)) G L2 V m66 a0
  refine ⟨h2, ?_, L2.1⟩
  unfold f_R_bends
  rw [show f_R_all h = nI n from R.1, in_idx a0 (by omega), if_pos z, if_neg (by decide), e2, Option.bind_some]
  rw [b]
theorem C_bends_call {n g : Nat} {X Y : Nat → Int} {h : pH} (C : CC h 8 n g X Y) (G : GC n g X Y) {a0 : Int32} (z : 0 ≤ a0.toInt ∧ a0.toInt < n) : ∃ h1, f_C_bends a0 h = some (nI (ctn (bdB n X Y (stO n X Y n).2 a0) (stO n X Y n).1), h1) ∧ Fs [24, 25] h h1 := by
  have hn := G.1
  obtain ⟨h1, e1, L1⟩ := cross_ok C G
  have C1 : CC h1 8 n g X Y := CC.fs C L1.1 (by decide) (by rw [rf8_0]; decide) (by rw [rf8_1]; decide)
  have V := vs_stO (n := n) (X := X) (Y := Y) n (Nat.le_refl _)
  have m66 := all66 (X := X) (Y := Y) hn
  have b := bendsOf_ok C1 G L1 V m66 a0
  refine ⟨h1, ?_, L1.1⟩
  unfold f_C_bends
  rw [has_in C hn, if_pos z, if_neg (by decide), e1, Option.bind_some, b, Option.bind_some]
theorem sp_bends (hKC : Kst KC) (hKD : Kst KD) (hKE : Kst KE) : Sp_bends (JJ KC KD KE) := by
  intro k h _ H a0
  refine rd_go2 hKC hKD hKE H (f := f_C_bends a0 h) (g := f_R_bends a0) [24, 25] [98, 99, 100, 101] sc_24 sr_98 (fun c G C R => ?_)
  have hn : c.1 ≤ 12 := G.1
  by_cases z : 0 ≤ a0.toInt ∧ a0.toInt < c.1
  · obtain ⟨h1, e1, f1⟩ := C_bends_call C G z
    obtain ⟨h2, e2, f2⟩ := R_bends_call (RR.fs R f1 (by decide)) G z
    exact ⟨_, h1, e1, f1, h2, e2, f2⟩
  · refine ⟨-1, h, ?_, Fs.rfl', h, ?_, Fs.rfl'⟩
    · unfold f_C_bends
      rw [has_in C hn, if_neg z, if_pos rfl]
    · unfold f_R_bends
      rw [show f_R_all h = nI c.1 from R.1, in_idx a0 (by omega), if_neg z, if_pos rfl]
theorem sp_crossing (hKC : Kst KC) (hKD : Kst KD) (hKE : Kst KE) : Sp_crossing (JJ KC KD KE) := by
  intro k h _ H a0 a1
  refine rd_go2 hKC hKD hKE H (f := f_C_crossing a0 a1 h) (g := f_R_crossing a0 a1) [24, 25] [98, 99, 100, 101] sc_24 sr_98 (fun c G C R => ?_)
  have hn : c.1 ≤ 12 := G.1
  obtain ⟨h1, e1, L1⟩ := cross_ok C G
  have C1 : CC h1 8 c.1 c.2.1 c.2.2.1 c.2.2.2 := CC.fs C L1.1 (by decide) (by rw [rf8_0]; decide) (by rw [rf8_1]; decide)
  have R1 : RR h1 c.1 c.2.1 c.2.2.1 c.2.2.2 := RR.fs R L1.1 (by decide)
  obtain ⟨h2, e2, L2⟩ := laysCrossings_ok R1 G
  have V := vs_stO (n := c.1) (X := c.2.2.1) (Y := c.2.2.2) c.1 (Nat.le_refl _)
  have m66 := all66 (X := c.2.2.1) (Y := c.2.2.2) hn
  generalize stO c.1 c.2.2.1 c.2.2.2 c.1 = s at *
  have i3 := in_ok a1 (lo := 0) (hi := 3) (by unfold InR; omega) (by unfold InR; omega)
  have i3 : f_R_in a1 0 3 = if 0 ≤ a1.toInt ∧ a1.toInt ≤ 3 then 1 else 0 := i3
  have ref : ∀ v : Int32, (if a0 = -1 then some (nI s.1, h2) else if (if 0 ≤ a0.toInt ∧ a0.toInt < s.1 then (1 : Int32) else 0) = 0 then some (-100000, h2) else if (if 0 ≤ a1.toInt ∧ a1.toInt ≤ 3 then (1 : Int32) else 0) = 0 then some (-100000, h2) else if a1 = 0 then (if a0 < 0 ∨ 66 ≤ a0.toNatClampNeg then none else some (hI h2 98 a0.toNatClampNeg, h2)) else if a1 = 1 then (if a0 < 0 ∨ 66 ≤ a0.toNatClampNeg then none else some (hI h2 99 a0.toNatClampNeg, h2)) else if a1 = 2 then (if a0 < 0 ∨ 66 ≤ a0.toNatClampNeg then none else some (hI h2 100 a0.toNatClampNeg, h2)) else (if a0 < 0 ∨ 66 ≤ a0.toNatClampNeg then none else some (hI h2 101 a0.toNatClampNeg, h2))) = some (v, h2) → f_R_crossing a0 a1 h1 = some (v, h2) := by
    intro v hv
    unfold f_R_crossing
    rw [e2]
    simp only [Option.bind_some]
    rw [in_idx a0 (by omega), i3]
    exact hv
  unfold f_C_crossing
  rw [e1]
  simp only [Option.bind_some]
  by_cases q1 : a0 = -1
  · rw [if_pos q1, L1.2.1]
    exact ⟨_, h1, rfl, L1.1, h2, ref _ (by rw [if_pos q1]), L2.1⟩
  rw [if_neg q1, L1.2.1]
  have ltM : a0 < nI s.1 ↔ a0.toInt < s.1 := by
    conv => lhs; rw [iI_of a0, nI_iI]
    rw [iI_lt (InR_of a0) (by unfold InR; omega)]
  simp only [lt0x, ltM]
  by_cases q2 : 0 ≤ a0.toInt ∧ a0.toInt < s.1
  rotate_left
  · refine ⟨-100000, h1, ?_, L1.1, h2, ref _ (by rw [if_neg q1, if_neg q2, if_pos rfl]), L2.1⟩
    by_cases q3 : a0.toInt < 0
    · rw [if_pos q3]
    · rw [if_neg q3, if_neg (by omega)]
  rw [if_neg (by omega), if_pos q2.2]
  obtain ⟨i, hi, rfl⟩ := pt_nat q2.1 q2.2
  obtain ⟨o1, u1⟩ := over_ok C1 G L1 V m66 hi
  obtain ⟨l1, l2⟩ := lesser_ok L1 V hn m66 hi
  have dv := divisor_ok C1 G L1 V m66 hi
  obtain ⟨f1, f2, f3⟩ := frac_ok G (V i hi)
  obtain ⟨w1, w2, w3, w4⟩ := L2.2 i hi
  have gdd : ¬ (nI i < 0 ∨ 66 ≤ (nI i).toNatClampNeg) := gd (by omega) (by omega)
  have cl : (nI i).toNatClampNeg = i := cla (by omega)
  by_cases z : 0 ≤ a1.toInt ∧ a1.toInt ≤ 3
  · obtain ⟨m, hm, rfl⟩ := pt_nat (n := 4) z.1 (by omega)
    have : m = 0 ∨ m = 1 ∨ m = 2 ∨ m = 3 := by omega
    rcases this with rfl | rfl | rfl | rfl
    · rw [if_pos (show nI 0 = 0 from rfl), o1, dv]
      simp only [Option.bind_some]
      rw [if_neg f3, f1]
      exact ⟨_, h1, rfl, L1.1, h2, ref _ (by rw [if_neg q1, if_pos q2, if_neg (by decide), if_pos z, if_neg (by decide), if_pos (show nI 0 = 0 from rfl), if_neg gdd, cl, w1]), L2.1⟩
    · rw [if_neg (show ¬ nI 1 = 0 by decide), if_pos (show nI 1 = 1 from rfl), u1, dv]
      simp only [Option.bind_some]
      rw [if_neg f3, f2]
      exact ⟨_, h1, rfl, L1.1, h2, ref _ (by rw [if_neg q1, if_pos q2, if_neg (by decide), if_pos z, if_neg (by decide), if_neg (show ¬ nI 1 = 0 by decide), if_pos (show nI 1 = 1 from rfl), if_neg gdd, cl, w2]), L2.1⟩
    · rw [if_neg (show ¬ nI 2 = 0 by decide), if_neg (show ¬ nI 2 = 1 by decide), if_pos (show nI 2 = 2 from rfl), l1]
      exact ⟨_, h1, rfl, L1.1, h2, ref _ (by rw [if_neg q1, if_pos q2, if_neg (by decide), if_pos z, if_neg (by decide), if_neg (show ¬ nI 2 = 0 by decide), if_neg (show ¬ nI 2 = 1 by decide), if_pos (show nI 2 = 2 from rfl), if_neg gdd, cl, w3]), L2.1⟩
    · rw [if_neg (show ¬ nI 3 = 0 by decide), if_neg (show ¬ nI 3 = 1 by decide), if_neg (show ¬ nI 3 = 2 by decide), if_pos (show nI 3 = 3 from rfl), l2]
      exact ⟨_, h1, rfl, L1.1, h2, ref _ (by rw [if_neg q1, if_pos q2, if_neg (by decide), if_pos z, if_neg (by decide), if_neg (show ¬ nI 3 = 0 by decide), if_neg (show ¬ nI 3 = 1 by decide), if_neg (show ¬ nI 3 = 2 by decide), if_neg gdd, cl, w4]), L2.1⟩
  · have ne : ∀ y : Int, 0 ≤ y ∧ y ≤ 3 → ¬ a1 = iI y := by
      rintro y hy rfl
      rw [iI_toInt (by unfold InR; omega)] at z
      omega
    rw [if_neg (show ¬ a1 = 0 from ne 0 (by omega)), if_neg (show ¬ a1 = 1 from ne 1 (by omega)), if_neg (show ¬ a1 = 2 from ne 2 (by omega)), if_neg (show ¬ a1 = 3 from ne 3 (by omega))]
    exact ⟨_, h1, rfl, L1.1, h2, ref _ (by rw [if_neg q1, if_pos q2, if_neg (by decide), if_neg z, if_pos rfl]), L2.1⟩
end BS
