/-! rows of the reference -/
def cpF (h : pH) (a p b q : Nat) : Nat → pH
  | 0 => h
  | k + 1 => sI (cpF h a p b q k) b (q + k) (hI h a (p + k))
theorem cpF_o {h : pH} {a p b q o j : Nat} (hn : o ≠ b) : ∀ k, hI (cpF h a p b q k) o j = hI h o j
  | 0 => rfl
  | k + 1 => by show hI (sI _ b _ _) o j = _; rw [hI_n (by omega)]; exact cpF_o hn k
theorem cpF_out {h : pH} {a p b q j : Nat} : ∀ k, (j < q ∨ q + k ≤ j) → hI (cpF h a p b q k) b j = hI h b j
  | 0, _ => rfl
  | k + 1, hj => by show hI (sI _ b _ _) b j = _; rw [hI_n (by omega)]; exact cpF_out k (by omega)
theorem cpF_in {h : pH} {a p b q : Nat} : ∀ k j, j < k → hI (cpF h a p b q k) b (q + j) = hI h a (p + j)
  | k + 1, j, hj => by
    show hI (sI _ b _ _) b (q + j) = _
    by_cases e : j = k
    · subst e; rw [hI_s]
    · rw [hI_n (by omega)]; exact cpF_in k j (by omega)
theorem cpF_l {h : pH} {a p b q : Nat} : ∀ k, (cpF h a p b q k).2 = h.2
  | 0 => rfl
  | k + 1 => cpF_l k
theorem sI_2 {h : pH} {o k : Nat} {v : Int32} : (sI h o k v).2 = h.2 := rfl
theorem RRow.cp {h : pH} {a p b q : Nat} {c : Cfg} (hc : c.1 ≤ 12) (R : RRow h a p c) : RRow (cpF h a p b q 26) b q c := by
  refine ⟨?_, ?_, fun i hi => ⟨?_, ?_⟩⟩
  · have := cpF_in (h := h) (a := a) (p := p) (b := b) (q := q) 26 0 (by omega)
    rw [Nat.add_zero, Nat.add_zero] at this
    rw [this]; exact R.1
  · rw [cpF_in 26 1 (by omega)]; exact R.2.1
  · rw [cpF_in 26 _ (by omega)]; exact (R.2.2 i hi).1
  · rw [cpF_in 26 _ (by omega)]; exact (R.2.2 i hi).2
theorem RRc_row {h : pH} {c : Cfg} : RRc h c ↔ RRow h 87 0 c := by
  unfold RRc RR RRow
  simp only [Nat.zero_add]
theorem marks_J {h : pH} {c : Cfg} (R : RRc h c) (hc : c.1 ≤ 12) {er und : Nat} (u1 : hI h 79 24 = nI und) (u2 : hI h 79 23 = nI er) (he : er < 40) (hu : und < 40) : f_R_marks_J1 h = some (sI (cpF h 87 0 91 (26 * ((er + und) % 40)) 26) 79 24 (nI (und + 1))) := by
  unfold f_R_marks_J1
  have hm : (er + und) % 40 < 40 := Nat.mod_lt _ (by decide)
  rw [u1, u2, nI_add, show (40 : Int32) = nI 40 from rfl, jrem_ok (by omega) (by decide) (by decide), show (26 : Int32) = nI 26 from rfl, pk_mul]
  generalize (er + und) % 40 = m at hm ⊢
  refine lp_run (f := fun s => f_R_marks_L2 (nI (26 * m)) s.1 s.2) (fun k => (nI k, cpF h 87 0 91 (26 * m) k)) 26 (fun k hk => ?_) ?_ (n := lpN) (by unfold lpN; omega)
  · show f_R_marks_L2 _ (nI k) (cpF h 87 0 91 (26 * m) k) = some (.inl (nI (k + 1), cpF h 87 0 91 (26 * m) (k + 1)))
    unfold f_R_marks_L2
    rw [show (26 : Int32) = nI 26 from rfl, if_neg (lt_no hk (by omega)), if_neg (gd (by omega) (by omega)), nI_add, if_neg (gd (by omega) (by omega)), cla (by omega), cla (by omega), cpF_o (by omega), nI_1]
    show _ = some (Sum.inl (_, sI (cpF h 87 0 91 (26 * m) k) 91 (26 * m + k) (hI h 87 (0 + k))))
    rw [Nat.zero_add]
  · show f_R_marks_L2 _ (nI 26) _ = _
    unfold f_R_marks_L2
    rw [show (26 : Int32) = nI 26 from rfl, if_pos (ge_yes (Nat.le_refl _) (by omega)), cpF_o (by omega), u1, nI_1]
theorem marks_ok {h : pH} {c : Cfg} (R : RRc h c) (hc : c.1 ≤ 12) {und : Nat} {P : Nat → Cfg} (hP : ∀ i, i < und → GCc (P i)) (hu : und ≤ 40) (U : VRu h und P) : ∃ h', f_R_marks h = some h' ∧ VRu h' (pushU und) (pushP und P c) ∧ (∀ o k, ¬ Qu o k → hI h' o k = hI h o k) ∧ h'.2 = h.2 := by
  obtain ⟨er, ⟨u1, u2, u3⟩, hp⟩ := U
  unfold f_R_marks
  rw [u1, show (40 : Int32) = nI 40 from rfl]
  by_cases e : und = 40
  · rw [if_pos (by rw [e]), u2, nI_1, jrem_ok (by omega) (by decide) (by decide), hI_n (by omega), u1, e, show nI 40 - 1 = nI 39 from by decide]
    have hme : (er + 1) % 40 < 40 := Nat.mod_lt _ (by decide)
    rw [marks_J (h := sI (sI h 79 23 _) 79 24 _) (c := c) (er := (er + 1) % 40) (und := 39) (R.fr (fun k => by rw [hI_n (by omega), hI_n (by omega)])) hc hI_s (by rw [hI_n (by omega), hI_s]) hme (by omega)]
    have hm : ((er + 1) % 40 + 39) % 40 = er := by omega
    rw [hm]
    refine ⟨_, rfl, ⟨(er + 1) % 40, ⟨?_, ?_, hme⟩, fun i hi => ?_⟩, fun o k hr => ?_, ?_⟩
    · rw [hI_s]; unfold pushU; rw [if_neg (by omega)]
    · rw [hI_n (by omega), cpF_o (by omega), hI_n (by omega), hI_s]
    · unfold pushU at hi
      rw [if_neg (by omega)] at hi
      unfold pushP
      rw [if_neg (by omega)]
      have hmm : ((er + 1) % 40 + i) % 40 < 40 := Nat.mod_lt _ (by decide)
      by_cases ei : i = 39
      · rw [if_pos ei, ei, hm]
        refine RRow.fr (h := cpF _ 87 0 91 (26 * er) 26) (fun k hk => by rw [hI_n (by omega)]) hc (RRow.cp hc ?_)
        exact RRc_row.mp (R.fr (fun k => by rw [hI_n (by omega), hI_n (by omega)]))
      · rw [if_neg ei]
        have e2 : ((er + 1) % 40 + i) % 40 = (er + (i + 1)) % 40 := by omega
        rw [e2] at hmm ⊢
        have hne : (er + (i + 1)) % 40 ≠ er := by omega
        refine RRow.fr (h := h) (fun k hk => ?_) (hP (i + 1) (by omega)).1 (hp (i + 1) (by omega))
        rw [hI_n (by omega), cpF_out 26 (by omega), hI_n (by omega), hI_n (by omega)]
    · unfold Qu at hr
      rw [hI_n (by omega), cpF_o (by omega), hI_n (by omega), hI_n (by omega)]
    · rw [sI_2, cpF_l, sI_2, sI_2]
  · rw [if_neg (fun q => e ((nI_eqI (by omega) (by omega)).mp q)), marks_J R hc u1 u2 u3 (by omega)]
    refine ⟨_, rfl, ⟨er, ⟨?_, ?_, u3⟩, fun i hi => ?_⟩, fun o k hr => ?_, ?_⟩
    · rw [hI_s]; unfold pushU; rw [if_pos (by omega)]
    · rw [hI_n (by omega), cpF_o (by omega), u2]
    · unfold pushU at hi
      rw [if_pos (by omega)] at hi
      unfold pushP
      rw [if_pos (by omega)]
      by_cases ei : i = und
      · rw [if_pos ei, ei]
        exact RRow.fr (h := cpF h 87 0 91 _ 26) (fun k hk => by rw [hI_n (by omega)]) hc (RRow.cp hc (RRc_row.mp R))
      · rw [if_neg ei]
        have h1 : (er + i) % 40 < 40 := Nat.mod_lt _ (by decide)
        have h2 : (er + und) % 40 < 40 := Nat.mod_lt _ (by decide)
        have hne : (er + i) % 40 ≠ (er + und) % 40 := by omega
        refine RRow.fr (h := h) (fun k hk => ?_) (hP i (by omega)).1 (hp i (by omega))
        rw [hI_n (by omega), cpF_out 26 (by omega)]
    · unfold Qu at hr
      rw [hI_n (by omega), cpF_o (by omega)]
    · rw [sI_2, cpF_l]
