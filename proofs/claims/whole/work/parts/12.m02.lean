def f_R_wrong (x1 : Int32) (x2 : Int32) (h : pH) : Option pH :=
  if x2 < 0 ∨ 403 ≤ x2.toNatClampNeg then none else
  if 0 < (hI h 79 12) then
    some h
  else
    if (hI h 79 14) = 0 then
      some (sI (sI h 79 14 x1) 79 15 (hI h 83 x2.toNatClampNeg))
    else
      if (hI h 79 15) < (hI h 83 x2.toNatClampNeg) then
        some h
      else
        if (hI h 83 x2.toNatClampNeg) = (hI h 79 15) then
          if x1 < (hI h 79 14) then
            some (sI (sI h 79 14 x1) 79 15 (hI h 83 x2.toNatClampNeg))
          else
            some h
        else
          some (sI (sI h 79 14 x1) 79 15 (hI h 83 x2.toNatClampNeg))
set_option maxHeartbeats 4000000 in
theorem b_R_wrong {E : pE} {r : Option Value} {hr : pH} {x1 : Int32} {x2 : Int32} {h : pH}  {b : pH} (e : f_R_wrong x1 x2 h = some b) (k : (fun v : pH => r = none ∧ hr = v) b) : Go E M_R_wrong 0 [some (.ref 79), some (.int x1), some (.int x2), none] [] h r hr := by
  unfold f_R_wrong at e
  obtain ⟨g_1, e⟩ := it_g e
  refine sl_ok ok_R_wrong [.aload_n 0, .getfield 24, .iload_n 2, .iaload, .istore_n 3, .aload_n 0, .getfield 131] (pc1 := 11) (ls1 := [some (.ref 79), some (.int x1), some (.int x2), some (.int (hI h 83 x2.toNatClampNeg))]) (st1 := [.int (hI h 79 12)]) (h1 := h) (P := (ak 79 = 0 ∧ cx 79 = 12) ∧ (ak 83 = 1 ∧ ¬ (x2 < 0 ∨ cx 83 ≤ x2.toNatClampNeg)) ∧ (ak 79 = 0 ∧ cx 79 = 12) ∧ True) (by decide +kernel) rfl ⟨⟨rfl, rfl⟩, ⟨rfl, g_1⟩, ⟨rfl, rfl⟩, trivial⟩ ?_
  refine q_if_gt (off := 34) (tgt := 45) (by decide +kernel) (by decide) (fun c_2 => ?_) (fun c_2 => ?_)
  · have e := it_t c_2 e
    cases e
    exact q_vret rfl k.1 k.2 (by decide +kernel)
  · have e := it_f c_2 e
    refine sl_ok ok_R_wrong [.aload_n 0, .getfield 140] (pc1 := 18) (ls1 := [some (.ref 79), some (.int x1), some (.int x2), some (.int (hI h 83 x2.toNatClampNeg))]) (st1 := [.int (hI h 79 14)]) (h1 := h) (P := (ak 79 = 0 ∧ cx 79 = 12) ∧ True) (by decide +kernel) rfl ⟨⟨rfl, rfl⟩, trivial⟩ ?_
    refine q_if_eq (off := 28) (tgt := 46) (by decide +kernel) (by decide) (fun c_3 => ?_) (fun c_3 => ?_)
    · have e := it_t c_3 e
      refine sl_ok ok_R_wrong [.aload_n 0, .iload_n 1, .putfield 140, .aload_n 0, .iload_n 3, .putfield 143] (pc1 := 56) (ls1 := [some (.ref 79), some (.int x1), some (.int x2), some (.int (hI h 83 x2.toNatClampNeg))]) (st1 := []) (h1 := (sI (sI h 79 14 x1) 79 15 (hI h 83 x2.toNatClampNeg))) (P := (ak 79 = 0 ∧ cx 79 = 12) ∧ (ak 79 = 0 ∧ cx 79 = 12) ∧ True) (by decide +kernel) rfl ⟨⟨rfl, rfl⟩, ⟨rfl, rfl⟩, trivial⟩ ?_
      cases e
      exact q_vret rfl k.1 k.2 (by decide +kernel)
    · have e := it_f c_3 e
      refine sl_ok ok_R_wrong [.iload_n 3, .aload_n 0, .getfield 143] (pc1 := 26) (ls1 := [some (.ref 79), some (.int x1), some (.int x2), some (.int (hI h 83 x2.toNatClampNeg))]) (st1 := [.int (hI h 79 15), .int (hI h 83 x2.toNatClampNeg)]) (h1 := h) (P := (ak 79 = 0 ∧ cx 79 = 12) ∧ True) (by decide +kernel) rfl ⟨⟨rfl, rfl⟩, trivial⟩ ?_
      refine q_icmp_gt (off := 19) (tgt := 45) (by decide +kernel) (by decide) (fun c_4 => ?_) (fun c_4 => ?_)
      · have e := it_t c_4 e
        cases e
        exact q_vret rfl k.1 k.2 (by decide +kernel)
      · have e := it_f c_4 e
        refine sl_ok ok_R_wrong [.iload_n 3, .aload_n 0, .getfield 143] (pc1 := 34) (ls1 := [some (.ref 79), some (.int x1), some (.int x2), some (.int (hI h 83 x2.toNatClampNeg))]) (st1 := [.int (hI h 79 15), .int (hI h 83 x2.toNatClampNeg)]) (h1 := h) (P := (ak 79 = 0 ∧ cx 79 = 12) ∧ True) (by decide +kernel) rfl ⟨⟨rfl, rfl⟩, trivial⟩ ?_
        refine q_icmp_ne (off := 12) (tgt := 46) (by decide +kernel) (by decide) (fun c_5 => ?_) (fun c_5 => ?_)
        · have e := it_f c_5 e
          refine sl_ok ok_R_wrong [.aload_n 0, .iload_n 1, .putfield 140, .aload_n 0, .iload_n 3, .putfield 143] (pc1 := 56) (ls1 := [some (.ref 79), some (.int x1), some (.int x2), some (.int (hI h 83 x2.toNatClampNeg))]) (st1 := []) (h1 := (sI (sI h 79 14 x1) 79 15 (hI h 83 x2.toNatClampNeg))) (P := (ak 79 = 0 ∧ cx 79 = 12) ∧ (ak 79 = 0 ∧ cx 79 = 12) ∧ True) (by decide +kernel) rfl ⟨⟨rfl, rfl⟩, ⟨rfl, rfl⟩, trivial⟩ ?_
          cases e
          exact q_vret rfl k.1 k.2 (by decide +kernel)
        · have e := it_t c_5 e
          refine sl_ok ok_R_wrong [.iload_n 1, .aload_n 0, .getfield 140] (pc1 := 42) (ls1 := [some (.ref 79), some (.int x1), some (.int x2), some (.int (hI h 83 x2.toNatClampNeg))]) (st1 := [.int (hI h 79 14), .int x1]) (h1 := h) (P := (ak 79 = 0 ∧ cx 79 = 12) ∧ True) (by decide +kernel) rfl ⟨⟨rfl, rfl⟩, trivial⟩ ?_
          refine q_icmp_lt (off := 4) (tgt := 46) (by decide +kernel) (by decide) (fun c_6 => ?_) (fun c_6 => ?_)
          · have e := it_t c_6 e
            refine sl_ok ok_R_wrong [.aload_n 0, .iload_n 1, .putfield 140, .aload_n 0, .iload_n 3, .putfield 143] (pc1 := 56) (ls1 := [some (.ref 79), some (.int x1), some (.int x2), some (.int (hI h 83 x2.toNatClampNeg))]) (st1 := []) (h1 := (sI (sI h 79 14 x1) 79 15 (hI h 83 x2.toNatClampNeg))) (P := (ak 79 = 0 ∧ cx 79 = 12) ∧ (ak 79 = 0 ∧ cx 79 = 12) ∧ True) (by decide +kernel) rfl ⟨⟨rfl, rfl⟩, ⟨rfl, rfl⟩, trivial⟩ ?_
            cases e
            exact q_vret rfl k.1 k.2 (by decide +kernel)
          · have e := it_f c_6 e
            cases e
            exact q_vret rfl k.1 k.2 (by decide +kernel)
theorem s_R_wrong {E : pE} {x1 : Int32} {x2 : Int32} {h : pH}  {v : pH} (e : f_R_wrong x1 x2 h = some v) : Ct E M_R_wrong [.ref 79, .int x1, .int x2] h none v :=
  Ct_of ok_R_wrong [some (.ref 79), some (.int x1), some (.int x2), none] (Nat.le_of_ble_eq_true rfl) rfl (b_R_wrong  e ⟨rfl, rfl⟩)
def f_R_meansPoint_J4 (x2 : Int32) (x3 : Int32) (x4 : Int32) (t0 : Int32) (t1 : Int32) (h : pH) : Option ((Int32 × Int32 × pH) ⊕ pH) :=
  if t1 < 0 ∨ 28 ≤ t1.toNatClampNeg then none else
  if x3 < 0 ∨ 403 ≤ x3.toNatClampNeg then none else
  if (hI (sI h 88 t1.toNatClampNeg t0) 84 x3.toNatClampNeg) ≤ 50 then
    some (.inl ((x3 + 1), (x4 + 1), (sI h 88 t1.toNatClampNeg t0)))
  else
    (f_R_wrong (5 : Int32) x3 (sI h 88 t1.toNatClampNeg t0)).bind fun v_4 =>
    if x2 < 0 ∨ 12 ≤ x2.toNatClampNeg then none else
    some (.inl ((x3 + 1), (x4 + 1), (sI v_4 90 x2.toNatClampNeg (vp_nar .boolean 0))))
set_option maxHeartbeats 4000000 in
theorem b_R_meansPoint_J4 {E : pE} {r : Option Value} {hr : pH} {x2 : Int32} {x3 : Int32} {x4 : Int32} {t0 : Int32} {t1 : Int32} {h : pH}  {b : ((Int32 × Int32 × pH) ⊕ pH)} (e : f_R_meansPoint_J4 x2 x3 x4 t0 t1 h = some b) (k : (Sum.elim (fun s : (Int32 × Int32 × pH) => Go E M_R_meansPoint 78 [some (.ref 79), none, some (.int x2), some (.int s.1), some (.int s.2.1), none] [] s.2.2 r hr) (fun v : pH => r = none ∧ hr = v)) b) : Go E M_R_meansPoint 142 [some (.ref 79), none, some (.int x2), some (.int x3), some (.int x4), none] [.int t0, .int t1, .ref 88] h r hr := by
  unfold f_R_meansPoint_J4 at e
  obtain ⟨g_1, e⟩ := it_g e
  obtain ⟨g_2, e⟩ := it_g e
  refine sl_ok ok_R_meansPoint [.iastore, .aload_n 0, .getfield 27, .iload_n 3, .iaload, .bipush 50] (pc1 := 151) (ls1 := [some (.ref 79), none, some (.int x2), some (.int x3), some (.int x4), none]) (st1 := [.int 50, .int (hI (sI h 88 t1.toNatClampNeg t0) 84 x3.toNatClampNeg)]) (h1 := (sI h 88 t1.toNatClampNeg t0)) (P := (ak 88 = 1 ∧ ¬ (t1 < 0 ∨ cx 88 ≤ t1.toNatClampNeg)) ∧ (ak 79 = 0 ∧ cx 79 = 12) ∧ (ak 84 = 1 ∧ ¬ (x3 < 0 ∨ cx 84 ≤ x3.toNatClampNeg)) ∧ True) (by decide +kernel) rfl ⟨⟨rfl, g_1⟩, ⟨rfl, rfl⟩, ⟨rfl, g_2⟩, trivial⟩ ?_
  refine q_icmp_le (off := 16) (tgt := 167) (by decide +kernel) (by decide) (fun c_3 => ?_) (fun c_3 => ?_)
  · have e := it_t c_3 e
    refine sl_ok ok_R_meansPoint [.iinc 3 1, .iinc 4 1] (pc1 := 173) (ls1 := [some (.ref 79), none, some (.int x2), some (.int (x3 + 1)), some (.int (x4 + 1)), none]) (st1 := []) (h1 := (sI h 88 t1.toNatClampNeg t0)) (P := True) (by decide +kernel) rfl trivial ?_
    refine q_goto (off := -95) (tgt := 78) (by decide) (by decide +kernel) ?_
    cases e
    exact k
  · have e := it_f c_3 e
    refine sl_ok ok_R_meansPoint [.aload_n 0, .iconst 5, .iload_n 3] (pc1 := 157) (ls1 := [some (.ref 79), none, some (.int x2), some (.int x3), some (.int x4), none]) (st1 := [.int x3, .int 5, .ref 79]) (h1 := (sI h 88 t1.toNatClampNeg t0)) (P := True) (by decide +kernel) rfl trivial ?_
    obtain ⟨v_4, e_5, e⟩ := bi_s e
    refine q_callV ok_R_wrong (as := [.int 5, .int x3]) (st := []) ⟨wd_124, wd_125, wd_126, wd_7, ds_R_wrong, Nat.le_of_ble_eq_true rfl, Nat.le_of_ble_eq_true rfl⟩ (s_R_wrong  e_5) rfl ⟨rfl, rfl⟩ (ci := 12) rfl (fun v hv => by cases hv) (Nat.le_of_ble_eq_true rfl) (by decide +kernel) rfl ?_
    obtain ⟨g_6, e⟩ := it_g e
    refine sl_ok ok_R_meansPoint [.aload_n 0, .getfield 49, .iload_n 2, .iconst 0, .bastore, .iinc 3 1, .iinc 4 1] (pc1 := 173) (ls1 := [some (.ref 79), none, some (.int x2), some (.int (x3 + 1)), some (.int (x4 + 1)), none]) (st1 := []) (h1 := (sI v_4 90 x2.toNatClampNeg (vp_nar .boolean 0))) (P := (ak 79 = 0 ∧ cx 79 = 12) ∧ (¬ (x2 < 0 ∨ cx 90 ≤ x2.toNatClampNeg)) ∧ True) (by decide +kernel) rfl ⟨⟨rfl, rfl⟩, g_6, trivial⟩ ?_
    refine q_goto (off := -95) (tgt := 78) (by decide) (by decide +kernel) ?_
    cases e
    exact k
def f_R_meansPoint_J3 (x2 : Int32) (x3 : Int32) (x4 : Int32) (x5 : Int32) (h : pH) : Option ((Int32 × Int32 × pH) ⊕ pH) :=
  if x5 = 0 then
    if x3 < 0 ∨ 403 ≤ x3.toNatClampNeg then none else
    f_R_meansPoint_J4 x2 x3 x4 (hI h 84 x3.toNatClampNeg) ((2 + (2 * x2)) + x4) h
  else
    if x3 < 0 ∨ 403 ≤ x3.toNatClampNeg then none else
    f_R_meansPoint_J4 x2 x3 x4 (-(hI h 84 x3.toNatClampNeg)) ((2 + (2 * x2)) + x4) h
set_option maxHeartbeats 4000000 in
theorem b_R_meansPoint_J3 {E : pE} {r : Option Value} {hr : pH} {x2 : Int32} {x3 : Int32} {x4 : Int32} {x5 : Int32} {h : pH}  {b : ((Int32 × Int32 × pH) ⊕ pH)} (e : f_R_meansPoint_J3 x2 x3 x4 x5 h = some b) (k : (Sum.elim (fun s : (Int32 × Int32 × pH) => Go E M_R_meansPoint 78 [some (.ref 79), none, some (.int x2), some (.int s.1), some (.int s.2.1), none] [] s.2.2 r hr) (fun v : pH => r = none ∧ hr = v)) b) : Go E M_R_meansPoint 109 [some (.ref 79), none, some (.int x2), some (.int x3), some (.int x4), some (.int x5)] [] h r hr := by
  unfold f_R_meansPoint_J3 at e
  refine sl_ok ok_R_meansPoint [.aload_n 0, .getfield 43, .iconst 2, .iconst 2, .iload_n 2, .imul, .iadd, .iload 4, .iadd, .iload 5] (pc1 := 123) (ls1 := [some (.ref 79), none, some (.int x2), some (.int x3), some (.int x4), some (.int x5)]) (st1 := [.int x5, .int ((2 + (2 * x2)) + x4), .ref 88]) (h1 := h) (P := (ak 79 = 0 ∧ cx 79 = 12) ∧ True) (by decide +kernel) rfl ⟨⟨rfl, rfl⟩, trivial⟩ ?_
  refine q_if_eq (off := 13) (tgt := 136) (by decide +kernel) (by decide) (fun c_1 => ?_) (fun c_1 => ?_)
  · have e := it_t c_1 e
    obtain ⟨g_2, e⟩ := it_g e
    refine sl_ok ok_R_meansPoint [.aload_n 0, .getfield 27, .iload_n 3, .iaload] (pc1 := 142) (ls1 := [some (.ref 79), none, some (.int x2), some (.int x3), some (.int x4), some (.int x5)]) (st1 := [.int (hI h 84 x3.toNatClampNeg), .int ((2 + (2 * x2)) + x4), .ref 88]) (h1 := h) (P := (ak 79 = 0 ∧ cx 79 = 12) ∧ (ak 84 = 1 ∧ ¬ (x3 < 0 ∨ cx 84 ≤ x3.toNatClampNeg)) ∧ True) (by decide +kernel) rfl ⟨⟨rfl, rfl⟩, ⟨rfl, g_2⟩, trivial⟩ ?_
    refine Go.sb [some (.ref 79), none, some (.int x2), some (.int x3), some (.int x4), none] (And.intro rfl (And.intro rfl (And.intro rfl (And.intro rfl trivial)))) ?_
    exact b_R_meansPoint_J4  e k
  · have e := it_f c_1 e
    obtain ⟨g_3, e⟩ := it_g e
    refine sl_ok ok_R_meansPoint [.aload_n 0, .getfield 27, .iload_n 3, .iaload, .ineg] (pc1 := 133) (ls1 := [some (.ref 79), none, some (.int x2), some (.int x3), some (.int x4), some (.int x5)]) (st1 := [.int (-(hI h 84 x3.toNatClampNeg)), .int ((2 + (2 * x2)) + x4), .ref 88]) (h1 := h) (P := (ak 79 = 0 ∧ cx 79 = 12) ∧ (ak 84 = 1 ∧ ¬ (x3 < 0 ∨ cx 84 ≤ x3.toNatClampNeg)) ∧ True) (by decide +kernel) rfl ⟨⟨rfl, rfl⟩, ⟨rfl, g_3⟩, trivial⟩ ?_
    refine q_goto (off := 9) (tgt := 142) (by decide) (by decide +kernel) ?_
    refine Go.sb [some (.ref 79), none, some (.int x2), some (.int x3), some (.int x4), none] (And.intro rfl (And.intro rfl (And.intro rfl (And.intro rfl trivial)))) ?_
    exact b_R_meansPoint_J4  e k
def f_R_meansPoint_L5 (x2 : Int32) (x3 : Int32) (x4 : Int32) (h : pH) : Option ((Int32 × pH) ⊕ pH) :=
  if x2 ≤ x4 then
    some (.inr (sI h 88 0 ((hI h 88 0) + 1)))
  else
    if x4 < 0 ∨ 12 ≤ x4.toNatClampNeg then none else
    if (hI h 90 x4.toNatClampNeg) = 0 then
      some (.inl ((x4 + 1), h))
    else
      if (2 + (2 * x4)) < 0 ∨ 28 ≤ (2 + (2 * x4)).toNatClampNeg then none else
      if (2 + (2 * x2)) < 0 ∨ 28 ≤ (2 + (2 * x2)).toNatClampNeg then none else
      if (hI h 88 (2 + (2 * x4)).toNatClampNeg) = (hI h 88 (2 + (2 * x2)).toNatClampNeg) then
        if ((2 + (2 * x4)) + 1) < 0 ∨ 28 ≤ ((2 + (2 * x4)) + 1).toNatClampNeg then none else
        if ((2 + (2 * x2)) + 1) < 0 ∨ 28 ≤ ((2 + (2 * x2)) + 1).toNatClampNeg then none else
        if (hI h 88 ((2 + (2 * x4)) + 1).toNatClampNeg) = (hI h 88 ((2 + (2 * x2)) + 1).toNatClampNeg) then
          (f_R_wrong (3 : Int32) (x3 - 1) h).bind fun v_10 =>
          if x2 < 0 ∨ 12 ≤ x2.toNatClampNeg then none else
          some (.inl ((x4 + 1), (sI v_10 90 x2.toNatClampNeg (vp_nar .boolean 0))))
        else
          some (.inl ((x4 + 1), h))
      else
        some (.inl ((x4 + 1), h))
set_option maxHeartbeats 4000000 in
theorem b_R_meansPoint_L5 {E : pE} {r : Option Value} {hr : pH} {x2 : Int32} {x3 : Int32} {x4 : Int32} {h : pH}  {b : ((Int32 × pH) ⊕ pH)} (e : f_R_meansPoint_L5 x2 x3 x4 h = some b) (k : (Sum.elim (fun s : (Int32 × pH) => Go E M_R_meansPoint 179 [some (.ref 79), none, some (.int x2), some (.int x3), some (.int s.1), none] [] s.2 r hr) (fun v : pH => r = none ∧ hr = v)) b) : Go E M_R_meansPoint 179 [some (.ref 79), none, some (.int x2), some (.int x3), some (.int x4), none] [] h r hr := by
  unfold f_R_meansPoint_L5 at e
  refine sl_ok ok_R_meansPoint [.iload 4, .iload_n 2] (pc1 := 182) (ls1 := [some (.ref 79), none, some (.int x2), some (.int x3), some (.int x4), none]) (st1 := [.int x2, .int x4]) (h1 := h) (P := True) (by decide +kernel) rfl trivial ?_
  refine q_icmp_ge (off := 89) (tgt := 271) (by decide +kernel) (by decide) (fun c_1 => ?_) (fun c_1 => ?_)
  · have e := it_t c_1 e
    refine sl_ok ok_R_meansPoint [.aload_n 0, .getfield 43, .iconst 0, .dup2, .iaload, .iconst 1, .iadd, .iastore] (pc1 := 281) (ls1 := [some (.ref 79), none, some (.int x2), some (.int x3), some (.int x4), none]) (st1 := []) (h1 := (sI h 88 0 ((hI h 88 0) + 1))) (P := (ak 79 = 0 ∧ cx 79 = 12) ∧ (ak 88 = 1 ∧ ¬ ((0 : Int32) < 0 ∨ cx 88 ≤ (0 : Int32).toNatClampNeg)) ∧ (ak 88 = 1 ∧ ¬ ((0 : Int32) < 0 ∨ cx 88 ≤ (0 : Int32).toNatClampNeg)) ∧ True) (by decide +kernel) rfl ⟨⟨rfl, rfl⟩, ⟨rfl, (by decide)⟩, ⟨rfl, (by decide)⟩, trivial⟩ ?_
    cases e
    exact q_vret rfl k.1 k.2 (by decide +kernel)
  · have e := it_f c_1 e
    obtain ⟨g_2, e⟩ := it_g e
    refine sl_ok ok_R_meansPoint [.aload_n 0, .getfield 49, .iload 4, .baload] (pc1 := 192) (ls1 := [some (.ref 79), none, some (.int x2), some (.int x3), some (.int x4), none]) (st1 := [.int (hI h 90 x4.toNatClampNeg)]) (h1 := h) (P := (ak 79 = 0 ∧ cx 79 = 12) ∧ ((ak 90 = 2 ∨ ak 90 = 3) ∧ ¬ (x4 < 0 ∨ cx 90 ≤ x4.toNatClampNeg)) ∧ True) (by decide +kernel) rfl ⟨⟨rfl, rfl⟩, ⟨Or.inr rfl, g_2⟩, trivial⟩ ?_
    refine q_if_eq (off := 73) (tgt := 265) (by decide +kernel) (by decide) (fun c_3 => ?_) (fun c_3 => ?_)
    · have e := it_t c_3 e
      refine sl_ok ok_R_meansPoint [.iinc 4 1] (pc1 := 268) (ls1 := [some (.ref 79), none, some (.int x2), some (.int x3), some (.int (x4 + 1)), none]) (st1 := []) (h1 := h) (P := True) (by decide +kernel) rfl trivial ?_
      refine q_goto (off := -89) (tgt := 179) (by decide) (by decide +kernel) ?_
      cases e
      exact k
    · have e := it_f c_3 e
      obtain ⟨g_4, e⟩ := it_g e
      obtain ⟨g_5, e⟩ := it_g e
      refine sl_ok ok_R_meansPoint [.aload_n 0, .getfield 43, .iconst 2, .iconst 2, .iload 4, .imul, .iadd, .iaload, .aload_n 0, .getfield 43, .iconst 2, .iconst 2, .iload_n 2, .imul, .iadd, .iaload] (pc1 := 216) (ls1 := [some (.ref 79), none, some (.int x2), some (.int x3), some (.int x4), none]) (st1 := [.int (hI h 88 (2 + (2 * x2)).toNatClampNeg), .int (hI h 88 (2 + (2 * x4)).toNatClampNeg)]) (h1 := h) (P := (ak 79 = 0 ∧ cx 79 = 12) ∧ (ak 88 = 1 ∧ ¬ ((2 + (2 * x4)) < 0 ∨ cx 88 ≤ (2 + (2 * x4)).toNatClampNeg)) ∧ (ak 79 = 0 ∧ cx 79 = 12) ∧ (ak 88 = 1 ∧ ¬ ((2 + (2 * x2)) < 0 ∨ cx 88 ≤ (2 + (2 * x2)).toNatClampNeg)) ∧ True) (by decide +kernel) rfl ⟨⟨rfl, rfl⟩, ⟨rfl, g_4⟩, ⟨rfl, rfl⟩, ⟨rfl, g_5⟩, trivial⟩ ?_
      refine q_icmp_ne (off := 49) (tgt := 265) (by decide +kernel) (by decide) (fun c_6 => ?_) (fun c_6 => ?_)
      · have e := it_f c_6 e
        refine sl_ok ok_R_meansPoint [.iinc 4 1] (pc1 := 268) (ls1 := [some (.ref 79), none, some (.int x2), some (.int x3), some (.int (x4 + 1)), none]) (st1 := []) (h1 := h) (P := True) (by decide +kernel) rfl trivial ?_
        refine q_goto (off := -89) (tgt := 179) (by decide) (by decide +kernel) ?_
        cases e
        exact k
      · have e := it_t c_6 e
        obtain ⟨g_7, e⟩ := it_g e
        obtain ⟨g_8, e⟩ := it_g e
        refine sl_ok ok_R_meansPoint [.aload_n 0, .getfield 43, .iconst 2, .iconst 2, .iload 4, .imul, .iadd, .iconst 1, .iadd, .iaload, .aload_n 0, .getfield 43, .iconst 2, .iconst 2, .iload_n 2, .imul, .iadd, .iconst 1, .iadd, .iaload] (pc1 := 244) (ls1 := [some (.ref 79), none, some (.int x2), some (.int x3), some (.int x4), none]) (st1 := [.int (hI h 88 ((2 + (2 * x2)) + 1).toNatClampNeg), .int (hI h 88 ((2 + (2 * x4)) + 1).toNatClampNeg)]) (h1 := h) (P := (ak 79 = 0 ∧ cx 79 = 12) ∧ (ak 88 = 1 ∧ ¬ (((2 + (2 * x4)) + 1) < 0 ∨ cx 88 ≤ ((2 + (2 * x4)) + 1).toNatClampNeg)) ∧ (ak 79 = 0 ∧ cx 79 = 12) ∧ (ak 88 = 1 ∧ ¬ (((2 + (2 * x2)) + 1) < 0 ∨ cx 88 ≤ ((2 + (2 * x2)) + 1).toNatClampNeg)) ∧ True) (by decide +kernel) rfl ⟨⟨rfl, rfl⟩, ⟨rfl, g_7⟩, ⟨rfl, rfl⟩, ⟨rfl, g_8⟩, trivial⟩ ?_
        refine q_icmp_eq (off := 6) (tgt := 250) (by decide +kernel) (by decide) (fun c_9 => ?_) (fun c_9 => ?_)
        · have e := it_t c_9 e
          refine sl_ok ok_R_meansPoint [.aload_n 0, .iconst 3, .iload_n 3, .iconst 1, .isub] (pc1 := 255) (ls1 := [some (.ref 79), none, some (.int x2), some (.int x3), some (.int x4), none]) (st1 := [.int (x3 - 1), .int 3, .ref 79]) (h1 := h) (P := True) (by decide +kernel) rfl trivial ?_
          obtain ⟨v_10, e_11, e⟩ := bi_s e
          refine q_callV ok_R_wrong (as := [.int 3, .int (x3 - 1)]) (st := []) ⟨wd_124, wd_125, wd_126, wd_7, ds_R_wrong, Nat.le_of_ble_eq_true rfl, Nat.le_of_ble_eq_true rfl⟩ (s_R_wrong  e_11) rfl ⟨rfl, rfl⟩ (ci := 12) rfl (fun v hv => by cases hv) (Nat.le_of_ble_eq_true rfl) (by decide +kernel) rfl ?_
          obtain ⟨g_12, e⟩ := it_g e
          refine sl_ok ok_R_meansPoint [.aload_n 0, .getfield 49, .iload_n 2, .iconst 0, .bastore, .iinc 4 1] (pc1 := 268) (ls1 := [some (.ref 79), none, some (.int x2), some (.int x3), some (.int (x4 + 1)), none]) (st1 := []) (h1 := (sI v_10 90 x2.toNatClampNeg (vp_nar .boolean 0))) (P := (ak 79 = 0 ∧ cx 79 = 12) ∧ (¬ (x2 < 0 ∨ cx 90 ≤ x2.toNatClampNeg)) ∧ True) (by decide +kernel) rfl ⟨⟨rfl, rfl⟩, g_12, trivial⟩ ?_
          refine q_goto (off := -89) (tgt := 179) (by decide) (by decide +kernel) ?_
          cases e
          exact k
        · have e := it_f c_9 e
          refine q_goto (off := 18) (tgt := 265) (by decide) (by decide +kernel) ?_
          refine sl_ok ok_R_meansPoint [.iinc 4 1] (pc1 := 268) (ls1 := [some (.ref 79), none, some (.int x2), some (.int x3), some (.int (x4 + 1)), none]) (st1 := []) (h1 := h) (P := True) (by decide +kernel) rfl trivial ?_
          refine q_goto (off := -89) (tgt := 179) (by decide) (by decide +kernel) ?_
          cases e
          exact k
def f_R_meansPoint_L2 (x2 : Int32) (x3 : Int32) (x4 : Int32) (h : pH) : Option ((Int32 × Int32 × pH) ⊕ pH) :=
  if 2 ≤ x4 then
    mi (lp (fun s => f_R_meansPoint_L5 x2 x3 s.1 s.2) lpN (0, h))
  else
    if x3 < 0 ∨ 403 ≤ x3.toNatClampNeg then none else
    if (hI h 82 x3.toNatClampNeg) = 5 then
      if (1 : Int32) = 0 then
        f_R_meansPoint_J3 x2 x3 x4 1 h
      else
        f_R_meansPoint_J3 x2 (x3 + 1) x4 1 h
    else
      if (0 : Int32) = 0 then
        f_R_meansPoint_J3 x2 x3 x4 0 h
      else
        f_R_meansPoint_J3 x2 (x3 + 1) x4 0 h
set_option maxHeartbeats 4000000 in
theorem b_R_meansPoint_L2 {E : pE} {r : Option Value} {hr : pH} {x2 : Int32} {x3 : Int32} {x4 : Int32} {h : pH}  {b : ((Int32 × Int32 × pH) ⊕ pH)} (e : f_R_meansPoint_L2 x2 x3 x4 h = some b) (k : (Sum.elim (fun s : (Int32 × Int32 × pH) => Go E M_R_meansPoint 78 [some (.ref 79), none, some (.int x2), some (.int s.1), some (.int s.2.1), none] [] s.2.2 r hr) (fun v : pH => r = none ∧ hr = v)) b) : Go E M_R_meansPoint 78 [some (.ref 79), none, some (.int x2), some (.int x3), some (.int x4), none] [] h r hr := by
  unfold f_R_meansPoint_L2 at e
  refine sl_ok ok_R_meansPoint [.iload 4, .iconst 2] (pc1 := 81) (ls1 := [some (.ref 79), none, some (.int x2), some (.int x3), some (.int x4), none]) (st1 := [.int 2, .int x4]) (h1 := h) (P := True) (by decide +kernel) rfl trivial ?_
  refine q_icmp_ge (off := 95) (tgt := 176) (by decide +kernel) (by decide) (fun c_1 => ?_) (fun c_1 => ?_)
  · have e := it_t c_1 e
    refine sl_ok ok_R_meansPoint [.iconst 0, .istore 4] (pc1 := 179) (ls1 := [some (.ref 79), none, some (.int x2), some (.int x3), some (.int 0), none]) (st1 := []) (h1 := h) (P := True) (by decide +kernel) rfl trivial ?_
    obtain ⟨_, e9, rfl⟩ := mi_s e
    have e := e9
    exact lp_in e (fun s => Go E M_R_meansPoint 179 [some (.ref 79), none, some (.int x2), some (.int x3), some (.int s.1), none] [] s.2 r hr) (fun v : pH => r = none ∧ hr = v) (fun _ _ e k => b_R_meansPoint_L5  e k) k
  · have e := it_f c_1 e
    obtain ⟨g_2, e⟩ := it_g e
    refine sl_ok ok_R_meansPoint [.aload_n 0, .getfield 20, .iload_n 3, .iaload, .iconst 5] (pc1 := 91) (ls1 := [some (.ref 79), none, some (.int x2), some (.int x3), some (.int x4), none]) (st1 := [.int 5, .int (hI h 82 x3.toNatClampNeg)]) (h1 := h) (P := (ak 79 = 0 ∧ cx 79 = 12) ∧ (ak 82 = 1 ∧ ¬ (x3 < 0 ∨ cx 82 ≤ x3.toNatClampNeg)) ∧ True) (by decide +kernel) rfl ⟨⟨rfl, rfl⟩, ⟨rfl, g_2⟩, trivial⟩ ?_
    refine q_icmp_ne (off := 7) (tgt := 98) (by decide +kernel) (by decide) (fun c_3 => ?_) (fun c_3 => ?_)
    · have e := it_f c_3 e
      refine sl_ok ok_R_meansPoint [.iconst 0, .istore 5, .iload 5] (pc1 := 103) (ls1 := [some (.ref 79), none, some (.int x2), some (.int x3), some (.int x4), some (.int 0)]) (st1 := [.int 0]) (h1 := h) (P := True) (by decide +kernel) rfl trivial ?_
      refine q_if_eq (off := 6) (tgt := 109) (by decide +kernel) (by decide) (fun c_4 => ?_) (fun c_4 => ?_)
      · have e := it_t c_4 e
        exact b_R_meansPoint_J3  e k
      · have e := it_f c_4 e
        refine sl_ok ok_R_meansPoint [.iinc 3 1] (pc1 := 109) (ls1 := [some (.ref 79), none, some (.int x2), some (.int (x3 + 1)), some (.int x4), some (.int 0)]) (st1 := []) (h1 := h) (P := True) (by decide +kernel) rfl trivial ?_
        exact b_R_meansPoint_J3  e k
    · have e := it_t c_3 e
      refine sl_ok ok_R_meansPoint [.iconst 1] (pc1 := 95) (ls1 := [some (.ref 79), none, some (.int x2), some (.int x3), some (.int x4), none]) (st1 := [.int 1]) (h1 := h) (P := True) (by decide +kernel) rfl trivial ?_
      refine q_goto (off := 4) (tgt := 99) (by decide) (by decide +kernel) ?_
      refine sl_ok ok_R_meansPoint [.istore 5, .iload 5] (pc1 := 103) (ls1 := [some (.ref 79), none, some (.int x2), some (.int x3), some (.int x4), some (.int 1)]) (st1 := [.int 1]) (h1 := h) (P := True) (by decide +kernel) rfl trivial ?_
      refine q_if_eq (off := 6) (tgt := 109) (by decide +kernel) (by decide) (fun c_5 => ?_) (fun c_5 => ?_)
      · have e := it_t c_5 e
        exact b_R_meansPoint_J3  e k
      · have e := it_f c_5 e
        refine sl_ok ok_R_meansPoint [.iinc 3 1] (pc1 := 109) (ls1 := [some (.ref 79), none, some (.int x2), some (.int (x3 + 1)), some (.int x4), some (.int 1)]) (st1 := []) (h1 := h) (P := True) (by decide +kernel) rfl trivial ?_
        exact b_R_meansPoint_J3  e k
def f_R_meansPoint_L1 (x1 : Int32) (x2 : Int32) (x3 : Int32) (h : pH) : Option ((Int32 × pH) ⊕ pH) :=
  if x2 ≤ x3 then
    if x1 < 0 ∨ 403 ≤ x1.toNatClampNeg then none else
    if x2 < 0 ∨ 12 ≤ x2.toNatClampNeg then none else
    mi (lp (fun s => f_R_meansPoint_L2 x2 s.1 s.2.1 s.2.2) lpN ((x1 + 1), 0, (sL h 89 x2.toNatClampNeg (hL h 85 x1.toNatClampNeg))))
  else
    if x3 < 0 ∨ 12 ≤ x3.toNatClampNeg then none else
    if x1 < 0 ∨ 403 ≤ x1.toNatClampNeg then none else
    if (lg_cmp (hL h 89 x3.toNatClampNeg) (hL h 85 x1.toNatClampNeg)) = 0 then
      (f_R_wrong (3 : Int32) x1 h).bind fun v_7 =>
      if x2 < 0 ∨ 12 ≤ x2.toNatClampNeg then none else
      some (.inl ((x3 + 1), (sI v_7 90 x2.toNatClampNeg (vp_nar .boolean 0))))
    else
      some (.inl ((x3 + 1), h))
set_option maxHeartbeats 4000000 in
theorem b_R_meansPoint_L1 {E : pE} {r : Option Value} {hr : pH} {x1 : Int32} {x2 : Int32} {x3 : Int32} {h : pH}  {b : ((Int32 × pH) ⊕ pH)} (e : f_R_meansPoint_L1 x1 x2 x3 h = some b) (k : (Sum.elim (fun s : (Int32 × pH) => Go E M_R_meansPoint 16 [some (.ref 79), some (.int x1), some (.int x2), some (.int s.1), none, none] [] s.2 r hr) (fun v : pH => r = none ∧ hr = v)) b) : Go E M_R_meansPoint 16 [some (.ref 79), some (.int x1), some (.int x2), some (.int x3), none, none] [] h r hr := by
  unfold f_R_meansPoint_L1 at e
  refine sl_ok ok_R_meansPoint [.iload_n 3, .iload_n 2] (pc1 := 18) (ls1 := [some (.ref 79), some (.int x1), some (.int x2), some (.int x3), none, none]) (st1 := [.int x2, .int x3]) (h1 := h) (P := True) (by decide +kernel) rfl trivial ?_
  refine q_icmp_ge (off := 41) (tgt := 59) (by decide +kernel) (by decide) (fun c_1 => ?_) (fun c_1 => ?_)
  · have e := it_t c_1 e
    obtain ⟨g_2, e⟩ := it_g e
    obtain ⟨g_3, e⟩ := it_g e
    refine sl_ok ok_R_meansPoint [.aload_n 0, .getfield 46, .iload_n 2, .aload_n 0, .getfield 30, .iload_n 1, .laload, .lastore, .iload_n 1, .iconst 1, .iadd, .istore_n 3, .iconst 0, .istore 4] (pc1 := 78) (ls1 := [some (.ref 79), some (.int x1), some (.int x2), some (.int (x1 + 1)), some (.int 0), none]) (st1 := []) (h1 := (sL h 89 x2.toNatClampNeg (hL h 85 x1.toNatClampNeg))) (P := (ak 79 = 0 ∧ cx 79 = 12) ∧ (ak 79 = 0 ∧ cx 79 = 12) ∧ (ak 85 = 4 ∧ ¬ (x1 < 0 ∨ cx 85 ≤ x1.toNatClampNeg)) ∧ (ak 89 = 4 ∧ ¬ (x2 < 0 ∨ cx 89 ≤ x2.toNatClampNeg)) ∧ True) (by decide +kernel) rfl ⟨⟨rfl, rfl⟩, ⟨rfl, rfl⟩, ⟨rfl, g_2⟩, ⟨rfl, g_3⟩, trivial⟩ ?_
    refine Go.sb [some (.ref 79), none, some (.int x2), some (.int (x1 + 1)), some (.int 0), none] (And.intro rfl (And.intro rfl (And.intro rfl (And.intro rfl trivial)))) ?_
    obtain ⟨_, e9, rfl⟩ := mi_s e
    have e := e9
    exact lp_in e (fun s => Go E M_R_meansPoint 78 [some (.ref 79), none, some (.int x2), some (.int s.1), some (.int s.2.1), none] [] s.2.2 r hr) (fun v : pH => r = none ∧ hr = v) (fun _ _ e k => b_R_meansPoint_L2  e k) k
  · have e := it_f c_1 e
    obtain ⟨g_4, e⟩ := it_g e
    obtain ⟨g_5, e⟩ := it_g e
    refine sl_ok ok_R_meansPoint [.aload_n 0, .getfield 46, .iload_n 3, .laload, .aload_n 0, .getfield 30, .iload_n 1, .laload, .lcmp] (pc1 := 34) (ls1 := [some (.ref 79), some (.int x1), some (.int x2), some (.int x3), none, none]) (st1 := [.int (lg_cmp (hL h 89 x3.toNatClampNeg) (hL h 85 x1.toNatClampNeg))]) (h1 := h) (P := (ak 79 = 0 ∧ cx 79 = 12) ∧ (ak 89 = 4 ∧ ¬ (x3 < 0 ∨ cx 89 ≤ x3.toNatClampNeg)) ∧ (ak 79 = 0 ∧ cx 79 = 12) ∧ (ak 85 = 4 ∧ ¬ (x1 < 0 ∨ cx 85 ≤ x1.toNatClampNeg)) ∧ True) (by decide +kernel) rfl ⟨⟨rfl, rfl⟩, ⟨rfl, g_4⟩, ⟨rfl, rfl⟩, ⟨rfl, g_5⟩, trivial⟩ ?_
    refine q_if_eq (off := 6) (tgt := 40) (by decide +kernel) (by decide) (fun c_6 => ?_) (fun c_6 => ?_)
    · have e := it_t c_6 e
      refine sl_ok ok_R_meansPoint [.aload_n 0, .iconst 3, .iload_n 1] (pc1 := 43) (ls1 := [some (.ref 79), some (.int x1), some (.int x2), some (.int x3), none, none]) (st1 := [.int x1, .int 3, .ref 79]) (h1 := h) (P := True) (by decide +kernel) rfl trivial ?_
      obtain ⟨v_7, e_8, e⟩ := bi_s e
      refine q_callV ok_R_wrong (as := [.int 3, .int x1]) (st := []) ⟨wd_124, wd_125, wd_126, wd_7, ds_R_wrong, Nat.le_of_ble_eq_true rfl, Nat.le_of_ble_eq_true rfl⟩ (s_R_wrong  e_8) rfl ⟨rfl, rfl⟩ (ci := 12) rfl (fun v hv => by cases hv) (Nat.le_of_ble_eq_true rfl) (by decide +kernel) rfl ?_
      obtain ⟨g_9, e⟩ := it_g e
      refine sl_ok ok_R_meansPoint [.aload_n 0, .getfield 49, .iload_n 2, .iconst 0, .bastore, .iinc 3 1] (pc1 := 56) (ls1 := [some (.ref 79), some (.int x1), some (.int x2), some (.int (x3 + 1)), none, none]) (st1 := []) (h1 := (sI v_7 90 x2.toNatClampNeg (vp_nar .boolean 0))) (P := (ak 79 = 0 ∧ cx 79 = 12) ∧ (¬ (x2 < 0 ∨ cx 90 ≤ x2.toNatClampNeg)) ∧ True) (by decide +kernel) rfl ⟨⟨rfl, rfl⟩, g_9, trivial⟩ ?_
      refine q_goto (off := -40) (tgt := 16) (by decide) (by decide +kernel) ?_
      cases e
      exact k
    · have e := it_f c_6 e
      refine q_goto (off := 16) (tgt := 53) (by decide) (by decide +kernel) ?_
      refine sl_ok ok_R_meansPoint [.iinc 3 1] (pc1 := 56) (ls1 := [some (.ref 79), some (.int x1), some (.int x2), some (.int (x3 + 1)), none, none]) (st1 := []) (h1 := h) (P := True) (by decide +kernel) rfl trivial ?_
      refine q_goto (off := -40) (tgt := 16) (by decide) (by decide +kernel) ?_
      cases e
      exact k
def f_R_meansPoint (x1 : Int32) (h : pH) : Option pH :=
  if (hI h 88 0) < 0 ∨ 12 ≤ (hI h 88 0).toNatClampNeg then none else
  lp (fun s => f_R_meansPoint_L1 x1 (hI h 88 0) s.1 s.2) lpN (0, (sI h 90 (hI h 88 0).toNatClampNeg (vp_nar .boolean 1)))
set_option maxHeartbeats 4000000 in
theorem b_R_meansPoint {E : pE} {r : Option Value} {hr : pH} {x1 : Int32} {h : pH}  {b : pH} (e : f_R_meansPoint x1 h = some b) (k : (fun v : pH => r = none ∧ hr = v) b) : Go E M_R_meansPoint 0 [some (.ref 79), some (.int x1), none, none, none, none] [] h r hr := by
  unfold f_R_meansPoint at e
  obtain ⟨g_1, e⟩ := it_g e
  refine sl_ok ok_R_meansPoint [.aload_n 0, .getfield 43, .iconst 0, .iaload, .istore_n 2, .aload_n 0, .getfield 49, .iload_n 2, .iconst 1, .bastore, .iconst 0, .istore_n 3] (pc1 := 16) (ls1 := [some (.ref 79), some (.int x1), some (.int (hI h 88 0)), some (.int 0), none, none]) (st1 := []) (h1 := (sI h 90 (hI h 88 0).toNatClampNeg (vp_nar .boolean 1))) (P := (ak 79 = 0 ∧ cx 79 = 12) ∧ (ak 88 = 1 ∧ ¬ ((0 : Int32) < 0 ∨ cx 88 ≤ (0 : Int32).toNatClampNeg)) ∧ (ak 79 = 0 ∧ cx 79 = 12) ∧ (¬ ((hI h 88 0) < 0 ∨ cx 90 ≤ (hI h 88 0).toNatClampNeg)) ∧ True) (by decide +kernel) rfl ⟨⟨rfl, rfl⟩, ⟨rfl, (by decide)⟩, ⟨rfl, rfl⟩, g_1, trivial⟩ ?_
  exact lp_in e (fun s => Go E M_R_meansPoint 16 [some (.ref 79), some (.int x1), some (.int (hI h 88 0)), some (.int s.1), none, none] [] s.2 r hr) (fun v : pH => r = none ∧ hr = v) (fun _ _ e k => b_R_meansPoint_L1  e k) k
theorem s_R_meansPoint {E : pE} {x1 : Int32} {h : pH}  {v : pH} (e : f_R_meansPoint x1 h = some v) : Ct E M_R_meansPoint [.ref 79, .int x1] h none v :=
  Ct_of ok_R_meansPoint [some (.ref 79), some (.int x1), none, none, none, none] (Nat.le_of_ble_eq_true rfl) rfl (b_R_meansPoint  e ⟨rfl, rfl⟩)
def f_R_in (x0 : Int32) (x1 : Int32) (x2 : Int32) : Int32 :=
  if x0 < x1 then
    0
  else
    if x2 < x0 then
      0
    else
      1
set_option maxHeartbeats 4000000 in
theorem b_R_in {E : pE} {r : Option Value} {hr : pH} {x0 : Int32} {x1 : Int32} {x2 : Int32} {h : pH}  {b : Int32} (e : f_R_in x0 x1 x2 = b) (k : (fun v : Int32 => r = some (.int v) ∧ hr = h) b) : Go E M_R_in 0 [some (.int x0), some (.int x1), some (.int x2)] [] h r hr := by
  unfold f_R_in at e
  refine sl_ok ok_R_in [.iload_n 0, .iload_n 1] (pc1 := 2) (ls1 := [some (.int x0), some (.int x1), some (.int x2)]) (st1 := [.int x1, .int x0]) (h1 := h) (P := True) (by decide +kernel) rfl trivial ?_
  refine q_icmp_lt (off := 12) (tgt := 14) (by decide +kernel) (by decide) (fun c_1 => ?_) (fun c_1 => ?_)
  · have e := it_t c_1 e
    refine sl_ok ok_R_in [.iconst 0] (pc1 := 15) (ls1 := [some (.int x0), some (.int x1), some (.int x2)]) (st1 := [.int 0]) (h1 := h) (P := True) (by decide +kernel) rfl trivial ?_
    cases e
    exact q_zret rfl (Or.inl rfl) k.1 k.2 (by decide +kernel)
  · have e := it_f c_1 e
    refine sl_ok ok_R_in [.iload_n 0, .iload_n 2] (pc1 := 7) (ls1 := [some (.int x0), some (.int x1), some (.int x2)]) (st1 := [.int x2, .int x0]) (h1 := h) (P := True) (by decide +kernel) rfl trivial ?_
    refine q_icmp_gt (off := 7) (tgt := 14) (by decide +kernel) (by decide) (fun c_2 => ?_) (fun c_2 => ?_)
    · have e := it_t c_2 e
      refine sl_ok ok_R_in [.iconst 0] (pc1 := 15) (ls1 := [some (.int x0), some (.int x1), some (.int x2)]) (st1 := [.int 0]) (h1 := h) (P := True) (by decide +kernel) rfl trivial ?_
      cases e
      exact q_zret rfl (Or.inl rfl) k.1 k.2 (by decide +kernel)
    · have e := it_f c_2 e
      refine sl_ok ok_R_in [.iconst 1] (pc1 := 11) (ls1 := [some (.int x0), some (.int x1), some (.int x2)]) (st1 := [.int 1]) (h1 := h) (P := True) (by decide +kernel) rfl trivial ?_
      refine q_goto (off := 4) (tgt := 15) (by decide) (by decide +kernel) ?_
      cases e
      exact q_zret rfl (Or.inr rfl) k.1 k.2 (by decide +kernel)
theorem s_R_in {E : pE} {x0 : Int32} {x1 : Int32} {x2 : Int32} {h : pH}  : Ct E M_R_in [.int x0, .int x1, .int x2] h (some (.int (f_R_in x0 x1 x2))) h :=
  Ct_of ok_R_in [some (.int x0), some (.int x1), some (.int x2)] (Nat.le_of_ble_eq_true rfl) rfl (b_R_in  rfl ⟨rfl, rfl⟩)
theorem z_R_in {x0 x1 x2 : Int32} : f_R_in x0 x1 x2 = 0 ∨ f_R_in x0 x1 x2 = 1 := by
  unfold f_R_in
  repeat' split
  all_goals simp
def f_R_means_J3 (x1 : Int32) (h : pH) : Option ((Int32 × pH) ⊕ pH) :=
  if x1 < 0 ∨ 403 ≤ x1.toNatClampNeg then none else
  if (hI h 82 x1.toNatClampNeg) = 21 then
    if (x1 + 1) < 0 ∨ 403 ≤ (x1 + 1).toNatClampNeg then none else
    if (f_R_in (hI (sI h 88 1 (hI h 84 (x1 + 1).toNatClampNeg)) 84 (x1 + 1).toNatClampNeg) (1 : Int32) (20 : Int32)) = 0 then
      (f_R_wrong (5 : Int32) (x1 + 1) (sI h 88 1 (hI h 84 (x1 + 1).toNatClampNeg))).bind fun v_5 =>
      some (.inl ((x1 + 1), v_5))
    else
      some (.inl ((x1 + 1), (sI h 88 1 (hI h 84 (x1 + 1).toNatClampNeg))))
  else
    some (.inl ((x1 + 1), h))
set_option maxHeartbeats 4000000 in
theorem b_R_means_J3 {E : pE} {r : Option Value} {hr : pH} {x1 : Int32} {h : pH}  {b : ((Int32 × pH) ⊕ pH)} (e : f_R_means_J3 x1 h = some b) (k : (Sum.elim (fun s : (Int32 × pH) => Go E M_R_means 31 [some (.ref 79), some (.int s.1)] [] s.2 r hr) (fun v : pH => r = none ∧ hr = v)) b) : Go E M_R_means 57 [some (.ref 79), some (.int x1)] [] h r hr := by
  unfold f_R_means_J3 at e
  obtain ⟨g_1, e⟩ := it_g e
  refine sl_ok ok_R_means [.aload_n 0, .getfield 20, .iload_n 1, .iaload, .bipush 21] (pc1 := 65) (ls1 := [some (.ref 79), some (.int x1)]) (st1 := [.int 21, .int (hI h 82 x1.toNatClampNeg)]) (h1 := h) (P := (ak 79 = 0 ∧ cx 79 = 12) ∧ (ak 82 = 1 ∧ ¬ (x1 < 0 ∨ cx 82 ≤ x1.toNatClampNeg)) ∧ True) (by decide +kernel) rfl ⟨⟨rfl, rfl⟩, ⟨rfl, g_1⟩, trivial⟩ ?_
  refine q_icmp_eq (off := 6) (tgt := 71) (by decide +kernel) (by decide) (fun c_2 => ?_) (fun c_2 => ?_)
  · have e := it_t c_2 e
    obtain ⟨g_3, e⟩ := it_g e
    refine sl_ok ok_R_means [.aload_n 0, .getfield 43, .iconst 1, .aload_n 0, .getfield 27, .iload_n 1, .iconst 1, .iadd, .iaload, .iastore, .aload_n 0, .getfield 27, .iload_n 1, .iconst 1, .iadd, .iaload, .iconst 1, .bipush 20] (pc1 := 96) (ls1 := [some (.ref 79), some (.int x1)]) (st1 := [.int 20, .int 1, .int (hI (sI h 88 1 (hI h 84 (x1 + 1).toNatClampNeg)) 84 (x1 + 1).toNatClampNeg)]) (h1 := (sI h 88 1 (hI h 84 (x1 + 1).toNatClampNeg))) (P := (ak 79 = 0 ∧ cx 79 = 12) ∧ (ak 79 = 0 ∧ cx 79 = 12) ∧ (ak 84 = 1 ∧ ¬ ((x1 + 1) < 0 ∨ cx 84 ≤ (x1 + 1).toNatClampNeg)) ∧ (ak 88 = 1 ∧ ¬ ((1 : Int32) < 0 ∨ cx 88 ≤ (1 : Int32).toNatClampNeg)) ∧ (ak 79 = 0 ∧ cx 79 = 12) ∧ (ak 84 = 1 ∧ ¬ ((x1 + 1) < 0 ∨ cx 84 ≤ (x1 + 1).toNatClampNeg)) ∧ True) (by decide +kernel) rfl ⟨⟨rfl, rfl⟩, ⟨rfl, rfl⟩, ⟨rfl, g_3⟩, ⟨rfl, (by decide)⟩, ⟨rfl, rfl⟩, ⟨rfl, g_3⟩, trivial⟩ ?_
    refine q_callS ok_R_in (as := [.int (hI (sI h 88 1 (hI h 84 (x1 + 1).toNatClampNeg)) 84 (x1 + 1).toNatClampNeg), .int 1, .int 20]) (st := []) ⟨wd_127, wd_128, wd_7, ds_R_in, Nat.le_of_ble_eq_true rfl, Nat.le_of_ble_eq_true rfl⟩ (s_R_in ) rfl (fun v hv => by cases hv; rfl) (Nat.le_of_ble_eq_true rfl) (by decide +kernel) rfl ?_
    refine q_if_ne (off := 11) (tgt := 110) (by decide +kernel) (by decide) (fun c_4 => ?_) (fun c_4 => ?_)
    · have e := it_f c_4 e
      refine sl_ok ok_R_means [.iinc 1 1] (pc1 := 113) (ls1 := [some (.ref 79), some (.int (x1 + 1))]) (st1 := []) (h1 := (sI h 88 1 (hI h 84 (x1 + 1).toNatClampNeg))) (P := True) (by decide +kernel) rfl trivial ?_
      refine q_goto (off := -82) (tgt := 31) (by decide) (by decide +kernel) ?_
      cases e
      exact k
    · have e := it_t c_4 e
      refine sl_ok ok_R_means [.aload_n 0, .iconst 5, .iload_n 1, .iconst 1, .iadd] (pc1 := 107) (ls1 := [some (.ref 79), some (.int x1)]) (st1 := [.int (x1 + 1), .int 5, .ref 79]) (h1 := (sI h 88 1 (hI h 84 (x1 + 1).toNatClampNeg))) (P := True) (by decide +kernel) rfl trivial ?_
      obtain ⟨v_5, e_6, e⟩ := bi_s e
      refine q_callV ok_R_wrong (as := [.int 5, .int (x1 + 1)]) (st := []) ⟨wd_124, wd_125, wd_126, wd_7, ds_R_wrong, Nat.le_of_ble_eq_true rfl, Nat.le_of_ble_eq_true rfl⟩ (s_R_wrong  e_6) rfl ⟨rfl, rfl⟩ (ci := 12) rfl (fun v hv => by cases hv) (Nat.le_of_ble_eq_true rfl) (by decide +kernel) rfl ?_
      refine sl_ok ok_R_means [.iinc 1 1] (pc1 := 113) (ls1 := [some (.ref 79), some (.int (x1 + 1))]) (st1 := []) (h1 := v_5) (P := True) (by decide +kernel) rfl trivial ?_
      refine q_goto (off := -82) (tgt := 31) (by decide) (by decide +kernel) ?_
      cases e
      exact k
  · have e := it_f c_2 e
    refine q_goto (off := 42) (tgt := 110) (by decide) (by decide +kernel) ?_
    refine sl_ok ok_R_means [.iinc 1 1] (pc1 := 113) (ls1 := [some (.ref 79), some (.int (x1 + 1))]) (st1 := []) (h1 := h) (P := True) (by decide +kernel) rfl trivial ?_
    refine q_goto (off := -82) (tgt := 31) (by decide) (by decide +kernel) ?_
    cases e
    exact k
def f_R_means_L2 (x1 : Int32) (h : pH) : Option ((Int32 × pH) ⊕ pH) :=
  if (hI h 79 10) ≤ x1 then
    some (.inr h)
  else
    if x1 < 0 ∨ 403 ≤ x1.toNatClampNeg then none else
    if (hI h 82 x1.toNatClampNeg) = 20 then
      (f_R_meansPoint (x1 + 1) h).bind fun v_4 =>
      f_R_means_J3 x1 v_4
    else
      f_R_means_J3 x1 h
set_option maxHeartbeats 4000000 in
theorem b_R_means_L2 {E : pE} {r : Option Value} {hr : pH} {x1 : Int32} {h : pH}  {b : ((Int32 × pH) ⊕ pH)} (e : f_R_means_L2 x1 h = some b) (k : (Sum.elim (fun s : (Int32 × pH) => Go E M_R_means 31 [some (.ref 79), some (.int s.1)] [] s.2 r hr) (fun v : pH => r = none ∧ hr = v)) b) : Go E M_R_means 31 [some (.ref 79), some (.int x1)] [] h r hr := by
  unfold f_R_means_L2 at e
  refine sl_ok ok_R_means [.iload_n 1, .aload_n 0, .getfield 109] (pc1 := 36) (ls1 := [some (.ref 79), some (.int x1)]) (st1 := [.int (hI h 79 10), .int x1]) (h1 := h) (P := (ak 79 = 0 ∧ cx 79 = 12) ∧ True) (by decide +kernel) rfl ⟨⟨rfl, rfl⟩, trivial⟩ ?_
  refine q_icmp_ge (off := 80) (tgt := 116) (by decide +kernel) (by decide) (fun c_1 => ?_) (fun c_1 => ?_)
  · have e := it_t c_1 e
    cases e
    exact q_vret rfl k.1 k.2 (by decide +kernel)
  · have e := it_f c_1 e
    obtain ⟨g_2, e⟩ := it_g e
    refine sl_ok ok_R_means [.aload_n 0, .getfield 20, .iload_n 1, .iaload, .bipush 20] (pc1 := 47) (ls1 := [some (.ref 79), some (.int x1)]) (st1 := [.int 20, .int (hI h 82 x1.toNatClampNeg)]) (h1 := h) (P := (ak 79 = 0 ∧ cx 79 = 12) ∧ (ak 82 = 1 ∧ ¬ (x1 < 0 ∨ cx 82 ≤ x1.toNatClampNeg)) ∧ True) (by decide +kernel) rfl ⟨⟨rfl, rfl⟩, ⟨rfl, g_2⟩, trivial⟩ ?_
    refine q_icmp_ne (off := 10) (tgt := 57) (by decide +kernel) (by decide) (fun c_3 => ?_) (fun c_3 => ?_)
    · have e := it_f c_3 e
      exact b_R_means_J3  e k
    · have e := it_t c_3 e
      refine sl_ok ok_R_means [.aload_n 0, .iload_n 1, .iconst 1, .iadd] (pc1 := 54) (ls1 := [some (.ref 79), some (.int x1)]) (st1 := [.int (x1 + 1), .ref 79]) (h1 := h) (P := True) (by decide +kernel) rfl trivial ?_
      obtain ⟨v_4, e_5, e⟩ := bi_s e
      refine q_callV ok_R_meansPoint (as := [.int (x1 + 1)]) (st := []) ⟨wd_129, wd_130, wd_131, wd_7, ds_R_meansPoint, Nat.le_of_ble_eq_true rfl, Nat.le_of_ble_eq_true rfl⟩ (s_R_meansPoint  e_5) rfl ⟨rfl, rfl⟩ (ci := 12) rfl (fun v hv => by cases hv) (Nat.le_of_ble_eq_true rfl) (by decide +kernel) rfl ?_
      exact b_R_means_J3  e k
def f_R_means_L1 (x1 : Int32) (h : pH) : Option ((Int32 × pH) ⊕ pH) :=
  if 26 ≤ x1 then
    mi (lp (fun s => f_R_means_L2 s.1 s.2) lpN (0, (sI h 88 1 10)))
  else
    if x1 < 0 ∨ 28 ≤ x1.toNatClampNeg then none else
    some (.inl ((x1 + 1), (sI h 88 x1.toNatClampNeg 0)))
set_option maxHeartbeats 4000000 in
theorem b_R_means_L1 {E : pE} {r : Option Value} {hr : pH} {x1 : Int32} {h : pH}  {b : ((Int32 × pH) ⊕ pH)} (e : f_R_means_L1 x1 h = some b) (k : (Sum.elim (fun s : (Int32 × pH) => Go E M_R_means 2 [some (.ref 79), some (.int s.1)] [] s.2 r hr) (fun v : pH => r = none ∧ hr = v)) b) : Go E M_R_means 2 [some (.ref 79), some (.int x1)] [] h r hr := by
  unfold f_R_means_L1 at e
  refine sl_ok ok_R_means [.iload_n 1, .bipush 26] (pc1 := 5) (ls1 := [some (.ref 79), some (.int x1)]) (st1 := [.int 26, .int x1]) (h1 := h) (P := True) (by decide +kernel) rfl trivial ?_
  refine q_icmp_ge (off := 16) (tgt := 21) (by decide +kernel) (by decide) (fun c_1 => ?_) (fun c_1 => ?_)
  · have e := it_t c_1 e
    refine sl_ok ok_R_means [.aload_n 0, .getfield 43, .iconst 1, .bipush 10, .iastore, .iconst 0, .istore_n 1] (pc1 := 31) (ls1 := [some (.ref 79), some (.int 0)]) (st1 := []) (h1 := (sI h 88 1 10)) (P := (ak 79 = 0 ∧ cx 79 = 12) ∧ (ak 88 = 1 ∧ ¬ ((1 : Int32) < 0 ∨ cx 88 ≤ (1 : Int32).toNatClampNeg)) ∧ True) (by decide +kernel) rfl ⟨⟨rfl, rfl⟩, ⟨rfl, (by decide)⟩, trivial⟩ ?_
    obtain ⟨_, e9, rfl⟩ := mi_s e
    have e := e9
    exact lp_in e (fun s => Go E M_R_means 31 [some (.ref 79), some (.int s.1)] [] s.2 r hr) (fun v : pH => r = none ∧ hr = v) (fun _ _ e k => b_R_means_L2  e k) k
  · have e := it_f c_1 e
    obtain ⟨g_2, e⟩ := it_g e
    refine sl_ok ok_R_means [.aload_n 0, .getfield 43, .iload_n 1, .iconst 0, .iastore, .iinc 1 1] (pc1 := 18) (ls1 := [some (.ref 79), some (.int (x1 + 1))]) (st1 := []) (h1 := (sI h 88 x1.toNatClampNeg 0)) (P := (ak 79 = 0 ∧ cx 79 = 12) ∧ (ak 88 = 1 ∧ ¬ (x1 < 0 ∨ cx 88 ≤ x1.toNatClampNeg)) ∧ True) (by decide +kernel) rfl ⟨⟨rfl, rfl⟩, ⟨rfl, g_2⟩, trivial⟩ ?_
    refine q_goto (off := -16) (tgt := 2) (by decide) (by decide +kernel) ?_
    cases e
    exact k
def f_R_means (h : pH) : Option pH :=
  lp (fun s => f_R_means_L1 s.1 s.2) lpN (0, h)
set_option maxHeartbeats 4000000 in
theorem b_R_means {E : pE} {r : Option Value} {hr : pH} {h : pH}  {b : pH} (e : f_R_means h = some b) (k : (fun v : pH => r = none ∧ hr = v) b) : Go E M_R_means 0 [some (.ref 79), none] [] h r hr := by
  unfold f_R_means at e
  refine sl_ok ok_R_means [.iconst 0, .istore_n 1] (pc1 := 2) (ls1 := [some (.ref 79), some (.int 0)]) (st1 := []) (h1 := h) (P := True) (by decide +kernel) rfl trivial ?_
  exact lp_in e (fun s => Go E M_R_means 2 [some (.ref 79), some (.int s.1)] [] s.2 r hr) (fun v : pH => r = none ∧ hr = v) (fun _ _ e k => b_R_means_L1  e k) k
theorem s_R_means {E : pE} {h : pH}  {v : pH} (e : f_R_means h = some v) : Ct E M_R_means [.ref 79] h none v :=
  Ct_of ok_R_means [some (.ref 79), none] (Nat.le_of_ble_eq_true rfl) rfl (b_R_means  e ⟨rfl, rfl⟩)
def f_R_read_L7 (x1 : Int32) (h : pH) : Option ((Int32 × pH) ⊕ (Int32 × pH)) :=
  if 3 ≤ x1 then
    some (.inr (0, h))
  else
    if x1 < 0 ∨ 3 ≤ x1.toNatClampNeg then none else
    some (.inl ((x1 + 1), (sI h 93 x1.toNatClampNeg (vp_nar .boolean 0))))
set_option maxHeartbeats 4000000 in
theorem b_R_read_L7 {E : pE} {r : Option Value} {hr : pH} {x1 : Int32} {h : pH}  {b : ((Int32 × pH) ⊕ (Int32 × pH))} (e : f_R_read_L7 x1 h = some b) (k : (Sum.elim (fun s : (Int32 × pH) => Go E M_R_read 188 [some (.ref 79), some (.int s.1)] [] s.2 r hr) (fun v : (Int32 × pH) => r = some (.int v.1) ∧ hr = v.2)) b) : Go E M_R_read 188 [some (.ref 79), some (.int x1)] [] h r hr := by
  unfold f_R_read_L7 at e
  refine sl_ok ok_R_read [.iload_n 1, .iconst 3] (pc1 := 190) (ls1 := [some (.ref 79), some (.int x1)]) (st1 := [.int 3, .int x1]) (h1 := h) (P := True) (by decide +kernel) rfl trivial ?_
  refine q_icmp_ge (off := 16) (tgt := 206) (by decide +kernel) (by decide) (fun c_1 => ?_) (fun c_1 => ?_)
  · have e := it_t c_1 e
    refine sl_ok ok_R_read [.iconst 0] (pc1 := 207) (ls1 := [some (.ref 79), some (.int x1)]) (st1 := [.int 0]) (h1 := h) (P := True) (by decide +kernel) rfl trivial ?_
    cases e
    exact q_iret rfl k.1 k.2 (by decide +kernel)
  · have e := it_f c_1 e
    obtain ⟨g_2, e⟩ := it_g e
    refine sl_ok ok_R_read [.aload_n 0, .getfield 59, .iload_n 1, .iconst 0, .bastore, .iinc 1 1] (pc1 := 203) (ls1 := [some (.ref 79), some (.int (x1 + 1))]) (st1 := []) (h1 := (sI h 93 x1.toNatClampNeg (vp_nar .boolean 0))) (P := (ak 79 = 0 ∧ cx 79 = 12) ∧ (¬ (x1 < 0 ∨ cx 93 ≤ x1.toNatClampNeg)) ∧ True) (by decide +kernel) rfl ⟨⟨rfl, rfl⟩, g_2, trivial⟩ ?_
    refine q_goto (off := -15) (tgt := 188) (by decide) (by decide +kernel) ?_
    cases e
    exact k
def f_R_read_L6 (x1 : Int32) (h : pH) : Option ((Int32 × pH) ⊕ (Int32 × pH)) :=
  if 26 ≤ x1 then
    mi (lp (fun s => f_R_read_L7 s.1 s.2) lpN (0, (sI h 79 24 0)))
  else
    if x1 < 0 ∨ 28 ≤ x1.toNatClampNeg then none else
    some (.inl ((x1 + 1), (sI h 87 x1.toNatClampNeg (hI h 88 x1.toNatClampNeg))))
set_option maxHeartbeats 4000000 in
theorem b_R_read_L6 {E : pE} {r : Option Value} {hr : pH} {x1 : Int32} {h : pH}  {b : ((Int32 × pH) ⊕ (Int32 × pH))} (e : f_R_read_L6 x1 h = some b) (k : (Sum.elim (fun s : (Int32 × pH) => Go E M_R_read 157 [some (.ref 79), some (.int s.1)] [] s.2 r hr) (fun v : (Int32 × pH) => r = some (.int v.1) ∧ hr = v.2)) b) : Go E M_R_read 157 [some (.ref 79), some (.int x1)] [] h r hr := by
  unfold f_R_read_L6 at e
  refine sl_ok ok_R_read [.iload_n 1, .bipush 26] (pc1 := 160) (ls1 := [some (.ref 79), some (.int x1)]) (st1 := [.int 26, .int x1]) (h1 := h) (P := True) (by decide +kernel) rfl trivial ?_
  refine q_icmp_ge (off := 21) (tgt := 181) (by decide +kernel) (by decide) (fun c_1 => ?_) (fun c_1 => ?_)
  · have e := it_t c_1 e
    refine sl_ok ok_R_read [.aload_n 0, .iconst 0, .putfield 167, .iconst 0, .istore_n 1] (pc1 := 188) (ls1 := [some (.ref 79), some (.int 0)]) (st1 := []) (h1 := (sI h 79 24 0)) (P := (ak 79 = 0 ∧ cx 79 = 12) ∧ True) (by decide +kernel) rfl ⟨⟨rfl, rfl⟩, trivial⟩ ?_
    obtain ⟨_, e9, rfl⟩ := mi_s e
    have e := e9
    exact lp_in e (fun s => Go E M_R_read 188 [some (.ref 79), some (.int s.1)] [] s.2 r hr) (fun v : (Int32 × pH) => r = some (.int v.1) ∧ hr = v.2) (fun _ _ e k => b_R_read_L7  e k) k
  · have e := it_f c_1 e
    obtain ⟨g_2, e⟩ := it_g e
    refine sl_ok ok_R_read [.aload_n 0, .getfield 40, .iload_n 1, .aload_n 0, .getfield 43, .iload_n 1, .iaload, .iastore, .iinc 1 1] (pc1 := 178) (ls1 := [some (.ref 79), some (.int (x1 + 1))]) (st1 := []) (h1 := (sI h 87 x1.toNatClampNeg (hI h 88 x1.toNatClampNeg))) (P := (ak 79 = 0 ∧ cx 79 = 12) ∧ (ak 79 = 0 ∧ cx 79 = 12) ∧ (ak 88 = 1 ∧ ¬ (x1 < 0 ∨ cx 88 ≤ x1.toNatClampNeg)) ∧ (ak 87 = 1 ∧ ¬ (x1 < 0 ∨ cx 87 ≤ x1.toNatClampNeg)) ∧ True) (by decide +kernel) rfl ⟨⟨rfl, rfl⟩, ⟨rfl, rfl⟩, ⟨rfl, g_2⟩, ⟨rfl, g_2⟩, trivial⟩ ?_
    refine q_goto (off := -21) (tgt := 157) (by decide) (by decide +kernel) ?_
    cases e
    exact k
def f_R_read_J5 (t0 : Int32) (h : pH) : Option (Int32 × pH) :=
  if (hI (sI h 79 16 t0) 79 12) ≤ 0 then
    if (hI (sI h 79 16 t0) 79 14) ≤ 0 then
      lp (fun s => f_R_read_L6 s.1 s.2) lpN (0, (sI h 79 16 t0))
    else
      some ((hI (sI h 79 16 t0) 79 14), (sI h 79 16 t0))
  else
    some ((hI (sI h 79 16 t0) 79 12), (sI h 79 16 t0))
set_option maxHeartbeats 4000000 in
theorem b_R_read_J5 {E : pE} {r : Option Value} {hr : pH} {t0 : Int32} {h : pH}  {b : (Int32 × pH)} (e : f_R_read_J5 t0 h = some b) (k : (fun v : (Int32 × pH) => r = some (.int v.1) ∧ hr = v.2) b) : Go E M_R_read 128 [some (.ref 79), none] [.int t0, .ref 79] h r hr := by
  unfold f_R_read_J5 at e
  refine sl_ok ok_R_read [.putfield 37, .aload_n 0, .getfield 131] (pc1 := 135) (ls1 := [some (.ref 79), none]) (st1 := [.int (hI (sI h 79 16 t0) 79 12)]) (h1 := (sI h 79 16 t0)) (P := (ak 79 = 0 ∧ cx 79 = 12) ∧ (ak 79 = 0 ∧ cx 79 = 12) ∧ True) (by decide +kernel) rfl ⟨⟨rfl, rfl⟩, ⟨rfl, rfl⟩, trivial⟩ ?_
  refine q_if_le (off := 8) (tgt := 143) (by decide +kernel) (by decide) (fun c_1 => ?_) (fun c_1 => ?_)
  · have e := it_t c_1 e
    refine sl_ok ok_R_read [.aload_n 0, .getfield 140] (pc1 := 147) (ls1 := [some (.ref 79), none]) (st1 := [.int (hI (sI h 79 16 t0) 79 14)]) (h1 := (sI h 79 16 t0)) (P := (ak 79 = 0 ∧ cx 79 = 12) ∧ True) (by decide +kernel) rfl ⟨⟨rfl, rfl⟩, trivial⟩ ?_
    refine q_if_le (off := 8) (tgt := 155) (by decide +kernel) (by decide) (fun c_2 => ?_) (fun c_2 => ?_)
    · have e := it_t c_2 e
      refine sl_ok ok_R_read [.iconst 0, .istore_n 1] (pc1 := 157) (ls1 := [some (.ref 79), some (.int 0)]) (st1 := []) (h1 := (sI h 79 16 t0)) (P := True) (by decide +kernel) rfl trivial ?_
      exact lp_in e (fun s => Go E M_R_read 157 [some (.ref 79), some (.int s.1)] [] s.2 r hr) (fun v : (Int32 × pH) => r = some (.int v.1) ∧ hr = v.2) (fun _ _ e k => b_R_read_L6  e k) k
    · have e := it_f c_2 e
      refine sl_ok ok_R_read [.aload_n 0, .getfield 140] (pc1 := 154) (ls1 := [some (.ref 79), none]) (st1 := [.int (hI (sI h 79 16 t0) 79 14)]) (h1 := (sI h 79 16 t0)) (P := (ak 79 = 0 ∧ cx 79 = 12) ∧ True) (by decide +kernel) rfl ⟨⟨rfl, rfl⟩, trivial⟩ ?_
      cases e
      exact q_iret rfl k.1 k.2 (by decide +kernel)
  · have e := it_f c_1 e
    refine sl_ok ok_R_read [.aload_n 0, .getfield 131] (pc1 := 142) (ls1 := [some (.ref 79), none]) (st1 := [.int (hI (sI h 79 16 t0) 79 12)]) (h1 := (sI h 79 16 t0)) (P := (ak 79 = 0 ∧ cx 79 = 12) ∧ True) (by decide +kernel) rfl ⟨⟨rfl, rfl⟩, trivial⟩ ?_
    cases e
    exact q_iret rfl k.1 k.2 (by decide +kernel)
def f_R_read_J4 (h : pH) : Option (Int32 × pH) :=
  if (hI h 79 12) ≤ 0 then
    if (hI h 79 14) ≤ 0 then
      f_R_read_J5 (-1) h
    else
      f_R_read_J5 (hI h 79 15) h
  else
    f_R_read_J5 (hI h 79 13) h
set_option maxHeartbeats 4000000 in
theorem b_R_read_J4 {E : pE} {r : Option Value} {hr : pH} {h : pH}  {b : (Int32 × pH)} (e : f_R_read_J4 h = some b) (k : (fun v : (Int32 × pH) => r = some (.int v.1) ∧ hr = v.2) b) : Go E M_R_read 98 [some (.ref 79), none] [] h r hr := by
  unfold f_R_read_J4 at e
  refine sl_ok ok_R_read [.aload_n 0, .aload_n 0, .getfield 131] (pc1 := 103) (ls1 := [some (.ref 79), none]) (st1 := [.int (hI h 79 12), .ref 79]) (h1 := h) (P := (ak 79 = 0 ∧ cx 79 = 12) ∧ True) (by decide +kernel) rfl ⟨⟨rfl, rfl⟩, trivial⟩ ?_
  refine q_if_le (off := 10) (tgt := 113) (by decide +kernel) (by decide) (fun c_1 => ?_) (fun c_1 => ?_)
  · have e := it_t c_1 e
    refine sl_ok ok_R_read [.aload_n 0, .getfield 140] (pc1 := 117) (ls1 := [some (.ref 79), none]) (st1 := [.int (hI h 79 14), .ref 79]) (h1 := h) (P := (ak 79 = 0 ∧ cx 79 = 12) ∧ True) (by decide +kernel) rfl ⟨⟨rfl, rfl⟩, trivial⟩ ?_
    refine q_if_le (off := 10) (tgt := 127) (by decide +kernel) (by decide) (fun c_2 => ?_) (fun c_2 => ?_)
    · have e := it_t c_2 e
      refine sl_ok ok_R_read [.iconst (-1)] (pc1 := 128) (ls1 := [some (.ref 79), none]) (st1 := [.int (-1), .ref 79]) (h1 := h) (P := True) (by decide +kernel) rfl trivial ?_
      exact b_R_read_J5  e k
    · have e := it_f c_2 e
      refine sl_ok ok_R_read [.aload_n 0, .getfield 143] (pc1 := 124) (ls1 := [some (.ref 79), none]) (st1 := [.int (hI h 79 15), .ref 79]) (h1 := h) (P := (ak 79 = 0 ∧ cx 79 = 12) ∧ True) (by decide +kernel) rfl ⟨⟨rfl, rfl⟩, trivial⟩ ?_
      refine q_goto (off := 4) (tgt := 128) (by decide) (by decide +kernel) ?_
      exact b_R_read_J5  e k
  · have e := it_f c_1 e
    refine sl_ok ok_R_read [.aload_n 0, .getfield 137] (pc1 := 110) (ls1 := [some (.ref 79), none]) (st1 := [.int (hI h 79 13), .ref 79]) (h1 := h) (P := (ak 79 = 0 ∧ cx 79 = 12) ∧ True) (by decide +kernel) rfl ⟨⟨rfl, rfl⟩, trivial⟩ ?_
    refine q_goto (off := 18) (tgt := 128) (by decide) (by decide +kernel) ?_
    exact b_R_read_J5  e k
def f_R_read_J3 (h : pH) : Option (Int32 × pH) :=
  if (hI h 79 12) = 0 then
    (f_R_means h).bind fun v_2 =>
    f_R_read_J4 v_2
  else
    f_R_read_J4 h
set_option maxHeartbeats 4000000 in
theorem b_R_read_J3 {E : pE} {r : Option Value} {hr : pH} {h : pH}  {b : (Int32 × pH)} (e : f_R_read_J3 h = some b) (k : (fun v : (Int32 × pH) => r = some (.int v.1) ∧ hr = v.2) b) : Go E M_R_read 87 [some (.ref 79), none] [] h r hr := by
  unfold f_R_read_J3 at e
  refine sl_ok ok_R_read [.aload_n 0, .getfield 131] (pc1 := 91) (ls1 := [some (.ref 79), none]) (st1 := [.int (hI h 79 12)]) (h1 := h) (P := (ak 79 = 0 ∧ cx 79 = 12) ∧ True) (by decide +kernel) rfl ⟨⟨rfl, rfl⟩, trivial⟩ ?_
  refine q_if_ne (off := 7) (tgt := 98) (by decide +kernel) (by decide) (fun c_1 => ?_) (fun c_1 => ?_)
  · have e := it_f c_1 e
    exact b_R_read_J4  e k
  · have e := it_t c_1 e
    refine sl_ok ok_R_read [.aload_n 0] (pc1 := 95) (ls1 := [some (.ref 79), none]) (st1 := [.ref 79]) (h1 := h) (P := True) (by decide +kernel) rfl trivial ?_
    obtain ⟨v_2, e_3, e⟩ := bi_s e
    refine q_callV ok_R_means (as := []) (st := []) ⟨wd_135, wd_136, wd_137, wd_7, ds_R_means, Nat.le_of_ble_eq_true rfl, Nat.le_of_ble_eq_true rfl⟩ (s_R_means  e_3) rfl ⟨rfl, rfl⟩ (ci := 12) rfl (fun v hv => by cases hv) (Nat.le_of_ble_eq_true rfl) (by decide +kernel) rfl ?_
    exact b_R_read_J4  e k
def f_R_read_L2 (h : pH) : Option (pH ⊕ (Int32 × pH)) :=
  if (hI h 79 12) = 0 then
    (f_R_is (0 : Int32) h).bind fun v_2 =>
    if v_2 = 0 then
      (f_R_line h).bind fun v_5 =>
      some (.inl v_5)
    else
      mi (f_R_read_J3 h)
  else
    mi (f_R_read_J3 h)
set_option maxHeartbeats 4000000 in
theorem b_R_read_L2 {E : pE} {r : Option Value} {hr : pH} {h : pH}  {b : (pH ⊕ (Int32 × pH))} (e : f_R_read_L2 h = some b) (k : (Sum.elim (fun s : pH => Go E M_R_read 65 [some (.ref 79), none] [] s r hr) (fun v : (Int32 × pH) => r = some (.int v.1) ∧ hr = v.2)) b) : Go E M_R_read 65 [some (.ref 79), none] [] h r hr := by
  unfold f_R_read_L2 at e
  refine sl_ok ok_R_read [.aload_n 0, .getfield 131] (pc1 := 69) (ls1 := [some (.ref 79), none]) (st1 := [.int (hI h 79 12)]) (h1 := h) (P := (ak 79 = 0 ∧ cx 79 = 12) ∧ True) (by decide +kernel) rfl ⟨⟨rfl, rfl⟩, trivial⟩ ?_
  refine q_if_ne (off := 18) (tgt := 87) (by decide +kernel) (by decide) (fun c_1 => ?_) (fun c_1 => ?_)
  · have e := it_f c_1 e
    obtain ⟨_, e9, rfl⟩ := mi_s e
    have e := e9
    exact b_R_read_J3  e k
  · have e := it_t c_1 e
    refine sl_ok ok_R_read [.aload_n 0, .iconst 0] (pc1 := 74) (ls1 := [some (.ref 79), none]) (st1 := [.int 0, .ref 79]) (h1 := h) (P := True) (by decide +kernel) rfl trivial ?_
    obtain ⟨v_2, e_3, e⟩ := bi_s e
    refine q_callV ok_R_is (as := [.int 0]) (st := []) ⟨wd_112, wd_113, wd_114, wd_7, ds_R_is, Nat.le_of_ble_eq_true rfl, Nat.le_of_ble_eq_true rfl⟩ (s_R_is  e_3) rfl ⟨rfl, rfl⟩ (ci := 12) rfl (fun v hv => by cases hv; rfl) (Nat.le_of_ble_eq_true rfl) (by decide +kernel) rfl ?_
    refine q_if_ne (off := 10) (tgt := 87) (by decide +kernel) (by decide) (fun c_4 => ?_) (fun c_4 => ?_)
    · have e := it_f c_4 e
      obtain ⟨_, e9, rfl⟩ := mi_s e
      have e := e9
      exact b_R_read_J3  e k
    · have e := it_t c_4 e
      refine sl_ok ok_R_read [.aload_n 0] (pc1 := 81) (ls1 := [some (.ref 79), none]) (st1 := [.ref 79]) (h1 := h) (P := True) (by decide +kernel) rfl trivial ?_
      obtain ⟨v_5, e_6, e⟩ := bi_s e
      refine q_callV ok_R_line (as := []) (st := []) ⟨wd_138, wd_139, wd_140, wd_7, ds_R_line, Nat.le_of_ble_eq_true rfl, Nat.le_of_ble_eq_true rfl⟩ (s_R_line  e_6) rfl ⟨rfl, rfl⟩ (ci := 12) rfl (fun v hv => by cases hv) (Nat.le_of_ble_eq_true rfl) (by decide +kernel) rfl ?_
      refine q_goto (off := -19) (tgt := 65) (by decide) (by decide +kernel) ?_
      cases e
      exact k
def f_R_read_L1 (x1 : Int32) (h : pH) : Option ((Int32 × pH) ⊕ (Int32 × pH)) :=
  if (hI h 79 4) ≤ x1 then
    (f_R_cutsText (sI h 79 2 0)).bind fun v_2 =>
    mi (lp (fun s => f_R_read_L2 s) lpN (sI (sI (sI (sI v_2 79 11 0) 79 12 0) 79 14 0) 79 21 0))
  else
    if x1 < 0 ∨ 2000 ≤ x1.toNatClampNeg then none else
    some (.inl ((x1 + 1), (sI h 81 x1.toNatClampNeg (vp_nar .byte (hI h 80 x1.toNatClampNeg)))))
set_option maxHeartbeats 4000000 in
theorem b_R_read_L1 {E : pE} {r : Option Value} {hr : pH} {x1 : Int32} {h : pH}  {b : ((Int32 × pH) ⊕ (Int32 × pH))} (e : f_R_read_L1 x1 h = some b) (k : (Sum.elim (fun s : (Int32 × pH) => Go E M_R_read 10 [some (.ref 79), some (.int s.1)] [] s.2 r hr) (fun v : (Int32 × pH) => r = some (.int v.1) ∧ hr = v.2)) b) : Go E M_R_read 10 [some (.ref 79), some (.int x1)] [] h r hr := by
  unfold f_R_read_L1 at e
  refine sl_ok ok_R_read [.iload_n 1, .aload_n 0, .getfield 100] (pc1 := 15) (ls1 := [some (.ref 79), some (.int x1)]) (st1 := [.int (hI h 79 4), .int x1]) (h1 := h) (P := (ak 79 = 0 ∧ cx 79 = 12) ∧ True) (by decide +kernel) rfl ⟨⟨rfl, rfl⟩, trivial⟩ ?_
  refine q_icmp_ge (off := 21) (tgt := 36) (by decide +kernel) (by decide) (fun c_1 => ?_) (fun c_1 => ?_)
  · have e := it_t c_1 e
    refine sl_ok ok_R_read [.aload_n 0, .iconst 0, .putfield 93, .aload_n 0] (pc1 := 42) (ls1 := [some (.ref 79), some (.int x1)]) (st1 := [.ref 79]) (h1 := (sI h 79 2 0)) (P := (ak 79 = 0 ∧ cx 79 = 12) ∧ True) (by decide +kernel) rfl ⟨⟨rfl, rfl⟩, trivial⟩ ?_
    obtain ⟨v_2, e_3, e⟩ := bi_s e
    refine q_callV ok_R_cutsText (as := []) (st := []) ⟨wd_132, wd_133, wd_134, wd_7, ds_R_cutsText, Nat.le_of_ble_eq_true rfl, Nat.le_of_ble_eq_true rfl⟩ (s_R_cutsText  e_3) rfl ⟨rfl, rfl⟩ (ci := 12) rfl (fun v hv => by cases hv) (Nat.le_of_ble_eq_true rfl) (by decide +kernel) rfl ?_
    refine sl_ok ok_R_read [.aload_n 0, .iconst 0, .putfield 134, .aload_n 0, .iconst 0, .putfield 131, .aload_n 0, .iconst 0, .putfield 140, .aload_n 0, .iconst 0, .putfield 158] (pc1 := 65) (ls1 := [some (.ref 79), some (.int x1)]) (st1 := []) (h1 := (sI (sI (sI (sI v_2 79 11 0) 79 12 0) 79 14 0) 79 21 0)) (P := (ak 79 = 0 ∧ cx 79 = 12) ∧ (ak 79 = 0 ∧ cx 79 = 12) ∧ (ak 79 = 0 ∧ cx 79 = 12) ∧ (ak 79 = 0 ∧ cx 79 = 12) ∧ True) (by decide +kernel) rfl ⟨⟨rfl, rfl⟩, ⟨rfl, rfl⟩, ⟨rfl, rfl⟩, ⟨rfl, rfl⟩, trivial⟩ ?_
    refine Go.sb [some (.ref 79), none] (And.intro rfl trivial) ?_
    obtain ⟨_, e9, rfl⟩ := mi_s e
    have e := e9
    exact lp_in e (fun s => Go E M_R_read 65 [some (.ref 79), none] [] s r hr) (fun v : (Int32 × pH) => r = some (.int v.1) ∧ hr = v.2) (fun _ _ e k => b_R_read_L2  e k) k
  · have e := it_f c_1 e
    obtain ⟨g_4, e⟩ := it_g e
    refine sl_ok ok_R_read [.aload_n 0, .getfield 17, .iload_n 1, .aload_n 0, .getfield 13, .iload_n 1, .baload, .bastore, .iinc 1 1] (pc1 := 33) (ls1 := [some (.ref 79), some (.int (x1 + 1))]) (st1 := []) (h1 := (sI h 81 x1.toNatClampNeg (vp_nar .byte (hI h 80 x1.toNatClampNeg)))) (P := (ak 79 = 0 ∧ cx 79 = 12) ∧ (ak 79 = 0 ∧ cx 79 = 12) ∧ ((ak 80 = 2 ∨ ak 80 = 3) ∧ ¬ (x1 < 0 ∨ cx 80 ≤ x1.toNatClampNeg)) ∧ (¬ (x1 < 0 ∨ cx 81 ≤ x1.toNatClampNeg)) ∧ True) (by decide +kernel) rfl ⟨⟨rfl, rfl⟩, ⟨rfl, rfl⟩, ⟨Or.inl rfl, g_4⟩, g_4, trivial⟩ ?_
    refine q_goto (off := -23) (tgt := 10) (by decide) (by decide +kernel) ?_
    cases e
    exact k
def f_R_read (h : pH) : Option (Int32 × pH) :=
  lp (fun s => f_R_read_L1 s.1 s.2) lpN (0, (sI h 79 4 (hI h 79 2)))
set_option maxHeartbeats 4000000 in
theorem b_R_read {E : pE} {r : Option Value} {hr : pH} {h : pH}  {b : (Int32 × pH)} (e : f_R_read h = some b) (k : (fun v : (Int32 × pH) => r = some (.int v.1) ∧ hr = v.2) b) : Go E M_R_read 0 [some (.ref 79), none] [] h r hr := by
  unfold f_R_read at e
  refine sl_ok ok_R_read [.aload_n 0, .aload_n 0, .getfield 93, .putfield 100, .iconst 0, .istore_n 1] (pc1 := 10) (ls1 := [some (.ref 79), some (.int 0)]) (st1 := []) (h1 := (sI h 79 4 (hI h 79 2))) (P := (ak 79 = 0 ∧ cx 79 = 12) ∧ (ak 79 = 0 ∧ cx 79 = 12) ∧ True) (by decide +kernel) rfl ⟨⟨rfl, rfl⟩, ⟨rfl, rfl⟩, trivial⟩ ?_
  exact lp_in e (fun s => Go E M_R_read 10 [some (.ref 79), some (.int s.1)] [] s.2 r hr) (fun v : (Int32 × pH) => r = some (.int v.1) ∧ hr = v.2) (fun _ _ e k => b_R_read_L1  e k) k
theorem s_R_read {E : pE} {h : pH}  {v : (Int32 × pH)} (e : f_R_read h = some v) : Ct E M_R_read [.ref 79] h (some (.int v.1)) v.2 :=
  Ct_of ok_R_read [some (.ref 79), none] (Nat.le_of_ble_eq_true rfl) rfl (b_R_read  e ⟨rfl, rfl⟩)
def f_C_place (h : pH) : Int32 :=
  (hI h 3 1)
set_option maxHeartbeats 4000000 in
theorem b_C_place {E : pE} {r : Option Value} {hr : pH} {h : pH}  {b : Int32} (e : f_C_place h = b) (k : (fun v : Int32 => r = some (.int v) ∧ hr = h) b) : Go E M_C_place 0 [some (.ref 0)] [] h r hr := by
  unfold f_C_place at e
  refine sl_ok ok_C_place [.aload_n 0, .getfield 21, .getfield 117] (pc1 := 7) (ls1 := [some (.ref 0)]) (st1 := [.int (hI h 3 1)]) (h1 := h) (P := (ak 0 = 0 ∧ cx 0 = 11) ∧ (ak 3 = 0 ∧ cx 3 = 10) ∧ True) (by decide +kernel) rfl ⟨⟨rfl, rfl⟩, ⟨rfl, rfl⟩, trivial⟩ ?_
  cases e
  exact q_iret rfl k.1 k.2 (by decide +kernel)
theorem s_C_place {E : pE} {h : pH}  : Ct E M_C_place [.ref 0] h (some (.int (f_C_place h))) h :=
  Ct_of ok_C_place [some (.ref 0)] (Nat.le_of_ble_eq_true rfl) rfl (b_C_place  rfl ⟨rfl, rfl⟩)
def f_R_place (h : pH) : Int32 :=
  (hI h 79 16)
set_option maxHeartbeats 4000000 in
theorem b_R_place {E : pE} {r : Option Value} {hr : pH} {h : pH}  {b : Int32} (e : f_R_place h = b) (k : (fun v : Int32 => r = some (.int v) ∧ hr = h) b) : Go E M_R_place 0 [some (.ref 79)] [] h r hr := by
  unfold f_R_place at e
  refine sl_ok ok_R_place [.aload_n 0, .getfield 37] (pc1 := 4) (ls1 := [some (.ref 79)]) (st1 := [.int (hI h 79 16)]) (h1 := h) (P := (ak 79 = 0 ∧ cx 79 = 12) ∧ True) (by decide +kernel) rfl ⟨⟨rfl, rfl⟩, trivial⟩ ?_
  cases e
  exact q_iret rfl k.1 k.2 (by decide +kernel)
theorem s_R_place {E : pE} {h : pH}  : Ct E M_R_place [.ref 79] h (some (.int (f_R_place h))) h :=
  Ct_of ok_R_place [some (.ref 79)] (Nat.le_of_ble_eq_true rfl) rfl (b_R_place  rfl ⟨rfl, rfl⟩)
def f_Shelf_keep_L1 (o0 : Nat) (o2 : Nat) (o3 : Nat) (x4 : Int32) (h : pH) : Option ((Int32 × pH) ⊕ pH) :=
  if (hI h o2 2) ≤ x4 then
    some (.inr h)
  else
    if x4 < 0 ∨ 12 ≤ x4.toNatClampNeg then none else
    if (2 + (2 * x4)) < 0 ∨ 26 ≤ (2 + (2 * x4)).toNatClampNeg then none else
    if (3 + (2 * x4)) < 0 ∨ 26 ≤ (3 + (2 * x4)).toNatClampNeg then none else
    some (.inl ((x4 + 1), (sI (sI h o3 (2 + (2 * x4)).toNatClampNeg (hI h (rf o2 0) x4.toNatClampNeg)) o3 (3 + (2 * x4)).toNatClampNeg (hI (sI h o3 (2 + (2 * x4)).toNatClampNeg (hI h (rf o2 0) x4.toNatClampNeg)) (rf o2 1) x4.toNatClampNeg))))
set_option maxHeartbeats 4000000 in
theorem b_Shelf_keep_L1 {E : pE} {r : Option Value} {hr : pH} {o0 : Nat} {o2 : Nat} {o3 : Nat} {x4 : Int32} {h : pH} (ho0 : ak o0 = 0 ∧ cx o0 = 8) (ho2 : ak o2 = 0 ∧ cx o2 = 0) (ho3 : ak o3 = 1 ∧ cx o3 = 26) {b : ((Int32 × pH) ⊕ pH)} (e : f_Shelf_keep_L1 o0 o2 o3 x4 h = some b) (k : (Sum.elim (fun s : (Int32 × pH) => Go E M_Shelf_keep 37 [some (.ref o0), none, some (.ref o2), some (.ref o3), some (.int s.1)] [] s.2 r hr) (fun v : pH => r = none ∧ hr = v)) b) : Go E M_Shelf_keep 37 [some (.ref o0), none, some (.ref o2), some (.ref o3), some (.int x4)] [] h r hr := by
  unfold f_Shelf_keep_L1 at e
  refine sl_ok ok_Shelf_keep [.iload 4, .aload_n 2, .getfield 28] (pc1 := 43) (ls1 := [some (.ref o0), none, some (.ref o2), some (.ref o3), some (.int x4)]) (st1 := [.int (hI h o2 2), .int x4]) (h1 := h) (P := (ak o2 = 0 ∧ cx o2 = 0) ∧ True) (by decide +kernel) rfl ⟨ho2, trivial⟩ ?_
  refine q_icmp_ge (off := 39) (tgt := 82) (by decide +kernel) (by decide) (fun c_1 => ?_) (fun c_1 => ?_)
  · have e := it_t c_1 e
    cases e
    exact q_vret rfl k.1 k.2 (by decide +kernel)
  · have e := it_f c_1 e
    obtain ⟨g_2, e⟩ := it_g e
    obtain ⟨g_3, e⟩ := it_g e
    obtain ⟨g_4, e⟩ := it_g e
    refine sl_ok ok_Shelf_keep [.aload_n 3, .iconst 2, .iconst 2, .iload 4, .imul, .iadd, .aload_n 2, .getfield 31, .iload 4, .iaload, .iastore, .aload_n 3, .iconst 3, .iconst 2, .iload 4, .imul, .iadd, .aload_n 2, .getfield 35, .iload 4, .iaload, .iastore, .iinc 4 1] (pc1 := 79) (ls1 := [some (.ref o0), none, some (.ref o2), some (.ref o3), some (.int (x4 + 1))]) (st1 := []) (h1 := (sI (sI h o3 (2 + (2 * x4)).toNatClampNeg (hI h (rf o2 0) x4.toNatClampNeg)) o3 (3 + (2 * x4)).toNatClampNeg (hI (sI h o3 (2 + (2 * x4)).toNatClampNeg (hI h (rf o2 0) x4.toNatClampNeg)) (rf o2 1) x4.toNatClampNeg))) (P := (ak o2 = 0 ∧ cx o2 = 0) ∧ (ak (rf o2 0) = 1 ∧ ¬ (x4 < 0 ∨ cx (rf o2 0) ≤ x4.toNatClampNeg)) ∧ (ak o3 = 1 ∧ ¬ ((2 + (2 * x4)) < 0 ∨ cx o3 ≤ (2 + (2 * x4)).toNatClampNeg)) ∧ (ak o2 = 0 ∧ cx o2 = 0) ∧ (ak (rf o2 1) = 1 ∧ ¬ (x4 < 0 ∨ cx (rf o2 1) ≤ x4.toNatClampNeg)) ∧ (ak o3 = 1 ∧ ¬ ((3 + (2 * x4)) < 0 ∨ cx o3 ≤ (3 + (2 * x4)).toNatClampNeg)) ∧ True) (by decide +kernel) rfl ⟨ho2, ⟨(st_0_0 ho2).1, (by rw [(st_0_0 ho2).2]; exact g_2)⟩, ⟨ho3.1, (by rw [ho3.2]; exact g_3)⟩, ho2, ⟨(st_0_1 ho2).1, (by rw [(st_0_1 ho2).2]; exact g_2)⟩, ⟨ho3.1, (by rw [ho3.2]; exact g_4)⟩, trivial⟩ ?_
    refine q_goto (off := -42) (tgt := 37) (by decide) (by decide +kernel) ?_
    cases e
    exact k
def f_Shelf_keep (o0 : Nat) (x1 : Int32) (o2 : Nat) (h : pH) : Option pH :=
  if x1 < 0 then
    some h
  else
    if (Int32.ofNat (cx (rf o0 0))) ≤ x1 then
      some h
    else
      if x1 < 0 ∨ (cx (rf o0 0)) ≤ x1.toNatClampNeg then none else
      lp (fun s => f_Shelf_keep_L1 o0 o2 (rf (rf o0 0) x1.toNatClampNeg) s.1 s.2) lpN (0, (sI (sI h (rf (rf o0 0) x1.toNatClampNeg) 0 (hI h o2 3)) (rf (rf o0 0) x1.toNatClampNeg) 1 (hI (sI h (rf (rf o0 0) x1.toNatClampNeg) 0 (hI h o2 3)) o2 2)))
set_option maxHeartbeats 4000000 in
theorem b_Shelf_keep {E : pE} {r : Option Value} {hr : pH} {o0 : Nat} {x1 : Int32} {o2 : Nat} {h : pH} (ho0 : ak o0 = 0 ∧ cx o0 = 8) (ho2 : ak o2 = 0 ∧ cx o2 = 0) {b : pH} (e : f_Shelf_keep o0 x1 o2 h = some b) (k : (fun v : pH => r = none ∧ hr = v) b) : Go E M_Shelf_keep 0 [some (.ref o0), some (.int x1), some (.ref o2), none, none] [] h r hr := by
  unfold f_Shelf_keep at e
  refine sl_ok ok_Shelf_keep [.iload_n 1] (pc1 := 1) (ls1 := [some (.ref o0), some (.int x1), some (.ref o2), none, none]) (st1 := [.int x1]) (h1 := h) (P := True) (by decide +kernel) rfl trivial ?_
  refine q_if_lt (off := 81) (tgt := 82) (by decide +kernel) (by decide) (fun c_1 => ?_) (fun c_1 => ?_)
  · have e := it_t c_1 e
    cases e
    exact q_vret rfl k.1 k.2 (by decide +kernel)
  · have e := it_f c_1 e
    refine sl_ok ok_Shelf_keep [.iload_n 1, .aload_n 0, .getfield 17, .arraylength] (pc1 := 10) (ls1 := [some (.ref o0), some (.int x1), some (.ref o2), none, none]) (st1 := [.int (Int32.ofNat (cx (rf o0 0))), .int x1]) (h1 := h) (P := (ak o0 = 0 ∧ cx o0 = 8) ∧ (ak (rf o0 0) = 1 ∨ ak (rf o0 0) = 5) ∧ True) (by decide +kernel) rfl ⟨ho0, Or.inr (st_8_0 ho0), trivial⟩ ?_
    refine q_icmp_ge (off := 72) (tgt := 82) (by decide +kernel) (by decide) (fun c_2 => ?_) (fun c_2 => ?_)
    · have e := it_t c_2 e
      cases e
      exact q_vret rfl k.1 k.2 (by decide +kernel)
    · have e := it_f c_2 e
      obtain ⟨g_3, e⟩ := it_g e
      refine sl_ok ok_Shelf_keep [.aload_n 0, .getfield 17, .iload_n 1, .aaload, .astore_n 3, .aload_n 3, .iconst 0, .aload_n 2, .getfield 22, .iastore, .aload_n 3, .iconst 1, .aload_n 2, .getfield 28, .iastore, .iconst 0, .istore 4] (pc1 := 37) (ls1 := [some (.ref o0), some (.int x1), some (.ref o2), some (.ref (rf (rf o0 0) x1.toNatClampNeg)), some (.int 0)]) (st1 := []) (h1 := (sI (sI h (rf (rf o0 0) x1.toNatClampNeg) 0 (hI h o2 3)) (rf (rf o0 0) x1.toNatClampNeg) 1 (hI (sI h (rf (rf o0 0) x1.toNatClampNeg) 0 (hI h o2 3)) o2 2))) (P := (ak o0 = 0 ∧ cx o0 = 8) ∧ (ak (rf o0 0) = 5 ∧ ¬ (x1 < 0 ∨ cx (rf o0 0) ≤ x1.toNatClampNeg)) ∧ (ak o2 = 0 ∧ cx o2 = 0) ∧ (ak (rf (rf o0 0) x1.toNatClampNeg) = 1 ∧ ¬ ((0 : Int32) < 0 ∨ cx (rf (rf o0 0) x1.toNatClampNeg) ≤ (0 : Int32).toNatClampNeg)) ∧ (ak o2 = 0 ∧ cx o2 = 0) ∧ (ak (rf (rf o0 0) x1.toNatClampNeg) = 1 ∧ ¬ ((1 : Int32) < 0 ∨ cx (rf (rf o0 0) x1.toNatClampNeg) ≤ (1 : Int32).toNatClampNeg)) ∧ True) (by decide +kernel) rfl ⟨ho0, ⟨(st_8_0 ho0), g_3⟩, ho2, ⟨(st_row (st_8_0 ho0)).1, (by rw [(st_row (st_8_0 ho0)).2]; decide)⟩, ho2, ⟨(st_row (st_8_0 ho0)).1, (by rw [(st_row (st_8_0 ho0)).2]; decide)⟩, trivial⟩ ?_
      refine Go.sb [some (.ref o0), none, some (.ref o2), some (.ref (rf (rf o0 0) x1.toNatClampNeg)), some (.int 0)] (And.intro rfl (And.intro rfl (And.intro rfl (And.intro rfl trivial)))) ?_
      exact lp_in e (fun s => Go E M_Shelf_keep 37 [some (.ref o0), none, some (.ref o2), some (.ref (rf (rf o0 0) x1.toNatClampNeg)), some (.int s.1)] [] s.2 r hr) (fun v : pH => r = none ∧ hr = v) (fun _ _ e k => b_Shelf_keep_L1 ho0 ho2 (st_row (st_8_0 ho0)) e k) k
theorem s_Shelf_keep {E : pE} {o0 : Nat} {x1 : Int32} {o2 : Nat} {h : pH} (ho0 : ak o0 = 0 ∧ cx o0 = 8) (ho2 : ak o2 = 0 ∧ cx o2 = 0) {v : pH} (e : f_Shelf_keep o0 x1 o2 h = some v) : Ct E M_Shelf_keep [.ref o0, .int x1, .ref o2] h none v :=
  Ct_of ok_Shelf_keep [some (.ref o0), some (.int x1), some (.ref o2), none, none] (Nat.le_of_ble_eq_true rfl) rfl (b_Shelf_keep ho0 ho2 e ⟨rfl, rfl⟩)
def f_C_rememberPast (h : pH) : Option pH :=
  (f_Shelf_keep 31 (hI h 0 14) 8 h).bind fun v_1 =>
  some (sI (sI v_1 0 14 (jrem ((hI v_1 0 14) + 1) 40)) 0 13 (jmin ((hI (sI v_1 0 14 (jrem ((hI v_1 0 14) + 1) 40)) 0 13) + 1) (40 : Int32)))
set_option maxHeartbeats 4000000 in
theorem b_C_rememberPast {E : pE} {r : Option Value} {hr : pH} {h : pH}  {b : pH} (e : f_C_rememberPast h = some b) (k : (fun v : pH => r = none ∧ hr = v) b) : Go E M_C_rememberPast 0 [some (.ref 0)] [] h r hr := by
  unfold f_C_rememberPast at e
  refine sl_ok ok_C_rememberPast [.aload_n 0, .getfield 82, .aload_n 0, .getfield 154, .aload_n 0, .getfield 28] (pc1 := 12) (ls1 := [some (.ref 0)]) (st1 := [.ref 8, .int (hI h 0 14), .ref 31]) (h1 := h) (P := (ak 0 = 0 ∧ cx 0 = 11) ∧ (ak 0 = 0 ∧ cx 0 = 11) ∧ (ak 0 = 0 ∧ cx 0 = 11) ∧ True) (by decide +kernel) rfl ⟨⟨rfl, rfl⟩, ⟨rfl, rfl⟩, ⟨rfl, rfl⟩, trivial⟩ ?_
  obtain ⟨v_1, e_2, e⟩ := bi_s e
  refine q_callV ok_Shelf_keep (as := [.int (hI h 0 14), .ref 8]) (st := []) ⟨wd_141, wd_142, wd_143, wd_144, ds_Shelf_keep, Nat.le_of_ble_eq_true rfl, Nat.le_of_ble_eq_true rfl⟩ (s_Shelf_keep ⟨rfl, rfl⟩ ⟨rfl, rfl⟩ e_2) rfl ⟨rfl, rfl⟩ (ci := 8) rfl (fun v hv => by cases hv) (Nat.le_of_ble_eq_true rfl) (by decide +kernel) rfl ?_
  refine sl_ok ok_C_rememberPast [.aload_n 0, .aload_n 0, .getfield 154, .iconst 1, .iadd, .bipush 40, .irem, .putfield 154, .aload_n 0, .aload_n 0, .getfield 151, .iconst 1, .iadd, .bipush 40] (pc1 := 37) (ls1 := [some (.ref 0)]) (st1 := [.int 40, .int ((hI (sI v_1 0 14 (jrem ((hI v_1 0 14) + 1) 40)) 0 13) + 1), .ref 0]) (h1 := (sI v_1 0 14 (jrem ((hI v_1 0 14) + 1) 40))) (P := (ak 0 = 0 ∧ cx 0 = 11) ∧ (¬ (40 : Int32) = 0) ∧ (ak 0 = 0 ∧ cx 0 = 11) ∧ (ak 0 = 0 ∧ cx 0 = 11) ∧ True) (by decide +kernel) rfl ⟨⟨rfl, rfl⟩, (by decide), ⟨rfl, rfl⟩, ⟨rfl, rfl⟩, trivial⟩ ?_
  refine q_mmin wd_145 (Nat.le_of_ble_eq_true rfl) (Nat.le_of_ble_eq_true rfl) (by decide +kernel) ?_
  refine sl_ok ok_C_rememberPast [.putfield 151] (pc1 := 43) (ls1 := [some (.ref 0)]) (st1 := []) (h1 := (sI (sI v_1 0 14 (jrem ((hI v_1 0 14) + 1) 40)) 0 13 (jmin ((hI (sI v_1 0 14 (jrem ((hI v_1 0 14) + 1) 40)) 0 13) + 1) (40 : Int32)))) (P := (ak 0 = 0 ∧ cx 0 = 11) ∧ True) (by decide +kernel) rfl ⟨⟨rfl, rfl⟩, trivial⟩ ?_
  cases e
  exact q_vret rfl k.1 k.2 (by decide +kernel)
theorem s_C_rememberPast {E : pE} {h : pH}  {v : pH} (e : f_C_rememberPast h = some v) : Ct E M_C_rememberPast [.ref 0] h none v :=
  Ct_of ok_C_rememberPast [some (.ref 0)] (Nat.le_of_ble_eq_true rfl) rfl (b_C_rememberPast  e ⟨rfl, rfl⟩)
def f_C_add (x1 : Int32) (x2 : Int32) (h : pH) : Option (Int32 × pH) :=
  if 12 ≤ (hI h 8 2) then
    some ((-1), h)
  else
    (f_Cloud_isFree 8 x1 x2 h).bind fun v_2 =>
    if v_2 = 0 then
      some ((-1), h)
    else
      (f_C_rememberPast h).bind fun v_5 =>
      (f_Cloud_append 8 x1 x2 v_5).bind fun v_7 =>
      some (((hI v_7 8 2) - 1), v_7)
set_option maxHeartbeats 4000000 in
theorem b_C_add {E : pE} {r : Option Value} {hr : pH} {x1 : Int32} {x2 : Int32} {h : pH}  {b : (Int32 × pH)} (e : f_C_add x1 x2 h = some b) (k : (fun v : (Int32 × pH) => r = some (.int v.1) ∧ hr = v.2) b) : Go E M_C_add 0 [some (.ref 0), some (.int x1), some (.int x2)] [] h r hr := by
  unfold f_C_add at e
  refine sl_ok ok_C_add [.aload_n 0, .getfield 28, .getfield 120, .bipush 12] (pc1 := 9) (ls1 := [some (.ref 0), some (.int x1), some (.int x2)]) (st1 := [.int 12, .int (hI h 8 2)]) (h1 := h) (P := (ak 0 = 0 ∧ cx 0 = 11) ∧ (ak 8 = 0 ∧ cx 8 = 0) ∧ True) (by decide +kernel) rfl ⟨⟨rfl, rfl⟩, ⟨rfl, rfl⟩, trivial⟩ ?_
  refine q_icmp_ge (off := 15) (tgt := 24) (by decide +kernel) (by decide) (fun c_1 => ?_) (fun c_1 => ?_)
  · have e := it_t c_1 e
    refine sl_ok ok_C_add [.iconst (-1)] (pc1 := 25) (ls1 := [some (.ref 0), some (.int x1), some (.int x2)]) (st1 := [.int (-1)]) (h1 := h) (P := True) (by decide +kernel) rfl trivial ?_
    cases e
    exact q_iret rfl k.1 k.2 (by decide +kernel)
  · have e := it_f c_1 e
    refine sl_ok ok_C_add [.aload_n 0, .getfield 28, .iload_n 1, .iload_n 2] (pc1 := 18) (ls1 := [some (.ref 0), some (.int x1), some (.int x2)]) (st1 := [.int x2, .int x1, .ref 8]) (h1 := h) (P := (ak 0 = 0 ∧ cx 0 = 11) ∧ True) (by decide +kernel) rfl ⟨⟨rfl, rfl⟩, trivial⟩ ?_
    obtain ⟨v_2, e_3, e⟩ := bi_s e
    refine q_callV ok_Cloud_isFree (as := [.int x1, .int x2]) (st := []) ⟨wd_146, wd_53, wd_54, wd_14, ds_Cloud_isFree, Nat.le_of_ble_eq_true rfl, Nat.le_of_ble_eq_true rfl⟩ (s_Cloud_isFree ⟨rfl, rfl⟩ e_3) rfl ⟨rfl, rfl⟩ (ci := 0) rfl (fun v hv => by cases hv; rfl) (Nat.le_of_ble_eq_true rfl) (by decide +kernel) rfl ?_
    refine q_if_ne (off := 5) (tgt := 26) (by decide +kernel) (by decide) (fun c_4 => ?_) (fun c_4 => ?_)
    · have e := it_f c_4 e
      refine sl_ok ok_C_add [.aload_n 0] (pc1 := 27) (ls1 := [some (.ref 0), some (.int x1), some (.int x2)]) (st1 := [.ref 0]) (h1 := h) (P := True) (by decide +kernel) rfl trivial ?_
      obtain ⟨v_5, e_6, e⟩ := bi_s e
      refine q_callV ok_C_rememberPast (as := []) (st := []) ⟨wd_147, wd_148, wd_149, wd_48, ds_C_rememberPast, Nat.le_of_ble_eq_true rfl, Nat.le_of_ble_eq_true rfl⟩ (s_C_rememberPast  e_6) rfl ⟨rfl, rfl⟩ (ci := 11) rfl (fun v hv => by cases hv) (Nat.le_of_ble_eq_true rfl) (by decide +kernel) rfl ?_
      refine sl_ok ok_C_add [.aload_n 0, .getfield 28, .iload_n 1, .iload_n 2] (pc1 := 36) (ls1 := [some (.ref 0), some (.int x1), some (.int x2)]) (st1 := [.int x2, .int x1, .ref 8]) (h1 := v_5) (P := (ak 0 = 0 ∧ cx 0 = 11) ∧ True) (by decide +kernel) rfl ⟨⟨rfl, rfl⟩, trivial⟩ ?_
      obtain ⟨v_7, e_8, e⟩ := bi_s e
      refine q_callV ok_Cloud_append (as := [.int x1, .int x2]) (st := []) ⟨wd_150, wd_56, wd_57, wd_14, ds_Cloud_append, Nat.le_of_ble_eq_true rfl, Nat.le_of_ble_eq_true rfl⟩ (s_Cloud_append ⟨rfl, rfl⟩ e_8) rfl ⟨rfl, rfl⟩ (ci := 0) rfl (fun v hv => by cases hv) (Nat.le_of_ble_eq_true rfl) (by decide +kernel) rfl ?_
      refine sl_ok ok_C_add [.aload_n 0, .getfield 28, .getfield 120, .iconst 1, .isub] (pc1 := 48) (ls1 := [some (.ref 0), some (.int x1), some (.int x2)]) (st1 := [.int ((hI v_7 8 2) - 1)]) (h1 := v_7) (P := (ak 0 = 0 ∧ cx 0 = 11) ∧ (ak 8 = 0 ∧ cx 8 = 0) ∧ True) (by decide +kernel) rfl ⟨⟨rfl, rfl⟩, ⟨rfl, rfl⟩, trivial⟩ ?_
      cases e
      exact q_iret rfl k.1 k.2 (by decide +kernel)
    · have e := it_t c_4 e
      refine sl_ok ok_C_add [.iconst (-1)] (pc1 := 25) (ls1 := [some (.ref 0), some (.int x1), some (.int x2)]) (st1 := [.int (-1)]) (h1 := h) (P := True) (by decide +kernel) rfl trivial ?_
      cases e
      exact q_iret rfl k.1 k.2 (by decide +kernel)
theorem s_C_add {E : pE} {x1 : Int32} {x2 : Int32} {h : pH}  {v : (Int32 × pH)} (e : f_C_add x1 x2 h = some v) : Ct E M_C_add [.ref 0, .int x1, .int x2] h (some (.int v.1)) v.2 :=
  Ct_of ok_C_add [some (.ref 0), some (.int x1), some (.int x2)] (Nat.le_of_ble_eq_true rfl) rfl (b_C_add  e ⟨rfl, rfl⟩)
def f_R_all (h : pH) : Int32 :=
  (hI h 87 0)
set_option maxHeartbeats 4000000 in
theorem b_R_all {E : pE} {r : Option Value} {hr : pH} {h : pH}  {b : Int32} (e : f_R_all h = b) (k : (fun v : Int32 => r = some (.int v) ∧ hr = h) b) : Go E M_R_all 0 [some (.ref 79)] [] h r hr := by
  unfold f_R_all at e
  refine sl_ok ok_R_all [.aload_n 0, .getfield 40, .iconst 0, .iaload] (pc1 := 6) (ls1 := [some (.ref 79)]) (st1 := [.int (hI h 87 0)]) (h1 := h) (P := (ak 79 = 0 ∧ cx 79 = 12) ∧ (ak 87 = 1 ∧ ¬ ((0 : Int32) < 0 ∨ cx 87 ≤ (0 : Int32).toNatClampNeg)) ∧ True) (by decide +kernel) rfl ⟨⟨rfl, rfl⟩, ⟨rfl, (by decide)⟩, trivial⟩ ?_
  cases e
  exact q_iret rfl k.1 k.2 (by decide +kernel)
theorem s_R_all {E : pE} {h : pH}  : Ct E M_R_all [.ref 79] h (some (.int (f_R_all h))) h :=
  Ct_of ok_R_all [some (.ref 79)] (Nat.le_of_ble_eq_true rfl) rfl (b_R_all  rfl ⟨rfl, rfl⟩)
def f_R_x (x1 : Int32) (h : pH) : Option Int32 :=
  if (2 + (2 * x1)) < 0 ∨ 28 ≤ (2 + (2 * x1)).toNatClampNeg then none else
  some (hI h 87 (2 + (2 * x1)).toNatClampNeg)
set_option maxHeartbeats 4000000 in
theorem b_R_x {E : pE} {r : Option Value} {hr : pH} {x1 : Int32} {h : pH}  {b : Int32} (e : f_R_x x1 h = some b) (k : (fun v : Int32 => r = some (.int v) ∧ hr = h) b) : Go E M_R_x 0 [some (.ref 79), some (.int x1)] [] h r hr := by
  unfold f_R_x at e
  obtain ⟨g_1, e⟩ := it_g e
  refine sl_ok ok_R_x [.aload_n 0, .getfield 40, .iconst 2, .iconst 2, .iload_n 1, .imul, .iadd, .iaload] (pc1 := 10) (ls1 := [some (.ref 79), some (.int x1)]) (st1 := [.int (hI h 87 (2 + (2 * x1)).toNatClampNeg)]) (h1 := h) (P := (ak 79 = 0 ∧ cx 79 = 12) ∧ (ak 87 = 1 ∧ ¬ ((2 + (2 * x1)) < 0 ∨ cx 87 ≤ (2 + (2 * x1)).toNatClampNeg)) ∧ True) (by decide +kernel) rfl ⟨⟨rfl, rfl⟩, ⟨rfl, g_1⟩, trivial⟩ ?_
  cases e
  exact q_iret rfl k.1 k.2 (by decide +kernel)
theorem s_R_x {E : pE} {x1 : Int32} {h : pH}  {v : Int32} (e : f_R_x x1 h = some v) : Ct E M_R_x [.ref 79, .int x1] h (some (.int v)) h :=
  Ct_of ok_R_x [some (.ref 79), some (.int x1)] (Nat.le_of_ble_eq_true rfl) rfl (b_R_x  e ⟨rfl, rfl⟩)
def f_R_y (x1 : Int32) (h : pH) : Option Int32 :=
  if ((2 + (2 * x1)) + 1) < 0 ∨ 28 ≤ ((2 + (2 * x1)) + 1).toNatClampNeg then none else
  some (hI h 87 ((2 + (2 * x1)) + 1).toNatClampNeg)
set_option maxHeartbeats 4000000 in
theorem b_R_y {E : pE} {r : Option Value} {hr : pH} {x1 : Int32} {h : pH}  {b : Int32} (e : f_R_y x1 h = some b) (k : (fun v : Int32 => r = some (.int v) ∧ hr = h) b) : Go E M_R_y 0 [some (.ref 79), some (.int x1)] [] h r hr := by
  unfold f_R_y at e
  obtain ⟨g_1, e⟩ := it_g e
  refine sl_ok ok_R_y [.aload_n 0, .getfield 40, .iconst 2, .iconst 2, .iload_n 1, .imul, .iadd, .iconst 1, .iadd, .iaload] (pc1 := 12) (ls1 := [some (.ref 79), some (.int x1)]) (st1 := [.int (hI h 87 ((2 + (2 * x1)) + 1).toNatClampNeg)]) (h1 := h) (P := (ak 79 = 0 ∧ cx 79 = 12) ∧ (ak 87 = 1 ∧ ¬ (((2 + (2 * x1)) + 1) < 0 ∨ cx 87 ≤ ((2 + (2 * x1)) + 1).toNatClampNeg)) ∧ True) (by decide +kernel) rfl ⟨⟨rfl, rfl⟩, ⟨rfl, g_1⟩, trivial⟩ ?_
  cases e
  exact q_iret rfl k.1 k.2 (by decide +kernel)
theorem s_R_y {E : pE} {x1 : Int32} {h : pH}  {v : Int32} (e : f_R_y x1 h = some v) : Ct E M_R_y [.ref 79, .int x1] h (some (.int v)) h :=
  Ct_of ok_R_y [some (.ref 79), some (.int x1)] (Nat.le_of_ble_eq_true rfl) rfl (b_R_y  e ⟨rfl, rfl⟩)
def f_R_pointAt_L1 (x1 : Int32) (x2 : Int32) (h : pH) (x3 : Int32) : Option (Int32 ⊕ Int32) :=
  if (f_R_all h) ≤ x3 then
    some (.inr (-1))
  else
    (f_R_x x3 h).bind fun v_2 =>
    if v_2 = x1 then
      (f_R_y x3 h).bind fun v_5 =>
      if v_5 = x2 then
        some (.inr x3)
      else
        some (.inl (x3 + 1))
    else
      some (.inl (x3 + 1))
set_option maxHeartbeats 4000000 in
theorem b_R_pointAt_L1 {E : pE} {r : Option Value} {hr : pH} {x1 : Int32} {x2 : Int32} {h : pH} {x3 : Int32}  {b : (Int32 ⊕ Int32)} (e : f_R_pointAt_L1 x1 x2 h x3 = some b) (k : (Sum.elim (fun s : Int32 => Go E M_R_pointAt 2 [some (.ref 79), some (.int x1), some (.int x2), some (.int s)] [] h r hr) (fun v : Int32 => r = some (.int v) ∧ hr = h)) b) : Go E M_R_pointAt 2 [some (.ref 79), some (.int x1), some (.int x2), some (.int x3)] [] h r hr := by
  unfold f_R_pointAt_L1 at e
  refine sl_ok ok_R_pointAt [.iload_n 3, .aload_n 0] (pc1 := 4) (ls1 := [some (.ref 79), some (.int x1), some (.int x2), some (.int x3)]) (st1 := [.ref 79, .int x3]) (h1 := h) (P := True) (by decide +kernel) rfl trivial ?_
  refine q_callV ok_R_all (as := []) (st := [.int x3]) ⟨wd_151, wd_152, wd_153, wd_7, ds_R_all, Nat.le_of_ble_eq_true rfl, Nat.le_of_ble_eq_true rfl⟩ (s_R_all ) rfl ⟨rfl, rfl⟩ (ci := 12) rfl (fun v hv => by cases hv; rfl) (Nat.le_of_ble_eq_true rfl) (by decide +kernel) rfl ?_
  refine q_icmp_ge (off := 29) (tgt := 36) (by decide +kernel) (by decide) (fun c_1 => ?_) (fun c_1 => ?_)
  · have e := it_t c_1 e
    refine sl_ok ok_R_pointAt [.iconst (-1)] (pc1 := 37) (ls1 := [some (.ref 79), some (.int x1), some (.int x2), some (.int x3)]) (st1 := [.int (-1)]) (h1 := h) (P := True) (by decide +kernel) rfl trivial ?_
    cases e
    exact q_iret rfl k.1 k.2 (by decide +kernel)
  · have e := it_f c_1 e
    refine sl_ok ok_R_pointAt [.aload_n 0, .iload_n 3] (pc1 := 12) (ls1 := [some (.ref 79), some (.int x1), some (.int x2), some (.int x3)]) (st1 := [.int x3, .ref 79]) (h1 := h) (P := True) (by decide +kernel) rfl trivial ?_
    obtain ⟨v_2, e_3, e⟩ := bi_s e
    refine q_callV ok_R_x (as := [.int x3]) (st := []) ⟨wd_154, wd_155, wd_156, wd_7, ds_R_x, Nat.le_of_ble_eq_true rfl, Nat.le_of_ble_eq_true rfl⟩ (s_R_x  e_3) rfl ⟨rfl, rfl⟩ (ci := 12) rfl (fun v hv => by cases hv; rfl) (Nat.le_of_ble_eq_true rfl) (by decide +kernel) rfl ?_
    refine sl_ok ok_R_pointAt [.iload_n 1] (pc1 := 16) (ls1 := [some (.ref 79), some (.int x1), some (.int x2), some (.int x3)]) (st1 := [.int x1, .int v_2]) (h1 := h) (P := True) (by decide +kernel) rfl trivial ?_
    refine q_icmp_ne (off := 14) (tgt := 30) (by decide +kernel) (by decide) (fun c_4 => ?_) (fun c_4 => ?_)
    · have e := it_f c_4 e
      refine sl_ok ok_R_pointAt [.iinc 3 1] (pc1 := 33) (ls1 := [some (.ref 79), some (.int x1), some (.int x2), some (.int (x3 + 1))]) (st1 := []) (h1 := h) (P := True) (by decide +kernel) rfl trivial ?_
      refine q_goto (off := -31) (tgt := 2) (by decide) (by decide +kernel) ?_
      cases e
      exact k
    · have e := it_t c_4 e
      refine sl_ok ok_R_pointAt [.aload_n 0, .iload_n 3] (pc1 := 21) (ls1 := [some (.ref 79), some (.int x1), some (.int x2), some (.int x3)]) (st1 := [.int x3, .ref 79]) (h1 := h) (P := True) (by decide +kernel) rfl trivial ?_
      obtain ⟨v_5, e_6, e⟩ := bi_s e
      refine q_callV ok_R_y (as := [.int x3]) (st := []) ⟨wd_157, wd_158, wd_159, wd_7, ds_R_y, Nat.le_of_ble_eq_true rfl, Nat.le_of_ble_eq_true rfl⟩ (s_R_y  e_6) rfl ⟨rfl, rfl⟩ (ci := 12) rfl (fun v hv => by cases hv; rfl) (Nat.le_of_ble_eq_true rfl) (by decide +kernel) rfl ?_
      refine sl_ok ok_R_pointAt [.iload_n 2] (pc1 := 25) (ls1 := [some (.ref 79), some (.int x1), some (.int x2), some (.int x3)]) (st1 := [.int x2, .int v_5]) (h1 := h) (P := True) (by decide +kernel) rfl trivial ?_
      refine q_icmp_ne (off := 5) (tgt := 30) (by decide +kernel) (by decide) (fun c_7 => ?_) (fun c_7 => ?_)
      · have e := it_f c_7 e
        refine sl_ok ok_R_pointAt [.iinc 3 1] (pc1 := 33) (ls1 := [some (.ref 79), some (.int x1), some (.int x2), some (.int (x3 + 1))]) (st1 := []) (h1 := h) (P := True) (by decide +kernel) rfl trivial ?_
        refine q_goto (off := -31) (tgt := 2) (by decide) (by decide +kernel) ?_
        cases e
        exact k
      · have e := it_t c_7 e
        refine sl_ok ok_R_pointAt [.iload_n 3] (pc1 := 29) (ls1 := [some (.ref 79), some (.int x1), some (.int x2), some (.int x3)]) (st1 := [.int x3]) (h1 := h) (P := True) (by decide +kernel) rfl trivial ?_
        cases e
        exact q_iret rfl k.1 k.2 (by decide +kernel)
def f_R_pointAt (x1 : Int32) (x2 : Int32) (h : pH) : Option Int32 :=
  lp (fun s => f_R_pointAt_L1 x1 x2 h s) lpN 0
set_option maxHeartbeats 4000000 in
theorem b_R_pointAt {E : pE} {r : Option Value} {hr : pH} {x1 : Int32} {x2 : Int32} {h : pH}  {b : Int32} (e : f_R_pointAt x1 x2 h = some b) (k : (fun v : Int32 => r = some (.int v) ∧ hr = h) b) : Go E M_R_pointAt 0 [some (.ref 79), some (.int x1), some (.int x2), none] [] h r hr := by
  unfold f_R_pointAt at e
  refine sl_ok ok_R_pointAt [.iconst 0, .istore_n 3] (pc1 := 2) (ls1 := [some (.ref 79), some (.int x1), some (.int x2), some (.int 0)]) (st1 := []) (h1 := h) (P := True) (by decide +kernel) rfl trivial ?_
  exact lp_in e (fun s => Go E M_R_pointAt 2 [some (.ref 79), some (.int x1), some (.int x2), some (.int s)] [] h r hr) (fun v : Int32 => r = some (.int v) ∧ hr = h) (fun _ _ e k => b_R_pointAt_L1  e k) k
theorem s_R_pointAt {E : pE} {x1 : Int32} {x2 : Int32} {h : pH}  {v : Int32} (e : f_R_pointAt x1 x2 h = some v) : Ct E M_R_pointAt [.ref 79, .int x1, .int x2] h (some (.int v)) h :=
  Ct_of ok_R_pointAt [some (.ref 79), some (.int x1), some (.int x2), none] (Nat.le_of_ble_eq_true rfl) rfl (b_R_pointAt  e ⟨rfl, rfl⟩)
def f_R_canBe (x1 : Int32) (x2 : Int32) (h : pH) : Option Int32 :=
  if (f_R_in x1 ((-50) : Int32) (50 : Int32)) = 0 then
    some 0
  else
    if (f_R_in x2 ((-50) : Int32) (50 : Int32)) = 0 then
      some 0
    else
      (f_R_pointAt x1 x2 h).bind fun v_3 =>
      if 0 ≤ v_3 then
        some 0
      else
        some 1
set_option maxHeartbeats 4000000 in
theorem b_R_canBe {E : pE} {r : Option Value} {hr : pH} {x1 : Int32} {x2 : Int32} {h : pH}  {b : Int32} (e : f_R_canBe x1 x2 h = some b) (k : (fun v : Int32 => r = some (.int v) ∧ hr = h) b) : Go E M_R_canBe 0 [some (.ref 79), some (.int x1), some (.int x2)] [] h r hr := by
  unfold f_R_canBe at e
  refine sl_ok ok_R_canBe [.iload_n 1, .bipush (-50), .bipush 50] (pc1 := 5) (ls1 := [some (.ref 79), some (.int x1), some (.int x2)]) (st1 := [.int 50, .int (-50), .int x1]) (h1 := h) (P := True) (by decide +kernel) rfl trivial ?_
  refine q_callS ok_R_in (as := [.int x1, .int (-50), .int 50]) (st := []) ⟨wd_127, wd_128, wd_7, ds_R_in, Nat.le_of_ble_eq_true rfl, Nat.le_of_ble_eq_true rfl⟩ (s_R_in ) rfl (fun v hv => by cases hv; rfl) (Nat.le_of_ble_eq_true rfl) (by decide +kernel) rfl ?_
  refine q_if_eq (off := 27) (tgt := 35) (by decide +kernel) (by decide) (fun c_1 => ?_) (fun c_1 => ?_)
  · have e := it_t c_1 e
    refine sl_ok ok_R_canBe [.iconst 0] (pc1 := 36) (ls1 := [some (.ref 79), some (.int x1), some (.int x2)]) (st1 := [.int 0]) (h1 := h) (P := True) (by decide +kernel) rfl trivial ?_
    cases e
    exact q_zret rfl (Or.inl rfl) k.1 k.2 (by decide +kernel)
  · have e := it_f c_1 e
    refine sl_ok ok_R_canBe [.iload_n 2, .bipush (-50), .bipush 50] (pc1 := 16) (ls1 := [some (.ref 79), some (.int x1), some (.int x2)]) (st1 := [.int 50, .int (-50), .int x2]) (h1 := h) (P := True) (by decide +kernel) rfl trivial ?_
    refine q_callS ok_R_in (as := [.int x2, .int (-50), .int 50]) (st := []) ⟨wd_127, wd_128, wd_7, ds_R_in, Nat.le_of_ble_eq_true rfl, Nat.le_of_ble_eq_true rfl⟩ (s_R_in ) rfl (fun v hv => by cases hv; rfl) (Nat.le_of_ble_eq_true rfl) (by decide +kernel) rfl ?_
    refine q_if_eq (off := 16) (tgt := 35) (by decide +kernel) (by decide) (fun c_2 => ?_) (fun c_2 => ?_)
    · have e := it_t c_2 e
      refine sl_ok ok_R_canBe [.iconst 0] (pc1 := 36) (ls1 := [some (.ref 79), some (.int x1), some (.int x2)]) (st1 := [.int 0]) (h1 := h) (P := True) (by decide +kernel) rfl trivial ?_
      cases e
      exact q_zret rfl (Or.inl rfl) k.1 k.2 (by decide +kernel)
    · have e := it_f c_2 e
      refine sl_ok ok_R_canBe [.aload_n 0, .iload_n 1, .iload_n 2] (pc1 := 25) (ls1 := [some (.ref 79), some (.int x1), some (.int x2)]) (st1 := [.int x2, .int x1, .ref 79]) (h1 := h) (P := True) (by decide +kernel) rfl trivial ?_
      obtain ⟨v_3, e_4, e⟩ := bi_s e
      refine q_callV ok_R_pointAt (as := [.int x1, .int x2]) (st := []) ⟨wd_160, wd_161, wd_162, wd_7, ds_R_pointAt, Nat.le_of_ble_eq_true rfl, Nat.le_of_ble_eq_true rfl⟩ (s_R_pointAt  e_4) rfl ⟨rfl, rfl⟩ (ci := 12) rfl (fun v hv => by cases hv; rfl) (Nat.le_of_ble_eq_true rfl) (by decide +kernel) rfl ?_
      refine q_if_ge (off := 7) (tgt := 35) (by decide +kernel) (by decide) (fun c_5 => ?_) (fun c_5 => ?_)
      · have e := it_t c_5 e
        refine sl_ok ok_R_canBe [.iconst 0] (pc1 := 36) (ls1 := [some (.ref 79), some (.int x1), some (.int x2)]) (st1 := [.int 0]) (h1 := h) (P := True) (by decide +kernel) rfl trivial ?_
        cases e
        exact q_zret rfl (Or.inl rfl) k.1 k.2 (by decide +kernel)
      · have e := it_f c_5 e
        refine sl_ok ok_R_canBe [.iconst 1] (pc1 := 32) (ls1 := [some (.ref 79), some (.int x1), some (.int x2)]) (st1 := [.int 1]) (h1 := h) (P := True) (by decide +kernel) rfl trivial ?_
        refine q_goto (off := 4) (tgt := 36) (by decide) (by decide +kernel) ?_
        cases e
        exact q_zret rfl (Or.inr rfl) k.1 k.2 (by decide +kernel)
theorem s_R_canBe {E : pE} {x1 : Int32} {x2 : Int32} {h : pH}  {v : Int32} (e : f_R_canBe x1 x2 h = some v) : Ct E M_R_canBe [.ref 79, .int x1, .int x2] h (some (.int v)) h :=
  Ct_of ok_R_canBe [some (.ref 79), some (.int x1), some (.int x2)] (Nat.le_of_ble_eq_true rfl) rfl (b_R_canBe  e ⟨rfl, rfl⟩)
def f_R_marks_L2 (x1 : Int32) (x2 : Int32) (h : pH) : Option ((Int32 × pH) ⊕ pH) :=
  if 26 ≤ x2 then
    some (.inr (sI h 79 24 ((hI h 79 24) + 1)))
  else
    if x2 < 0 ∨ 28 ≤ x2.toNatClampNeg then none else
    if (x1 + x2) < 0 ∨ 1040 ≤ (x1 + x2).toNatClampNeg then none else
    some (.inl ((x2 + 1), (sI h 91 (x1 + x2).toNatClampNeg (hI h 87 x2.toNatClampNeg))))
set_option maxHeartbeats 4000000 in
theorem b_R_marks_L2 {E : pE} {r : Option Value} {hr : pH} {x1 : Int32} {x2 : Int32} {h : pH}  {b : ((Int32 × pH) ⊕ pH)} (e : f_R_marks_L2 x1 x2 h = some b) (k : (Sum.elim (fun s : (Int32 × pH) => Go E M_R_marks 50 [some (.ref 79), some (.int x1), some (.int s.1)] [] s.2 r hr) (fun v : pH => r = none ∧ hr = v)) b) : Go E M_R_marks 50 [some (.ref 79), some (.int x1), some (.int x2)] [] h r hr := by
  unfold f_R_marks_L2 at e
  refine sl_ok ok_R_marks [.iload_n 2, .bipush 26] (pc1 := 53) (ls1 := [some (.ref 79), some (.int x1), some (.int x2)]) (st1 := [.int 26, .int x2]) (h1 := h) (P := True) (by decide +kernel) rfl trivial ?_
  refine q_icmp_ge (off := 23) (tgt := 76) (by decide +kernel) (by decide) (fun c_1 => ?_) (fun c_1 => ?_)
  · have e := it_t c_1 e
    refine sl_ok ok_R_marks [.aload_n 0, .dup, .getfield 167, .iconst 1, .iadd, .putfield 167] (pc1 := 86) (ls1 := [some (.ref 79), some (.int x1), some (.int x2)]) (st1 := []) (h1 := (sI h 79 24 ((hI h 79 24) + 1))) (P := (ak 79 = 0 ∧ cx 79 = 12) ∧ (ak 79 = 0 ∧ cx 79 = 12) ∧ True) (by decide +kernel) rfl ⟨⟨rfl, rfl⟩, ⟨rfl, rfl⟩, trivial⟩ ?_
    cases e
    exact q_vret rfl k.1 k.2 (by decide +kernel)
  · have e := it_f c_1 e
    obtain ⟨g_2, e⟩ := it_g e
    obtain ⟨g_3, e⟩ := it_g e
    refine sl_ok ok_R_marks [.aload_n 0, .getfield 53, .iload_n 1, .iload_n 2, .iadd, .aload_n 0, .getfield 40, .iload_n 2, .iaload, .iastore, .iinc 2 1] (pc1 := 73) (ls1 := [some (.ref 79), some (.int x1), some (.int (x2 + 1))]) (st1 := []) (h1 := (sI h 91 (x1 + x2).toNatClampNeg (hI h 87 x2.toNatClampNeg))) (P := (ak 79 = 0 ∧ cx 79 = 12) ∧ (ak 79 = 0 ∧ cx 79 = 12) ∧ (ak 87 = 1 ∧ ¬ (x2 < 0 ∨ cx 87 ≤ x2.toNatClampNeg)) ∧ (ak 91 = 1 ∧ ¬ ((x1 + x2) < 0 ∨ cx 91 ≤ (x1 + x2).toNatClampNeg)) ∧ True) (by decide +kernel) rfl ⟨⟨rfl, rfl⟩, ⟨rfl, rfl⟩, ⟨rfl, g_2⟩, ⟨rfl, g_3⟩, trivial⟩ ?_
    refine q_goto (off := -23) (tgt := 50) (by decide) (by decide +kernel) ?_
    cases e
    exact k
def f_R_marks_J1 (h : pH) : Option pH :=
  lp (fun s => f_R_marks_L2 (26 * (jrem ((hI h 79 23) + (hI h 79 24)) 40)) s.1 s.2) lpN (0, h)
set_option maxHeartbeats 4000000 in
theorem b_R_marks_J1 {E : pE} {r : Option Value} {hr : pH} {h : pH}  {b : pH} (e : f_R_marks_J1 h = some b) (k : (fun v : pH => r = none ∧ hr = v) b) : Go E M_R_marks 32 [some (.ref 79), none, none] [] h r hr := by
  unfold f_R_marks_J1 at e
  refine sl_ok ok_R_marks [.bipush 26, .aload_n 0, .getfield 200, .aload_n 0, .getfield 167, .iadd, .bipush 40, .irem, .imul, .istore_n 1, .iconst 0, .istore_n 2] (pc1 := 50) (ls1 := [some (.ref 79), some (.int (26 * (jrem ((hI h 79 23) + (hI h 79 24)) 40))), some (.int 0)]) (st1 := []) (h1 := h) (P := (ak 79 = 0 ∧ cx 79 = 12) ∧ (ak 79 = 0 ∧ cx 79 = 12) ∧ (¬ (40 : Int32) = 0) ∧ True) (by decide +kernel) rfl ⟨⟨rfl, rfl⟩, ⟨rfl, rfl⟩, (by decide), trivial⟩ ?_
  exact lp_in e (fun s => Go E M_R_marks 50 [some (.ref 79), some (.int (26 * (jrem ((hI h 79 23) + (hI h 79 24)) 40))), some (.int s.1)] [] s.2 r hr) (fun v : pH => r = none ∧ hr = v) (fun _ _ e k => b_R_marks_L2  e k) k
def f_R_marks (h : pH) : Option pH :=
  if (hI h 79 24) = 40 then
    f_R_marks_J1 (sI (sI h 79 23 (jrem ((hI h 79 23) + 1) 40)) 79 24 ((hI (sI h 79 23 (jrem ((hI h 79 23) + 1) 40)) 79 24) - 1))
  else
    f_R_marks_J1 h
set_option maxHeartbeats 4000000 in
theorem b_R_marks {E : pE} {r : Option Value} {hr : pH} {h : pH}  {b : pH} (e : f_R_marks h = some b) (k : (fun v : pH => r = none ∧ hr = v) b) : Go E M_R_marks 0 [some (.ref 79), none, none] [] h r hr := by
  unfold f_R_marks at e
  refine sl_ok ok_R_marks [.aload_n 0, .getfield 167, .bipush 40] (pc1 := 6) (ls1 := [some (.ref 79), none, none]) (st1 := [.int 40, .int (hI h 79 24)]) (h1 := h) (P := (ak 79 = 0 ∧ cx 79 = 12) ∧ True) (by decide +kernel) rfl ⟨⟨rfl, rfl⟩, trivial⟩ ?_
  refine q_icmp_ne (off := 26) (tgt := 32) (by decide +kernel) (by decide) (fun c_1 => ?_) (fun c_1 => ?_)
  · have e := it_f c_1 e
    exact b_R_marks_J1  e k
  · have e := it_t c_1 e
    refine sl_ok ok_R_marks [.aload_n 0, .aload_n 0, .getfield 200, .iconst 1, .iadd, .bipush 40, .irem, .putfield 200, .aload_n 0, .dup, .getfield 167, .iconst 1, .isub, .putfield 167] (pc1 := 32) (ls1 := [some (.ref 79), none, none]) (st1 := []) (h1 := (sI (sI h 79 23 (jrem ((hI h 79 23) + 1) 40)) 79 24 ((hI (sI h 79 23 (jrem ((hI h 79 23) + 1) 40)) 79 24) - 1))) (P := (ak 79 = 0 ∧ cx 79 = 12) ∧ (¬ (40 : Int32) = 0) ∧ (ak 79 = 0 ∧ cx 79 = 12) ∧ (ak 79 = 0 ∧ cx 79 = 12) ∧ (ak 79 = 0 ∧ cx 79 = 12) ∧ True) (by decide +kernel) rfl ⟨⟨rfl, rfl⟩, (by decide), ⟨rfl, rfl⟩, ⟨rfl, rfl⟩, ⟨rfl, rfl⟩, trivial⟩ ?_
    exact b_R_marks_J1  e k
theorem s_R_marks {E : pE} {h : pH}  {v : pH} (e : f_R_marks h = some v) : Ct E M_R_marks [.ref 79] h none v :=
  Ct_of ok_R_marks [some (.ref 79), none, none] (Nat.le_of_ble_eq_true rfl) rfl (b_R_marks  e ⟨rfl, rfl⟩)
def f_R_lays3 (x1 : Int32) (x2 : Int32) (x3 : Int32) (h : pH) : Option pH :=
  if (2 + (2 * x1)) < 0 ∨ 28 ≤ (2 + (2 * x1)).toNatClampNeg then none else
  if ((2 + (2 * x1)) + 1) < 0 ∨ 28 ≤ ((2 + (2 * x1)) + 1).toNatClampNeg then none else
  some (sI (sI h 87 (2 + (2 * x1)).toNatClampNeg x2) 87 ((2 + (2 * x1)) + 1).toNatClampNeg x3)
set_option maxHeartbeats 4000000 in
theorem b_R_lays3 {E : pE} {r : Option Value} {hr : pH} {x1 : Int32} {x2 : Int32} {x3 : Int32} {h : pH}  {b : pH} (e : f_R_lays3 x1 x2 x3 h = some b) (k : (fun v : pH => r = none ∧ hr = v) b) : Go E M_R_lays3 0 [some (.ref 79), some (.int x1), some (.int x2), some (.int x3)] [] h r hr := by
  unfold f_R_lays3 at e
  obtain ⟨g_1, e⟩ := it_g e
  obtain ⟨g_2, e⟩ := it_g e
  refine sl_ok ok_R_lays3 [.aload_n 0, .getfield 40, .iconst 2, .iconst 2, .iload_n 1, .imul, .iadd, .iload_n 2, .iastore, .aload_n 0, .getfield 40, .iconst 2, .iconst 2, .iload_n 1, .imul, .iadd, .iconst 1, .iadd, .iload_n 3, .iastore] (pc1 := 24) (ls1 := [some (.ref 79), some (.int x1), some (.int x2), some (.int x3)]) (st1 := []) (h1 := (sI (sI h 87 (2 + (2 * x1)).toNatClampNeg x2) 87 ((2 + (2 * x1)) + 1).toNatClampNeg x3)) (P := (ak 79 = 0 ∧ cx 79 = 12) ∧ (ak 87 = 1 ∧ ¬ ((2 + (2 * x1)) < 0 ∨ cx 87 ≤ (2 + (2 * x1)).toNatClampNeg)) ∧ (ak 79 = 0 ∧ cx 79 = 12) ∧ (ak 87 = 1 ∧ ¬ (((2 + (2 * x1)) + 1) < 0 ∨ cx 87 ≤ ((2 + (2 * x1)) + 1).toNatClampNeg)) ∧ True) (by decide +kernel) rfl ⟨⟨rfl, rfl⟩, ⟨rfl, g_1⟩, ⟨rfl, rfl⟩, ⟨rfl, g_2⟩, trivial⟩ ?_
  cases e
  exact q_vret rfl k.1 k.2 (by decide +kernel)
theorem s_R_lays3 {E : pE} {x1 : Int32} {x2 : Int32} {x3 : Int32} {h : pH}  {v : pH} (e : f_R_lays3 x1 x2 x3 h = some v) : Ct E M_R_lays3 [.ref 79, .int x1, .int x2, .int x3] h none v :=
  Ct_of ok_R_lays3 [some (.ref 79), some (.int x1), some (.int x2), some (.int x3)] (Nat.le_of_ble_eq_true rfl) rfl (b_R_lays3  e ⟨rfl, rfl⟩)
