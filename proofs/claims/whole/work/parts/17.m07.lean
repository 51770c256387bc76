def f_R_sides_J1 (x3 : Int32) (t0 : Int32) (t1 : Int32) (t2 : Int32) (h : pH) : Option Int32 :=
  (f_R_onSide t2 t1 t0 (f_R_full h) h).bind fun v_1 =>
  if 3 ≤ x3 then
    some v_1
  else
    (f_R_bitsOf v_1).bind fun v_4 =>
    some v_4
set_option maxHeartbeats 4000000 in
theorem b_R_sides_J1 {E : pE} {r : Option Value} {hr : pH} {x3 : Int32} {t0 : Int32} {t1 : Int32} {t2 : Int32} {h : pH}  {b : Int32} (e : f_R_sides_J1 x3 t0 t1 t2 h = some b) (k : (fun v : Int32 => r = some (.int v) ∧ hr = h) b) : Go E M_R_sides 57 [some (.ref 79), none, none, some (.int x3), none] [.int t0, .int t1, .int t2, .ref 79] h r hr := by
  unfold f_R_sides_J1 at e
  refine sl_ok ok_R_sides [.aload_n 0] (pc1 := 58) (ls1 := [some (.ref 79), none, none, some (.int x3), none]) (st1 := [.ref 79, .int t0, .int t1, .int t2, .ref 79]) (h1 := h) (P := True) (by decide +kernel) rfl trivial ?_
  refine q_callV ok_R_full (as := []) (st := [.int t0, .int t1, .int t2, .ref 79]) ⟨wd_266, wd_267, wd_268, wd_7, ds_R_full, Nat.le_of_ble_eq_true rfl, Nat.le_of_ble_eq_true rfl⟩ (s_R_full ) rfl ⟨rfl, rfl⟩ (ci := 12) rfl (fun v hv => by cases hv; rfl) (Nat.le_of_ble_eq_true rfl) (by decide +kernel) rfl ?_
  obtain ⟨v_1, e_2, e⟩ := bi_s e
  refine q_callV ok_R_onSide (as := [.int t2, .int t1, .int t0, .int (f_R_full h)]) (st := []) ⟨wd_260, wd_261, wd_262, wd_7, ds_R_onSide, Nat.le_of_ble_eq_true rfl, Nat.le_of_ble_eq_true rfl⟩ (s_R_onSide  e_2) rfl ⟨rfl, rfl⟩ (ci := 12) rfl (fun v hv => by cases hv; rfl) (Nat.le_of_ble_eq_true rfl) (by decide +kernel) rfl ?_
  refine sl_ok ok_R_sides [.istore 4, .iload_n 3, .iconst 3] (pc1 := 68) (ls1 := [some (.ref 79), none, none, some (.int x3), some (.int v_1)]) (st1 := [.int 3, .int x3]) (h1 := h) (P := True) (by decide +kernel) rfl trivial ?_
  refine q_icmp_ge (off := 11) (tgt := 79) (by decide +kernel) (by decide) (fun c_3 => ?_) (fun c_3 => ?_)
  · have e := it_t c_3 e
    refine sl_ok ok_R_sides [.iload 4] (pc1 := 81) (ls1 := [some (.ref 79), none, none, some (.int x3), some (.int v_1)]) (st1 := [.int v_1]) (h1 := h) (P := True) (by decide +kernel) rfl trivial ?_
    cases e
    exact q_iret rfl k.1 k.2 (by decide +kernel)
  · have e := it_f c_3 e
    refine sl_ok ok_R_sides [.iload 4] (pc1 := 73) (ls1 := [some (.ref 79), none, none, some (.int x3), some (.int v_1)]) (st1 := [.int v_1]) (h1 := h) (P := True) (by decide +kernel) rfl trivial ?_
    obtain ⟨v_4, e_5, e⟩ := bi_s e
    refine q_callS ok_R_bitsOf (as := [.int v_1]) (st := []) ⟨wd_304, wd_305, wd_7, ds_R_bitsOf, Nat.le_of_ble_eq_true rfl, Nat.le_of_ble_eq_true rfl⟩ (s_R_bitsOf  e_5) rfl (fun v hv => by cases hv; rfl) (Nat.le_of_ble_eq_true rfl) (by decide +kernel) rfl ?_
    refine q_goto (off := 5) (tgt := 81) (by decide) (by decide +kernel) ?_
    cases e
    exact q_iret rfl k.1 k.2 (by decide +kernel)
def f_R_sides (x1 : Int32) (x2 : Int32) (x3 : Int32) (h : pH) : Option Int32 :=
  if (f_R_isPoint x1 h) = 0 then
    some (-1)
  else
    if (f_R_isPoint x2 h) = 0 then
      some (-1)
    else
      if x1 = x2 then
        some (-1)
      else
        if (f_R_in x3 (0 : Int32) (5 : Int32)) = 0 then
          some (-1)
        else
          if (jrem x3 3) = 0 then
            f_R_sides_J1 x3 1 x2 x1 h
          else
            if (jrem x3 3) = 1 then
              f_R_sides_J1 x3 (-1) x2 x1 h
            else
              f_R_sides_J1 x3 0 x2 x1 h
set_option maxHeartbeats 4000000 in
theorem b_R_sides {E : pE} {r : Option Value} {hr : pH} {x1 : Int32} {x2 : Int32} {x3 : Int32} {h : pH}  {b : Int32} (e : f_R_sides x1 x2 x3 h = some b) (k : (fun v : Int32 => r = some (.int v) ∧ hr = h) b) : Go E M_R_sides 0 [some (.ref 79), some (.int x1), some (.int x2), some (.int x3), none] [] h r hr := by
  unfold f_R_sides at e
  refine sl_ok ok_R_sides [.aload_n 0, .iload_n 1] (pc1 := 2) (ls1 := [some (.ref 79), some (.int x1), some (.int x2), some (.int x3), none]) (st1 := [.int x1, .ref 79]) (h1 := h) (P := True) (by decide +kernel) rfl trivial ?_
  refine q_callV ok_R_isPoint (as := [.int x1]) (st := []) ⟨wd_179, wd_180, wd_181, wd_7, ds_R_isPoint, Nat.le_of_ble_eq_true rfl, Nat.le_of_ble_eq_true rfl⟩ (s_R_isPoint ) rfl ⟨rfl, rfl⟩ (ci := 12) rfl (fun v hv => by cases hv; rfl) (Nat.le_of_ble_eq_true rfl) (by decide +kernel) rfl ?_
  refine q_if_eq (off := 25) (tgt := 30) (by decide +kernel) (by decide) (fun c_1 => ?_) (fun c_1 => ?_)
  · have e := it_t c_1 e
    refine sl_ok ok_R_sides [.iconst (-1)] (pc1 := 31) (ls1 := [some (.ref 79), some (.int x1), some (.int x2), some (.int x3), none]) (st1 := [.int (-1)]) (h1 := h) (P := True) (by decide +kernel) rfl trivial ?_
    cases e
    exact q_iret rfl k.1 k.2 (by decide +kernel)
  · have e := it_f c_1 e
    refine sl_ok ok_R_sides [.aload_n 0, .iload_n 2] (pc1 := 10) (ls1 := [some (.ref 79), some (.int x1), some (.int x2), some (.int x3), none]) (st1 := [.int x2, .ref 79]) (h1 := h) (P := True) (by decide +kernel) rfl trivial ?_
    refine q_callV ok_R_isPoint (as := [.int x2]) (st := []) ⟨wd_179, wd_180, wd_181, wd_7, ds_R_isPoint, Nat.le_of_ble_eq_true rfl, Nat.le_of_ble_eq_true rfl⟩ (s_R_isPoint ) rfl ⟨rfl, rfl⟩ (ci := 12) rfl (fun v hv => by cases hv; rfl) (Nat.le_of_ble_eq_true rfl) (by decide +kernel) rfl ?_
    refine q_if_eq (off := 17) (tgt := 30) (by decide +kernel) (by decide) (fun c_2 => ?_) (fun c_2 => ?_)
    · have e := it_t c_2 e
      refine sl_ok ok_R_sides [.iconst (-1)] (pc1 := 31) (ls1 := [some (.ref 79), some (.int x1), some (.int x2), some (.int x3), none]) (st1 := [.int (-1)]) (h1 := h) (P := True) (by decide +kernel) rfl trivial ?_
      cases e
      exact q_iret rfl k.1 k.2 (by decide +kernel)
    · have e := it_f c_2 e
      refine sl_ok ok_R_sides [.iload_n 1, .iload_n 2] (pc1 := 18) (ls1 := [some (.ref 79), some (.int x1), some (.int x2), some (.int x3), none]) (st1 := [.int x2, .int x1]) (h1 := h) (P := True) (by decide +kernel) rfl trivial ?_
      refine q_icmp_eq (off := 12) (tgt := 30) (by decide +kernel) (by decide) (fun c_3 => ?_) (fun c_3 => ?_)
      · have e := it_t c_3 e
        refine sl_ok ok_R_sides [.iconst (-1)] (pc1 := 31) (ls1 := [some (.ref 79), some (.int x1), some (.int x2), some (.int x3), none]) (st1 := [.int (-1)]) (h1 := h) (P := True) (by decide +kernel) rfl trivial ?_
        cases e
        exact q_iret rfl k.1 k.2 (by decide +kernel)
      · have e := it_f c_3 e
        refine sl_ok ok_R_sides [.iload_n 3, .iconst 0, .iconst 5] (pc1 := 24) (ls1 := [some (.ref 79), some (.int x1), some (.int x2), some (.int x3), none]) (st1 := [.int 5, .int 0, .int x3]) (h1 := h) (P := True) (by decide +kernel) rfl trivial ?_
        refine q_callS ok_R_in (as := [.int x3, .int 0, .int 5]) (st := []) ⟨wd_127, wd_128, wd_7, ds_R_in, Nat.le_of_ble_eq_true rfl, Nat.le_of_ble_eq_true rfl⟩ (s_R_in ) rfl (fun v hv => by cases hv; rfl) (Nat.le_of_ble_eq_true rfl) (by decide +kernel) rfl ?_
        refine q_if_ne (off := 5) (tgt := 32) (by decide +kernel) (by decide) (fun c_4 => ?_) (fun c_4 => ?_)
        · have e := it_f c_4 e
          refine sl_ok ok_R_sides [.aload_n 0, .iload_n 1, .iload_n 2, .iload_n 3, .iconst 3, .irem] (pc1 := 38) (ls1 := [some (.ref 79), some (.int x1), some (.int x2), some (.int x3), none]) (st1 := [.int (jrem x3 3), .int x2, .int x1, .ref 79]) (h1 := h) (P := (¬ (3 : Int32) = 0) ∧ True) (by decide +kernel) rfl ⟨(by decide), trivial⟩ ?_
          refine q_if_ne (off := 7) (tgt := 45) (by decide +kernel) (by decide) (fun c_5 => ?_) (fun c_5 => ?_)
          · have e := it_f c_5 e
            refine sl_ok ok_R_sides [.iload_n 3, .iconst 3, .irem, .iconst 1] (pc1 := 49) (ls1 := [some (.ref 79), some (.int x1), some (.int x2), some (.int x3), none]) (st1 := [.int 1, .int (jrem x3 3), .int x2, .int x1, .ref 79]) (h1 := h) (P := (¬ (3 : Int32) = 0) ∧ True) (by decide +kernel) rfl ⟨(by decide), trivial⟩ ?_
            refine q_icmp_ne (off := 7) (tgt := 56) (by decide +kernel) (by decide) (fun c_6 => ?_) (fun c_6 => ?_)
            · have e := it_f c_6 e
              refine sl_ok ok_R_sides [.iconst 0] (pc1 := 57) (ls1 := [some (.ref 79), some (.int x1), some (.int x2), some (.int x3), none]) (st1 := [.int 0, .int x2, .int x1, .ref 79]) (h1 := h) (P := True) (by decide +kernel) rfl trivial ?_
              refine Go.sb [some (.ref 79), none, none, some (.int x3), none] (And.intro rfl (And.intro rfl trivial)) ?_
              exact b_R_sides_J1  e k
            · have e := it_t c_6 e
              refine sl_ok ok_R_sides [.iconst (-1)] (pc1 := 53) (ls1 := [some (.ref 79), some (.int x1), some (.int x2), some (.int x3), none]) (st1 := [.int (-1), .int x2, .int x1, .ref 79]) (h1 := h) (P := True) (by decide +kernel) rfl trivial ?_
              refine q_goto (off := 4) (tgt := 57) (by decide) (by decide +kernel) ?_
              refine Go.sb [some (.ref 79), none, none, some (.int x3), none] (And.intro rfl (And.intro rfl trivial)) ?_
              exact b_R_sides_J1  e k
          · have e := it_t c_5 e
            refine sl_ok ok_R_sides [.iconst 1] (pc1 := 42) (ls1 := [some (.ref 79), some (.int x1), some (.int x2), some (.int x3), none]) (st1 := [.int 1, .int x2, .int x1, .ref 79]) (h1 := h) (P := True) (by decide +kernel) rfl trivial ?_
            refine q_goto (off := 15) (tgt := 57) (by decide) (by decide +kernel) ?_
            refine Go.sb [some (.ref 79), none, none, some (.int x3), none] (And.intro rfl (And.intro rfl trivial)) ?_
            exact b_R_sides_J1  e k
        · have e := it_t c_4 e
          refine sl_ok ok_R_sides [.iconst (-1)] (pc1 := 31) (ls1 := [some (.ref 79), some (.int x1), some (.int x2), some (.int x3), none]) (st1 := [.int (-1)]) (h1 := h) (P := True) (by decide +kernel) rfl trivial ?_
          cases e
          exact q_iret rfl k.1 k.2 (by decide +kernel)
theorem s_R_sides {E : pE} {x1 : Int32} {x2 : Int32} {x3 : Int32} {h : pH}  {v : Int32} (e : f_R_sides x1 x2 x3 h = some v) : Ct E M_R_sides [.ref 79, .int x1, .int x2, .int x3] h (some (.int v)) h :=
  Ct_of ok_R_sides [some (.ref 79), some (.int x1), some (.int x2), some (.int x3), none] (Nat.le_of_ble_eq_true rfl) rfl (b_R_sides  e ⟨rfl, rfl⟩)
def f_Hulls_lowestOf_L1 (o0 : Nat) (x1 : Int32) (h : pH) (x2 : Int32) (x3 : Int32) : Option ((Int32 × Int32) ⊕ Int32) :=
  if (hI h o0 2) ≤ x3 then
    some (.inr x2)
  else
    if (f_C_bit x1 x3) = 1 then
      if x2 = (-1) then
        some (.inl (x3, (x3 + 1)))
      else
        if x3 < 0 ∨ 12 ≤ x3.toNatClampNeg then none else
        if x2 < 0 ∨ 12 ≤ x2.toNatClampNeg then none else
        if (hI h (rf o0 1) x3.toNatClampNeg) < (hI h (rf o0 1) x2.toNatClampNeg) then
          some (.inl (x3, (x3 + 1)))
        else
          if (hI h (rf o0 1) x3.toNatClampNeg) = (hI h (rf o0 1) x2.toNatClampNeg) then
            if (hI h (rf o0 0) x2.toNatClampNeg) ≤ (hI h (rf o0 0) x3.toNatClampNeg) then
              some (.inl (x2, (x3 + 1)))
            else
              some (.inl (x3, (x3 + 1)))
          else
            some (.inl (x2, (x3 + 1)))
    else
      some (.inl (x2, (x3 + 1)))
set_option maxHeartbeats 4000000 in
theorem b_Hulls_lowestOf_L1 {E : pE} {r : Option Value} {hr : pH} {o0 : Nat} {x1 : Int32} {h : pH} {x2 : Int32} {x3 : Int32} (ho0 : ak o0 = 0 ∧ cx o0 = 0) {b : ((Int32 × Int32) ⊕ Int32)} (e : f_Hulls_lowestOf_L1 o0 x1 h x2 x3 = some b) (k : (Sum.elim (fun s : (Int32 × Int32) => Go E M_Hulls_lowestOf 4 [some (.ref o0), some (.int x1), some (.int s.1), some (.int s.2)] [] h r hr) (fun v : Int32 => r = some (.int v) ∧ hr = h)) b) : Go E M_Hulls_lowestOf 4 [some (.ref o0), some (.int x1), some (.int x2), some (.int x3)] [] h r hr := by
  unfold f_Hulls_lowestOf_L1 at e
  refine sl_ok ok_Hulls_lowestOf [.iload_n 3, .aload_n 0, .getfield 59] (pc1 := 9) (ls1 := [some (.ref o0), some (.int x1), some (.int x2), some (.int x3)]) (st1 := [.int (hI h o0 2), .int x3]) (h1 := h) (P := (ak o0 = 0 ∧ cx o0 = 0) ∧ True) (by decide +kernel) rfl ⟨ho0, trivial⟩ ?_
  refine q_icmp_ge (off := 70) (tgt := 79) (by decide +kernel) (by decide) (fun c_1 => ?_) (fun c_1 => ?_)
  · have e := it_t c_1 e
    refine sl_ok ok_Hulls_lowestOf [.iload_n 2] (pc1 := 80) (ls1 := [some (.ref o0), some (.int x1), some (.int x2), some (.int x3)]) (st1 := [.int x2]) (h1 := h) (P := True) (by decide +kernel) rfl trivial ?_
    cases e
    exact q_iret rfl k.1 k.2 (by decide +kernel)
  · have e := it_f c_1 e
    refine sl_ok ok_Hulls_lowestOf [.iload_n 1, .iload_n 3] (pc1 := 14) (ls1 := [some (.ref o0), some (.int x1), some (.int x2), some (.int x3)]) (st1 := [.int x3, .int x1]) (h1 := h) (P := True) (by decide +kernel) rfl trivial ?_
    refine q_callSN ok_C_bit (as := [.int x1, .int x3]) (st := []) ⟨(List.mem_of_getElem? (i := 13) rfl), wd_201, wd_48, ds_C_bit, Nat.le_of_ble_eq_true rfl, Nat.le_of_ble_eq_true rfl⟩ (s_C_bit ) rfl (fun v hv => by cases hv; rfl) (Nat.le_of_ble_eq_true rfl) (by decide +kernel) rfl ?_
    refine sl_ok ok_Hulls_lowestOf [.iconst 1] (pc1 := 18) (ls1 := [some (.ref o0), some (.int x1), some (.int x2), some (.int x3)]) (st1 := [.int 1, .int (f_C_bit x1 x3)]) (h1 := h) (P := True) (by decide +kernel) rfl trivial ?_
    refine q_icmp_ne (off := 55) (tgt := 73) (by decide +kernel) (by decide) (fun c_2 => ?_) (fun c_2 => ?_)
    · have e := it_f c_2 e
      refine sl_ok ok_Hulls_lowestOf [.iinc 3 1] (pc1 := 76) (ls1 := [some (.ref o0), some (.int x1), some (.int x2), some (.int (x3 + 1))]) (st1 := []) (h1 := h) (P := True) (by decide +kernel) rfl trivial ?_
      refine q_goto (off := -72) (tgt := 4) (by decide) (by decide +kernel) ?_
      cases e
      exact k
    · have e := it_t c_2 e
      refine sl_ok ok_Hulls_lowestOf [.iload_n 2, .iconst (-1)] (pc1 := 23) (ls1 := [some (.ref o0), some (.int x1), some (.int x2), some (.int x3)]) (st1 := [.int (-1), .int x2]) (h1 := h) (P := True) (by decide +kernel) rfl trivial ?_
      refine q_icmp_eq (off := 48) (tgt := 71) (by decide +kernel) (by decide) (fun c_3 => ?_) (fun c_3 => ?_)
      · have e := it_t c_3 e
        refine sl_ok ok_Hulls_lowestOf [.iload_n 3, .istore_n 2, .iinc 3 1] (pc1 := 76) (ls1 := [some (.ref o0), some (.int x1), some (.int x3), some (.int (x3 + 1))]) (st1 := []) (h1 := h) (P := True) (by decide +kernel) rfl trivial ?_
        refine q_goto (off := -72) (tgt := 4) (by decide) (by decide +kernel) ?_
        cases e
        exact k
      · have e := it_f c_3 e
        obtain ⟨g_4, e⟩ := it_g e
        obtain ⟨g_5, e⟩ := it_g e
        refine sl_ok ok_Hulls_lowestOf [.aload_n 0, .getfield 75, .iload_n 3, .iaload, .aload_n 0, .getfield 75, .iload_n 2, .iaload] (pc1 := 38) (ls1 := [some (.ref o0), some (.int x1), some (.int x2), some (.int x3)]) (st1 := [.int (hI h (rf o0 1) x2.toNatClampNeg), .int (hI h (rf o0 1) x3.toNatClampNeg)]) (h1 := h) (P := (ak o0 = 0 ∧ cx o0 = 0) ∧ (ak (rf o0 1) = 1 ∧ ¬ (x3 < 0 ∨ cx (rf o0 1) ≤ x3.toNatClampNeg)) ∧ (ak o0 = 0 ∧ cx o0 = 0) ∧ (ak (rf o0 1) = 1 ∧ ¬ (x2 < 0 ∨ cx (rf o0 1) ≤ x2.toNatClampNeg)) ∧ True) (by decide +kernel) rfl ⟨ho0, ⟨(st_0_1 ho0).1, (by rw [(st_0_1 ho0).2]; exact g_4)⟩, ho0, ⟨(st_0_1 ho0).1, (by rw [(st_0_1 ho0).2]; exact g_5)⟩, trivial⟩ ?_
        refine q_icmp_lt (off := 33) (tgt := 71) (by decide +kernel) (by decide) (fun c_6 => ?_) (fun c_6 => ?_)
        · have e := it_t c_6 e
          refine sl_ok ok_Hulls_lowestOf [.iload_n 3, .istore_n 2, .iinc 3 1] (pc1 := 76) (ls1 := [some (.ref o0), some (.int x1), some (.int x3), some (.int (x3 + 1))]) (st1 := []) (h1 := h) (P := True) (by decide +kernel) rfl trivial ?_
          refine q_goto (off := -72) (tgt := 4) (by decide) (by decide +kernel) ?_
          cases e
          exact k
        · have e := it_f c_6 e
          refine sl_ok ok_Hulls_lowestOf [.aload_n 0, .getfield 75, .iload_n 3, .iaload, .aload_n 0, .getfield 75, .iload_n 2, .iaload] (pc1 := 53) (ls1 := [some (.ref o0), some (.int x1), some (.int x2), some (.int x3)]) (st1 := [.int (hI h (rf o0 1) x2.toNatClampNeg), .int (hI h (rf o0 1) x3.toNatClampNeg)]) (h1 := h) (P := (ak o0 = 0 ∧ cx o0 = 0) ∧ (ak (rf o0 1) = 1 ∧ ¬ (x3 < 0 ∨ cx (rf o0 1) ≤ x3.toNatClampNeg)) ∧ (ak o0 = 0 ∧ cx o0 = 0) ∧ (ak (rf o0 1) = 1 ∧ ¬ (x2 < 0 ∨ cx (rf o0 1) ≤ x2.toNatClampNeg)) ∧ True) (by decide +kernel) rfl ⟨ho0, ⟨(st_0_1 ho0).1, (by rw [(st_0_1 ho0).2]; exact g_4)⟩, ho0, ⟨(st_0_1 ho0).1, (by rw [(st_0_1 ho0).2]; exact g_5)⟩, trivial⟩ ?_
          refine q_icmp_ne (off := 20) (tgt := 73) (by decide +kernel) (by decide) (fun c_7 => ?_) (fun c_7 => ?_)
          · have e := it_f c_7 e
            refine sl_ok ok_Hulls_lowestOf [.iinc 3 1] (pc1 := 76) (ls1 := [some (.ref o0), some (.int x1), some (.int x2), some (.int (x3 + 1))]) (st1 := []) (h1 := h) (P := True) (by decide +kernel) rfl trivial ?_
            refine q_goto (off := -72) (tgt := 4) (by decide) (by decide +kernel) ?_
            cases e
            exact k
          · have e := it_t c_7 e
            refine sl_ok ok_Hulls_lowestOf [.aload_n 0, .getfield 78, .iload_n 3, .iaload, .aload_n 0, .getfield 78, .iload_n 2, .iaload] (pc1 := 68) (ls1 := [some (.ref o0), some (.int x1), some (.int x2), some (.int x3)]) (st1 := [.int (hI h (rf o0 0) x2.toNatClampNeg), .int (hI h (rf o0 0) x3.toNatClampNeg)]) (h1 := h) (P := (ak o0 = 0 ∧ cx o0 = 0) ∧ (ak (rf o0 0) = 1 ∧ ¬ (x3 < 0 ∨ cx (rf o0 0) ≤ x3.toNatClampNeg)) ∧ (ak o0 = 0 ∧ cx o0 = 0) ∧ (ak (rf o0 0) = 1 ∧ ¬ (x2 < 0 ∨ cx (rf o0 0) ≤ x2.toNatClampNeg)) ∧ True) (by decide +kernel) rfl ⟨ho0, ⟨(st_0_0 ho0).1, (by rw [(st_0_0 ho0).2]; exact g_4)⟩, ho0, ⟨(st_0_0 ho0).1, (by rw [(st_0_0 ho0).2]; exact g_5)⟩, trivial⟩ ?_
            refine q_icmp_ge (off := 5) (tgt := 73) (by decide +kernel) (by decide) (fun c_8 => ?_) (fun c_8 => ?_)
            · have e := it_t c_8 e
              refine sl_ok ok_Hulls_lowestOf [.iinc 3 1] (pc1 := 76) (ls1 := [some (.ref o0), some (.int x1), some (.int x2), some (.int (x3 + 1))]) (st1 := []) (h1 := h) (P := True) (by decide +kernel) rfl trivial ?_
              refine q_goto (off := -72) (tgt := 4) (by decide) (by decide +kernel) ?_
              cases e
              exact k
            · have e := it_f c_8 e
              refine sl_ok ok_Hulls_lowestOf [.iload_n 3, .istore_n 2, .iinc 3 1] (pc1 := 76) (ls1 := [some (.ref o0), some (.int x1), some (.int x3), some (.int (x3 + 1))]) (st1 := []) (h1 := h) (P := True) (by decide +kernel) rfl trivial ?_
              refine q_goto (off := -72) (tgt := 4) (by decide) (by decide +kernel) ?_
              cases e
              exact k
def f_Hulls_lowestOf (o0 : Nat) (x1 : Int32) (h : pH) : Option Int32 :=
  lp (fun s => f_Hulls_lowestOf_L1 o0 x1 h s.1 s.2) lpN ((-1), 0)
set_option maxHeartbeats 4000000 in
theorem b_Hulls_lowestOf {E : pE} {r : Option Value} {hr : pH} {o0 : Nat} {x1 : Int32} {h : pH} (ho0 : ak o0 = 0 ∧ cx o0 = 0) {b : Int32} (e : f_Hulls_lowestOf o0 x1 h = some b) (k : (fun v : Int32 => r = some (.int v) ∧ hr = h) b) : Go E M_Hulls_lowestOf 0 [some (.ref o0), some (.int x1), none, none] [] h r hr := by
  unfold f_Hulls_lowestOf at e
  refine sl_ok ok_Hulls_lowestOf [.iconst (-1), .istore_n 2, .iconst 0, .istore_n 3] (pc1 := 4) (ls1 := [some (.ref o0), some (.int x1), some (.int (-1)), some (.int 0)]) (st1 := []) (h1 := h) (P := True) (by decide +kernel) rfl trivial ?_
  exact lp_in e (fun s => Go E M_Hulls_lowestOf 4 [some (.ref o0), some (.int x1), some (.int s.1), some (.int s.2)] [] h r hr) (fun v : Int32 => r = some (.int v) ∧ hr = h) (fun _ _ e k => b_Hulls_lowestOf_L1 ho0 e k) k
theorem s_Hulls_lowestOf {E : pE} {o0 : Nat} {x1 : Int32} {h : pH} (ho0 : ak o0 = 0 ∧ cx o0 = 0) {v : Int32} (e : f_Hulls_lowestOf o0 x1 h = some v) : Ct E M_Hulls_lowestOf [.ref o0, .int x1] h (some (.int v)) h :=
  Ct_of ok_Hulls_lowestOf [some (.ref o0), some (.int x1), none, none] (Nat.le_of_ble_eq_true rfl) rfl (b_Hulls_lowestOf ho0 e ⟨rfl, rfl⟩)
def f_Hulls_nextCorner_L1 (o0 : Nat) (x1 : Int32) (x2 : Int32) (h : pH) (x3 : Int32) : Option (Int32 ⊕ Int32) :=
  if (hI h o0 2) ≤ x3 then
    some (.inr x2)
  else
    if x3 = x2 then
      some (.inl (x3 + 1))
    else
      if (f_C_bit x1 x3) = 1 then
        (f_Cloud_sideBits o0 x2 x3 ((-1) : Int32) h).bind fun v_4 =>
        if (v_4 &&& x1) = 0 then
          some (.inr x3)
        else
          some (.inl (x3 + 1))
      else
        some (.inl (x3 + 1))
set_option maxHeartbeats 4000000 in
theorem b_Hulls_nextCorner_L1 {E : pE} {r : Option Value} {hr : pH} {o0 : Nat} {x1 : Int32} {x2 : Int32} {h : pH} {x3 : Int32} (ho0 : ak o0 = 0 ∧ cx o0 = 0) {b : (Int32 ⊕ Int32)} (e : f_Hulls_nextCorner_L1 o0 x1 x2 h x3 = some b) (k : (Sum.elim (fun s : Int32 => Go E M_Hulls_nextCorner 2 [some (.ref o0), some (.int x1), some (.int x2), some (.int s)] [] h r hr) (fun v : Int32 => r = some (.int v) ∧ hr = h)) b) : Go E M_Hulls_nextCorner 2 [some (.ref o0), some (.int x1), some (.int x2), some (.int x3)] [] h r hr := by
  unfold f_Hulls_nextCorner_L1 at e
  refine sl_ok ok_Hulls_nextCorner [.iload_n 3, .aload_n 0, .getfield 59] (pc1 := 7) (ls1 := [some (.ref o0), some (.int x1), some (.int x2), some (.int x3)]) (st1 := [.int (hI h o0 2), .int x3]) (h1 := h) (P := (ak o0 = 0 ∧ cx o0 = 0) ∧ True) (by decide +kernel) rfl ⟨ho0, trivial⟩ ?_
  refine q_icmp_ge (off := 37) (tgt := 44) (by decide +kernel) (by decide) (fun c_1 => ?_) (fun c_1 => ?_)
  · have e := it_t c_1 e
    refine sl_ok ok_Hulls_nextCorner [.iload_n 2] (pc1 := 45) (ls1 := [some (.ref o0), some (.int x1), some (.int x2), some (.int x3)]) (st1 := [.int x2]) (h1 := h) (P := True) (by decide +kernel) rfl trivial ?_
    cases e
    exact q_iret rfl k.1 k.2 (by decide +kernel)
  · have e := it_f c_1 e
    refine sl_ok ok_Hulls_nextCorner [.iload_n 3, .iload_n 2] (pc1 := 12) (ls1 := [some (.ref o0), some (.int x1), some (.int x2), some (.int x3)]) (st1 := [.int x2, .int x3]) (h1 := h) (P := True) (by decide +kernel) rfl trivial ?_
    refine q_icmp_eq (off := 26) (tgt := 38) (by decide +kernel) (by decide) (fun c_2 => ?_) (fun c_2 => ?_)
    · have e := it_t c_2 e
      refine sl_ok ok_Hulls_nextCorner [.iinc 3 1] (pc1 := 41) (ls1 := [some (.ref o0), some (.int x1), some (.int x2), some (.int (x3 + 1))]) (st1 := []) (h1 := h) (P := True) (by decide +kernel) rfl trivial ?_
      refine q_goto (off := -39) (tgt := 2) (by decide) (by decide +kernel) ?_
      cases e
      exact k
    · have e := it_f c_2 e
      refine sl_ok ok_Hulls_nextCorner [.iload_n 1, .iload_n 3] (pc1 := 17) (ls1 := [some (.ref o0), some (.int x1), some (.int x2), some (.int x3)]) (st1 := [.int x3, .int x1]) (h1 := h) (P := True) (by decide +kernel) rfl trivial ?_
      refine q_callSN ok_C_bit (as := [.int x1, .int x3]) (st := []) ⟨(List.mem_of_getElem? (i := 13) rfl), wd_201, wd_48, ds_C_bit, Nat.le_of_ble_eq_true rfl, Nat.le_of_ble_eq_true rfl⟩ (s_C_bit ) rfl (fun v hv => by cases hv; rfl) (Nat.le_of_ble_eq_true rfl) (by decide +kernel) rfl ?_
      refine sl_ok ok_Hulls_nextCorner [.iconst 1] (pc1 := 21) (ls1 := [some (.ref o0), some (.int x1), some (.int x2), some (.int x3)]) (st1 := [.int 1, .int (f_C_bit x1 x3)]) (h1 := h) (P := True) (by decide +kernel) rfl trivial ?_
      refine q_icmp_ne (off := 17) (tgt := 38) (by decide +kernel) (by decide) (fun c_3 => ?_) (fun c_3 => ?_)
      · have e := it_f c_3 e
        refine sl_ok ok_Hulls_nextCorner [.iinc 3 1] (pc1 := 41) (ls1 := [some (.ref o0), some (.int x1), some (.int x2), some (.int (x3 + 1))]) (st1 := []) (h1 := h) (P := True) (by decide +kernel) rfl trivial ?_
        refine q_goto (off := -39) (tgt := 2) (by decide) (by decide +kernel) ?_
        cases e
        exact k
      · have e := it_t c_3 e
        refine sl_ok ok_Hulls_nextCorner [.aload_n 0, .iload_n 2, .iload_n 3, .iconst (-1)] (pc1 := 28) (ls1 := [some (.ref o0), some (.int x1), some (.int x2), some (.int x3)]) (st1 := [.int (-1), .int x3, .int x2, .ref o0]) (h1 := h) (P := True) (by decide +kernel) rfl trivial ?_
        obtain ⟨v_4, e_5, e⟩ := bi_s e
        refine q_callV ok_Cloud_sideBits (as := [.int x2, .int x3, .int (-1)]) (st := []) ⟨wd_202, wd_203, wd_204, wd_14, ds_Cloud_sideBits, Nat.le_of_ble_eq_true rfl, Nat.le_of_ble_eq_true rfl⟩ (s_Cloud_sideBits ho0 e_5) rfl ho0 (ci := 0) rfl (fun v hv => by cases hv; rfl) (Nat.le_of_ble_eq_true rfl) (by decide +kernel) rfl ?_
        refine sl_ok ok_Hulls_nextCorner [.iload_n 1, .iand] (pc1 := 33) (ls1 := [some (.ref o0), some (.int x1), some (.int x2), some (.int x3)]) (st1 := [.int (v_4 &&& x1)]) (h1 := h) (P := True) (by decide +kernel) rfl trivial ?_
        refine q_if_ne (off := 5) (tgt := 38) (by decide +kernel) (by decide) (fun c_6 => ?_) (fun c_6 => ?_)
        · have e := it_f c_6 e
          refine sl_ok ok_Hulls_nextCorner [.iinc 3 1] (pc1 := 41) (ls1 := [some (.ref o0), some (.int x1), some (.int x2), some (.int (x3 + 1))]) (st1 := []) (h1 := h) (P := True) (by decide +kernel) rfl trivial ?_
          refine q_goto (off := -39) (tgt := 2) (by decide) (by decide +kernel) ?_
          cases e
          exact k
        · have e := it_t c_6 e
          refine sl_ok ok_Hulls_nextCorner [.iload_n 3] (pc1 := 37) (ls1 := [some (.ref o0), some (.int x1), some (.int x2), some (.int x3)]) (st1 := [.int x3]) (h1 := h) (P := True) (by decide +kernel) rfl trivial ?_
          cases e
          exact q_iret rfl k.1 k.2 (by decide +kernel)
def f_Hulls_nextCorner (o0 : Nat) (x1 : Int32) (x2 : Int32) (h : pH) : Option Int32 :=
  lp (fun s => f_Hulls_nextCorner_L1 o0 x1 x2 h s) lpN 0
set_option maxHeartbeats 4000000 in
theorem b_Hulls_nextCorner {E : pE} {r : Option Value} {hr : pH} {o0 : Nat} {x1 : Int32} {x2 : Int32} {h : pH} (ho0 : ak o0 = 0 ∧ cx o0 = 0) {b : Int32} (e : f_Hulls_nextCorner o0 x1 x2 h = some b) (k : (fun v : Int32 => r = some (.int v) ∧ hr = h) b) : Go E M_Hulls_nextCorner 0 [some (.ref o0), some (.int x1), some (.int x2), none] [] h r hr := by
  unfold f_Hulls_nextCorner at e
  refine sl_ok ok_Hulls_nextCorner [.iconst 0, .istore_n 3] (pc1 := 2) (ls1 := [some (.ref o0), some (.int x1), some (.int x2), some (.int 0)]) (st1 := []) (h1 := h) (P := True) (by decide +kernel) rfl trivial ?_
  exact lp_in e (fun s => Go E M_Hulls_nextCorner 2 [some (.ref o0), some (.int x1), some (.int x2), some (.int s)] [] h r hr) (fun v : Int32 => r = some (.int v) ∧ hr = h) (fun _ _ e k => b_Hulls_nextCorner_L1 ho0 e k) k
theorem s_Hulls_nextCorner {E : pE} {o0 : Nat} {x1 : Int32} {x2 : Int32} {h : pH} (ho0 : ak o0 = 0 ∧ cx o0 = 0) {v : Int32} (e : f_Hulls_nextCorner o0 x1 x2 h = some v) : Ct E M_Hulls_nextCorner [.ref o0, .int x1, .int x2] h (some (.int v)) h :=
  Ct_of ok_Hulls_nextCorner [some (.ref o0), some (.int x1), some (.int x2), none] (Nat.le_of_ble_eq_true rfl) rfl (b_Hulls_nextCorner ho0 e ⟨rfl, rfl⟩)
def f_Hulls_walk_L1 (o1 : Nat) (x2 : Int32) (x3 : Int32) (x4 : Int32) (x5 : Int32) (h : pH) : Option ((Int32 × Int32 × pH) ⊕ pH) :=
  if x3 ≤ x5 then
    some (.inr h)
  else
    if 12 ≤ x5 then
      some (.inr h)
    else
      if x5 < 0 ∨ 12 ≤ x5.toNatClampNeg then none else
      (f_Hulls_nextCorner o1 x2 x4 (sI (sI h 16 x5.toNatClampNeg x4) 14 3 ((hI (sI h 16 x5.toNatClampNeg x4) 14 3) + 1))).bind fun v_4 =>
      some (.inl (v_4, (x5 + 1), (sI (sI h 16 x5.toNatClampNeg x4) 14 3 ((hI (sI h 16 x5.toNatClampNeg x4) 14 3) + 1))))
set_option maxHeartbeats 4000000 in
theorem b_Hulls_walk_L1 {E : pE} {r : Option Value} {hr : pH} {o1 : Nat} {x2 : Int32} {x3 : Int32} {x4 : Int32} {x5 : Int32} {h : pH} (ho1 : ak o1 = 0 ∧ cx o1 = 0) {b : ((Int32 × Int32 × pH) ⊕ pH)} (e : f_Hulls_walk_L1 o1 x2 x3 x4 x5 h = some b) (k : (Sum.elim (fun s : (Int32 × Int32 × pH) => Go E M_Hulls_walk 29 [some (.ref 14), some (.ref o1), some (.int x2), some (.int x3), some (.int s.1), some (.int s.2.1)] [] s.2.2 r hr) (fun v : pH => r = none ∧ hr = v)) b) : Go E M_Hulls_walk 29 [some (.ref 14), some (.ref o1), some (.int x2), some (.int x3), some (.int x4), some (.int x5)] [] h r hr := by
  unfold f_Hulls_walk_L1 at e
  refine sl_ok ok_Hulls_walk [.iload 5, .iload_n 3] (pc1 := 32) (ls1 := [some (.ref 14), some (.ref o1), some (.int x2), some (.int x3), some (.int x4), some (.int x5)]) (st1 := [.int x3, .int x5]) (h1 := h) (P := True) (by decide +kernel) rfl trivial ?_
  refine q_icmp_ge (off := 44) (tgt := 76) (by decide +kernel) (by decide) (fun c_1 => ?_) (fun c_1 => ?_)
  · have e := it_t c_1 e
    cases e
    exact q_vret rfl k.1 k.2 (by decide +kernel)
  · have e := it_f c_1 e
    refine sl_ok ok_Hulls_walk [.iload 5, .bipush 12] (pc1 := 39) (ls1 := [some (.ref 14), some (.ref o1), some (.int x2), some (.int x3), some (.int x4), some (.int x5)]) (st1 := [.int 12, .int x5]) (h1 := h) (P := True) (by decide +kernel) rfl trivial ?_
    refine q_icmp_ge (off := 37) (tgt := 76) (by decide +kernel) (by decide) (fun c_2 => ?_) (fun c_2 => ?_)
    · have e := it_t c_2 e
      cases e
      exact q_vret rfl k.1 k.2 (by decide +kernel)
    · have e := it_f c_2 e
      obtain ⟨g_3, e⟩ := it_g e
      refine sl_ok ok_Hulls_walk [.aload_n 0, .getfield 15, .iload 5, .iload 4, .iastore, .aload_n 0, .dup, .getfield 48, .iconst 1, .iadd, .putfield 48, .aload_n 1, .iload_n 2, .iload 4] (pc1 := 65) (ls1 := [some (.ref 14), some (.ref o1), some (.int x2), some (.int x3), some (.int x4), some (.int x5)]) (st1 := [.int x4, .int x2, .ref o1]) (h1 := (sI (sI h 16 x5.toNatClampNeg x4) 14 3 ((hI (sI h 16 x5.toNatClampNeg x4) 14 3) + 1))) (P := (ak 14 = 0 ∧ cx 14 = 4) ∧ (ak 16 = 1 ∧ ¬ (x5 < 0 ∨ cx 16 ≤ x5.toNatClampNeg)) ∧ (ak 14 = 0 ∧ cx 14 = 4) ∧ (ak 14 = 0 ∧ cx 14 = 4) ∧ True) (by decide +kernel) rfl ⟨⟨rfl, rfl⟩, ⟨rfl, g_3⟩, ⟨rfl, rfl⟩, ⟨rfl, rfl⟩, trivial⟩ ?_
      obtain ⟨v_4, e_5, e⟩ := bi_s e
      refine q_callS ok_Hulls_nextCorner (as := [.ref o1, .int x2, .int x4]) (st := []) ⟨wd_310, wd_311, wd_207, ds_Hulls_nextCorner, Nat.le_of_ble_eq_true rfl, Nat.le_of_ble_eq_true rfl⟩ (s_Hulls_nextCorner ho1 e_5) rfl (fun v hv => by cases hv; rfl) (Nat.le_of_ble_eq_true rfl) (by decide +kernel) rfl ?_
      refine sl_ok ok_Hulls_walk [.istore 4, .iinc 5 1] (pc1 := 73) (ls1 := [some (.ref 14), some (.ref o1), some (.int x2), some (.int x3), some (.int v_4), some (.int (x5 + 1))]) (st1 := []) (h1 := (sI (sI h 16 x5.toNatClampNeg x4) 14 3 ((hI (sI h 16 x5.toNatClampNeg x4) 14 3) + 1))) (P := True) (by decide +kernel) rfl trivial ?_
      refine q_goto (off := -44) (tgt := 29) (by decide) (by decide +kernel) ?_
      cases e
      exact k
def f_Hulls_walk (o1 : Nat) (h : pH) : Option pH :=
  (f_Hulls_cornersOf o1 (f_Cloud_everyone o1 h) h).bind fun v_1 =>
  (f_Hulls_lowestOf o1 v_1 h).bind fun v_3 =>
  lp (fun s => f_Hulls_walk_L1 o1 v_1 (f_J_bitCount v_1) s.1 s.2.1 s.2.2) lpN (v_3, 0, (sI h 14 3 0))
set_option maxHeartbeats 4000000 in
theorem b_Hulls_walk {E : pE} {r : Option Value} {hr : pH} {o1 : Nat} {h : pH} (ho1 : ak o1 = 0 ∧ cx o1 = 0) {b : pH} (e : f_Hulls_walk o1 h = some b) (k : (fun v : pH => r = none ∧ hr = v) b) : Go E M_Hulls_walk 0 [some (.ref 14), some (.ref o1), none, none, none, none] [] h r hr := by
  unfold f_Hulls_walk at e
  refine sl_ok ok_Hulls_walk [.aload_n 1, .aload_n 1] (pc1 := 2) (ls1 := [some (.ref 14), some (.ref o1), none, none, none, none]) (st1 := [.ref o1, .ref o1]) (h1 := h) (P := True) (by decide +kernel) rfl trivial ?_
  refine q_callV ok_Cloud_everyone (as := []) (st := [.ref o1]) ⟨wd_208, wd_209, wd_210, wd_14, ds_Cloud_everyone, Nat.le_of_ble_eq_true rfl, Nat.le_of_ble_eq_true rfl⟩ (s_Cloud_everyone ho1) rfl ho1 (ci := 0) rfl (fun v hv => by cases hv; rfl) (Nat.le_of_ble_eq_true rfl) (by decide +kernel) rfl ?_
  obtain ⟨v_1, e_2, e⟩ := bi_s e
  refine q_callS ok_Hulls_cornersOf (as := [.ref o1, .int (f_Cloud_everyone o1 h)]) (st := []) ⟨wd_306, wd_247, wd_207, ds_Hulls_cornersOf, Nat.le_of_ble_eq_true rfl, Nat.le_of_ble_eq_true rfl⟩ (s_Hulls_cornersOf ho1 e_2) rfl (fun v hv => by cases hv; rfl) (Nat.le_of_ble_eq_true rfl) (by decide +kernel) rfl ?_
  refine sl_ok ok_Hulls_walk [.istore_n 2, .iload_n 2] (pc1 := 10) (ls1 := [some (.ref 14), some (.ref o1), some (.int v_1), none, none, none]) (st1 := [.int v_1]) (h1 := h) (P := True) (by decide +kernel) rfl trivial ?_
  refine q_callS ok_J_bitCount (as := [.int v_1]) (st := []) ⟨wd_307, wd_302, wd_303, ds_J_bitCount, Nat.le_of_ble_eq_true rfl, Nat.le_of_ble_eq_true rfl⟩ (s_J_bitCount ) rfl (fun v hv => by cases hv; rfl) (Nat.le_of_ble_eq_true rfl) (by decide +kernel) rfl ?_
  refine sl_ok ok_Hulls_walk [.istore_n 3, .aload_n 1, .iload_n 2] (pc1 := 16) (ls1 := [some (.ref 14), some (.ref o1), some (.int v_1), some (.int (f_J_bitCount v_1)), none, none]) (st1 := [.int v_1, .ref o1]) (h1 := h) (P := True) (by decide +kernel) rfl trivial ?_
  obtain ⟨v_3, e_4, e⟩ := bi_s e
  refine q_callS ok_Hulls_lowestOf (as := [.ref o1, .int v_1]) (st := []) ⟨wd_308, wd_309, wd_207, ds_Hulls_lowestOf, Nat.le_of_ble_eq_true rfl, Nat.le_of_ble_eq_true rfl⟩ (s_Hulls_lowestOf ho1 e_4) rfl (fun v hv => by cases hv; rfl) (Nat.le_of_ble_eq_true rfl) (by decide +kernel) rfl ?_
  refine sl_ok ok_Hulls_walk [.istore 4, .aload_n 0, .iconst 0, .putfield 48, .iconst 0, .istore 5] (pc1 := 29) (ls1 := [some (.ref 14), some (.ref o1), some (.int v_1), some (.int (f_J_bitCount v_1)), some (.int v_3), some (.int 0)]) (st1 := []) (h1 := (sI h 14 3 0)) (P := (ak 14 = 0 ∧ cx 14 = 4) ∧ True) (by decide +kernel) rfl ⟨⟨rfl, rfl⟩, trivial⟩ ?_
  exact lp_in e (fun s => Go E M_Hulls_walk 29 [some (.ref 14), some (.ref o1), some (.int v_1), some (.int (f_J_bitCount v_1)), some (.int s.1), some (.int s.2.1)] [] s.2.2 r hr) (fun v : pH => r = none ∧ hr = v) (fun _ _ e k => b_Hulls_walk_L1 ho1 e k) k
theorem s_Hulls_walk {E : pE} {o1 : Nat} {h : pH} (ho1 : ak o1 = 0 ∧ cx o1 = 0) {v : pH} (e : f_Hulls_walk o1 h = some v) : Ct E M_Hulls_walk [.ref 14, .ref o1] h none v :=
  Ct_of ok_Hulls_walk [some (.ref 14), some (.ref o1), none, none, none, none] (Nat.le_of_ble_eq_true rfl) rfl (b_Hulls_walk ho1 e ⟨rfl, rfl⟩)
def f_Hulls_cornerAt (x1 : Int32) (h : pH) : Option Int32 :=
  if x1 < 0 then
    some (-1)
  else
    if (hI h 14 3) ≤ x1 then
      some (-1)
    else
      if x1 < 0 ∨ 12 ≤ x1.toNatClampNeg then none else
      some (hI h 16 x1.toNatClampNeg)
set_option maxHeartbeats 4000000 in
theorem b_Hulls_cornerAt {E : pE} {r : Option Value} {hr : pH} {x1 : Int32} {h : pH}  {b : Int32} (e : f_Hulls_cornerAt x1 h = some b) (k : (fun v : Int32 => r = some (.int v) ∧ hr = h) b) : Go E M_Hulls_cornerAt 0 [some (.ref 14), some (.int x1)] [] h r hr := by
  unfold f_Hulls_cornerAt at e
  refine sl_ok ok_Hulls_cornerAt [.iload_n 1] (pc1 := 1) (ls1 := [some (.ref 14), some (.int x1)]) (st1 := [.int x1]) (h1 := h) (P := True) (by decide +kernel) rfl trivial ?_
  refine q_if_lt (off := 20) (tgt := 21) (by decide +kernel) (by decide) (fun c_1 => ?_) (fun c_1 => ?_)
  · have e := it_t c_1 e
    refine sl_ok ok_Hulls_cornerAt [.iconst (-1)] (pc1 := 22) (ls1 := [some (.ref 14), some (.int x1)]) (st1 := [.int (-1)]) (h1 := h) (P := True) (by decide +kernel) rfl trivial ?_
    cases e
    exact q_iret rfl k.1 k.2 (by decide +kernel)
  · have e := it_f c_1 e
    refine sl_ok ok_Hulls_cornerAt [.iload_n 1, .aload_n 0, .getfield 48] (pc1 := 9) (ls1 := [some (.ref 14), some (.int x1)]) (st1 := [.int (hI h 14 3), .int x1]) (h1 := h) (P := (ak 14 = 0 ∧ cx 14 = 4) ∧ True) (by decide +kernel) rfl ⟨⟨rfl, rfl⟩, trivial⟩ ?_
    refine q_icmp_ge (off := 12) (tgt := 21) (by decide +kernel) (by decide) (fun c_2 => ?_) (fun c_2 => ?_)
    · have e := it_t c_2 e
      refine sl_ok ok_Hulls_cornerAt [.iconst (-1)] (pc1 := 22) (ls1 := [some (.ref 14), some (.int x1)]) (st1 := [.int (-1)]) (h1 := h) (P := True) (by decide +kernel) rfl trivial ?_
      cases e
      exact q_iret rfl k.1 k.2 (by decide +kernel)
    · have e := it_f c_2 e
      obtain ⟨g_3, e⟩ := it_g e
      refine sl_ok ok_Hulls_cornerAt [.aload_n 0, .getfield 15, .iload_n 1, .iaload] (pc1 := 18) (ls1 := [some (.ref 14), some (.int x1)]) (st1 := [.int (hI h 16 x1.toNatClampNeg)]) (h1 := h) (P := (ak 14 = 0 ∧ cx 14 = 4) ∧ (ak 16 = 1 ∧ ¬ (x1 < 0 ∨ cx 16 ≤ x1.toNatClampNeg)) ∧ True) (by decide +kernel) rfl ⟨⟨rfl, rfl⟩, ⟨rfl, g_3⟩, trivial⟩ ?_
      refine q_goto (off := 4) (tgt := 22) (by decide) (by decide +kernel) ?_
      cases e
      exact q_iret rfl k.1 k.2 (by decide +kernel)
theorem s_Hulls_cornerAt {E : pE} {x1 : Int32} {h : pH}  {v : Int32} (e : f_Hulls_cornerAt x1 h = some v) : Ct E M_Hulls_cornerAt [.ref 14, .int x1] h (some (.int v)) h :=
  Ct_of ok_Hulls_cornerAt [some (.ref 14), some (.int x1)] (Nat.le_of_ble_eq_true rfl) rfl (b_Hulls_cornerAt  e ⟨rfl, rfl⟩)
def f_C_corner (x1 : Int32) (h : pH) : Option (Int32 × pH) :=
  (f_Hulls_walk 8 h).bind fun v_1 =>
  if x1 = (-1) then
    some ((hI v_1 14 3), v_1)
  else
    (f_Hulls_cornerAt x1 v_1).bind fun v_4 =>
    some (v_4, v_1)
set_option maxHeartbeats 4000000 in
theorem b_C_corner {E : pE} {r : Option Value} {hr : pH} {x1 : Int32} {h : pH}  {b : (Int32 × pH)} (e : f_C_corner x1 h = some b) (k : (fun v : (Int32 × pH) => r = some (.int v.1) ∧ hr = v.2) b) : Go E M_C_corner 0 [some (.ref 0), some (.int x1)] [] h r hr := by
  unfold f_C_corner at e
  refine sl_ok ok_C_corner [.aload_n 0, .getfield 38, .aload_n 0, .getfield 28] (pc1 := 8) (ls1 := [some (.ref 0), some (.int x1)]) (st1 := [.ref 8, .ref 14]) (h1 := h) (P := (ak 0 = 0 ∧ cx 0 = 11) ∧ (ak 0 = 0 ∧ cx 0 = 11) ∧ True) (by decide +kernel) rfl ⟨⟨rfl, rfl⟩, ⟨rfl, rfl⟩, trivial⟩ ?_
  obtain ⟨v_1, e_2, e⟩ := bi_s e
  refine q_callV ok_Hulls_walk (as := [.ref 8]) (st := []) ⟨wd_312, wd_313, wd_314, wd_207, ds_Hulls_walk, Nat.le_of_ble_eq_true rfl, Nat.le_of_ble_eq_true rfl⟩ (s_Hulls_walk ⟨rfl, rfl⟩ e_2) rfl ⟨rfl, rfl⟩ (ci := 4) rfl (fun v hv => by cases hv) (Nat.le_of_ble_eq_true rfl) (by decide +kernel) rfl ?_
  refine sl_ok ok_C_corner [.iload_n 1, .iconst (-1)] (pc1 := 13) (ls1 := [some (.ref 0), some (.int x1)]) (st1 := [.int (-1), .int x1]) (h1 := v_1) (P := True) (by decide +kernel) rfl trivial ?_
  refine q_icmp_ne (off := 13) (tgt := 26) (by decide +kernel) (by decide) (fun c_3 => ?_) (fun c_3 => ?_)
  · have e := it_f c_3 e
    refine sl_ok ok_C_corner [.aload_n 0, .getfield 38, .iload_n 1] (pc1 := 31) (ls1 := [some (.ref 0), some (.int x1)]) (st1 := [.int x1, .ref 14]) (h1 := v_1) (P := (ak 0 = 0 ∧ cx 0 = 11) ∧ True) (by decide +kernel) rfl ⟨⟨rfl, rfl⟩, trivial⟩ ?_
    obtain ⟨v_4, e_5, e⟩ := bi_s e
    refine q_callV ok_Hulls_cornerAt (as := [.int x1]) (st := []) ⟨wd_315, wd_316, wd_317, wd_207, ds_Hulls_cornerAt, Nat.le_of_ble_eq_true rfl, Nat.le_of_ble_eq_true rfl⟩ (s_Hulls_cornerAt  e_5) rfl ⟨rfl, rfl⟩ (ci := 4) rfl (fun v hv => by cases hv; rfl) (Nat.le_of_ble_eq_true rfl) (by decide +kernel) rfl ?_
    cases e
    exact q_iret rfl k.1 k.2 (by decide +kernel)
  · have e := it_t c_3 e
    refine sl_ok ok_C_corner [.aload_n 0, .getfield 38, .getfield 220] (pc1 := 23) (ls1 := [some (.ref 0), some (.int x1)]) (st1 := [.int (hI v_1 14 3)]) (h1 := v_1) (P := (ak 0 = 0 ∧ cx 0 = 11) ∧ (ak 14 = 0 ∧ cx 14 = 4) ∧ True) (by decide +kernel) rfl ⟨⟨rfl, rfl⟩, ⟨rfl, rfl⟩, trivial⟩ ?_
    refine q_goto (off := 11) (tgt := 34) (by decide) (by decide +kernel) ?_
    cases e
    exact q_iret rfl k.1 k.2 (by decide +kernel)
theorem s_C_corner {E : pE} {x1 : Int32} {h : pH}  {v : (Int32 × pH)} (e : f_C_corner x1 h = some v) : Ct E M_C_corner [.ref 0, .int x1] h (some (.int v.1)) v.2 :=
  Ct_of ok_C_corner [some (.ref 0), some (.int x1)] (Nat.le_of_ble_eq_true rfl) rfl (b_C_corner  e ⟨rfl, rfl⟩)
def f_R_laysCorners_L3 (x1 : Int32) (x2 : Int32) (x4 : Int32) (x5 : Int32) (h : pH) (x6 : Int32) (x7 : Int32) : Option ((Int32 × Int32) ⊕ ((Int32 × Int32 × pH) ⊕ (Int32 × pH))) :=
  if (f_R_all h) ≤ x7 then
    some (.inr (.inl (x6, (x5 + 1), h)))
  else
    if x7 = x4 then
      some (.inl (x6, (x7 + 1)))
    else
      if (f_R_has x1 x7) = 0 then
        some (.inl (x6, (x7 + 1)))
      else
        (f_R_onSide x4 x7 ((-1) : Int32) x1 h).bind fun v_4 =>
        if v_4 = 0 then
          some (.inl (x7, (x7 + 1)))
        else
          some (.inl (x6, (x7 + 1)))
set_option maxHeartbeats 4000000 in
theorem b_R_laysCorners_L3 {E : pE} {r : Option Value} {hr : pH} {x1 : Int32} {x2 : Int32} {x4 : Int32} {x5 : Int32} {h : pH} {x6 : Int32} {x7 : Int32}  {b : ((Int32 × Int32) ⊕ ((Int32 × Int32 × pH) ⊕ (Int32 × pH)))} (e : f_R_laysCorners_L3 x1 x2 x4 x5 h x6 x7 = some b) (k : (Sum.elim (fun s : (Int32 × Int32) => Go E M_R_laysCorners 123 [some (.ref 79), some (.int x1), some (.int x2), none, some (.int x4), some (.int x5), some (.int s.1), some (.int s.2)] [] h r hr) (Sum.elim (fun s : (Int32 × Int32 × pH) => Go E M_R_laysCorners 101 [some (.ref 79), some (.int x1), some (.int x2), none, some (.int s.1), some (.int s.2.1), none, none] [] s.2.2 r hr) (fun v : (Int32 × pH) => r = some (.int v.1) ∧ hr = v.2))) b) : Go E M_R_laysCorners 123 [some (.ref 79), some (.int x1), some (.int x2), none, some (.int x4), some (.int x5), some (.int x6), some (.int x7)] [] h r hr := by
  unfold f_R_laysCorners_L3 at e
  refine sl_ok ok_R_laysCorners [.iload 7, .aload_n 0] (pc1 := 126) (ls1 := [some (.ref 79), some (.int x1), some (.int x2), none, some (.int x4), some (.int x5), some (.int x6), some (.int x7)]) (st1 := [.ref 79, .int x7]) (h1 := h) (P := True) (by decide +kernel) rfl trivial ?_
  refine q_callV ok_R_all (as := []) (st := [.int x7]) ⟨wd_151, wd_152, wd_153, wd_7, ds_R_all, Nat.le_of_ble_eq_true rfl, Nat.le_of_ble_eq_true rfl⟩ (s_R_all ) rfl ⟨rfl, rfl⟩ (ci := 12) rfl (fun v hv => by cases hv; rfl) (Nat.le_of_ble_eq_true rfl) (by decide +kernel) rfl ?_
  refine q_icmp_ge (off := 42) (tgt := 171) (by decide +kernel) (by decide) (fun c_1 => ?_) (fun c_1 => ?_)
  · have e := it_t c_1 e
    refine sl_ok ok_R_laysCorners [.iload 6, .istore 4, .iinc 5 1] (pc1 := 178) (ls1 := [some (.ref 79), some (.int x1), some (.int x2), none, some (.int x6), some (.int (x5 + 1)), some (.int x6), some (.int x7)]) (st1 := []) (h1 := h) (P := True) (by decide +kernel) rfl trivial ?_
    refine q_goto (off := -77) (tgt := 101) (by decide) (by decide +kernel) ?_
    cases e
    refine Go.sb [some (.ref 79), some (.int x1), some (.int x2), none, some (.int x6), some (.int (x5 + 1)), none, none] (And.intro rfl (And.intro rfl (And.intro rfl (And.intro rfl (And.intro rfl trivial))))) ?_
    exact k
  · have e := it_f c_1 e
    refine sl_ok ok_R_laysCorners [.iload 7, .iload 4] (pc1 := 136) (ls1 := [some (.ref 79), some (.int x1), some (.int x2), none, some (.int x4), some (.int x5), some (.int x6), some (.int x7)]) (st1 := [.int x4, .int x7]) (h1 := h) (P := True) (by decide +kernel) rfl trivial ?_
    refine q_icmp_eq (off := 29) (tgt := 165) (by decide +kernel) (by decide) (fun c_2 => ?_) (fun c_2 => ?_)
    · have e := it_t c_2 e
      refine sl_ok ok_R_laysCorners [.iinc 7 1] (pc1 := 168) (ls1 := [some (.ref 79), some (.int x1), some (.int x2), none, some (.int x4), some (.int x5), some (.int x6), some (.int (x7 + 1))]) (st1 := []) (h1 := h) (P := True) (by decide +kernel) rfl trivial ?_
      refine q_goto (off := -45) (tgt := 123) (by decide) (by decide +kernel) ?_
      cases e
      exact k
    · have e := it_f c_2 e
      refine sl_ok ok_R_laysCorners [.iload_n 1, .iload 7] (pc1 := 142) (ls1 := [some (.ref 79), some (.int x1), some (.int x2), none, some (.int x4), some (.int x5), some (.int x6), some (.int x7)]) (st1 := [.int x7, .int x1]) (h1 := h) (P := True) (by decide +kernel) rfl trivial ?_
      refine q_callS ok_R_has (as := [.int x1, .int x7]) (st := []) ⟨wd_255, wd_256, wd_7, ds_R_has, Nat.le_of_ble_eq_true rfl, Nat.le_of_ble_eq_true rfl⟩ (s_R_has ) rfl (fun v hv => by cases hv; rfl) (Nat.le_of_ble_eq_true rfl) (by decide +kernel) rfl ?_
      refine q_if_eq (off := 20) (tgt := 165) (by decide +kernel) (by decide) (fun c_3 => ?_) (fun c_3 => ?_)
      · have e := it_t c_3 e
        refine sl_ok ok_R_laysCorners [.iinc 7 1] (pc1 := 168) (ls1 := [some (.ref 79), some (.int x1), some (.int x2), none, some (.int x4), some (.int x5), some (.int x6), some (.int (x7 + 1))]) (st1 := []) (h1 := h) (P := True) (by decide +kernel) rfl trivial ?_
        refine q_goto (off := -45) (tgt := 123) (by decide) (by decide +kernel) ?_
        cases e
        exact k
      · have e := it_f c_3 e
        refine sl_ok ok_R_laysCorners [.aload_n 0, .iload 4, .iload 7, .iconst (-1), .iload_n 1] (pc1 := 155) (ls1 := [some (.ref 79), some (.int x1), some (.int x2), none, some (.int x4), some (.int x5), some (.int x6), some (.int x7)]) (st1 := [.int x1, .int (-1), .int x7, .int x4, .ref 79]) (h1 := h) (P := True) (by decide +kernel) rfl trivial ?_
        obtain ⟨v_4, e_5, e⟩ := bi_s e
        refine q_callV ok_R_onSide (as := [.int x4, .int x7, .int (-1), .int x1]) (st := []) ⟨wd_260, wd_261, wd_262, wd_7, ds_R_onSide, Nat.le_of_ble_eq_true rfl, Nat.le_of_ble_eq_true rfl⟩ (s_R_onSide  e_5) rfl ⟨rfl, rfl⟩ (ci := 12) rfl (fun v hv => by cases hv; rfl) (Nat.le_of_ble_eq_true rfl) (by decide +kernel) rfl ?_
        refine q_if_ne (off := 7) (tgt := 165) (by decide +kernel) (by decide) (fun c_6 => ?_) (fun c_6 => ?_)
        · have e := it_f c_6 e
          refine sl_ok ok_R_laysCorners [.iinc 7 1] (pc1 := 168) (ls1 := [some (.ref 79), some (.int x1), some (.int x2), none, some (.int x4), some (.int x5), some (.int x6), some (.int (x7 + 1))]) (st1 := []) (h1 := h) (P := True) (by decide +kernel) rfl trivial ?_
          refine q_goto (off := -45) (tgt := 123) (by decide) (by decide +kernel) ?_
          cases e
          exact k
        · have e := it_t c_6 e
          refine sl_ok ok_R_laysCorners [.iload 7, .istore 6, .iinc 7 1] (pc1 := 168) (ls1 := [some (.ref 79), some (.int x1), some (.int x2), none, some (.int x4), some (.int x5), some (.int x7), some (.int (x7 + 1))]) (st1 := []) (h1 := h) (P := True) (by decide +kernel) rfl trivial ?_
          refine q_goto (off := -45) (tgt := 123) (by decide) (by decide +kernel) ?_
          cases e
          exact k
def f_R_laysCorners_L2 (x1 : Int32) (x2 : Int32) (x4 : Int32) (x5 : Int32) (h : pH) : Option ((Int32 × Int32 × pH) ⊕ (Int32 × pH)) :=
  if x2 ≤ x5 then
    some (.inr (x2, h))
  else
    if x5 < 0 ∨ 13 ≤ x5.toNatClampNeg then none else
    lp (fun s => f_R_laysCorners_L3 x1 x2 x4 x5 (sI h 95 x5.toNatClampNeg x4) s.1 s.2) lpN (x4, 0)
set_option maxHeartbeats 4000000 in
theorem b_R_laysCorners_L2 {E : pE} {r : Option Value} {hr : pH} {x1 : Int32} {x2 : Int32} {x4 : Int32} {x5 : Int32} {h : pH}  {b : ((Int32 × Int32 × pH) ⊕ (Int32 × pH))} (e : f_R_laysCorners_L2 x1 x2 x4 x5 h = some b) (k : (Sum.elim (fun s : (Int32 × Int32 × pH) => Go E M_R_laysCorners 101 [some (.ref 79), some (.int x1), some (.int x2), none, some (.int s.1), some (.int s.2.1), none, none] [] s.2.2 r hr) (fun v : (Int32 × pH) => r = some (.int v.1) ∧ hr = v.2)) b) : Go E M_R_laysCorners 101 [some (.ref 79), some (.int x1), some (.int x2), none, some (.int x4), some (.int x5), none, none] [] h r hr := by
  unfold f_R_laysCorners_L2 at e
  refine sl_ok ok_R_laysCorners [.iload 5, .iload_n 2] (pc1 := 104) (ls1 := [some (.ref 79), some (.int x1), some (.int x2), none, some (.int x4), some (.int x5), none, none]) (st1 := [.int x2, .int x5]) (h1 := h) (P := True) (by decide +kernel) rfl trivial ?_
  refine q_icmp_ge (off := 77) (tgt := 181) (by decide +kernel) (by decide) (fun c_1 => ?_) (fun c_1 => ?_)
  · have e := it_t c_1 e
    refine sl_ok ok_R_laysCorners [.iload_n 2] (pc1 := 182) (ls1 := [some (.ref 79), some (.int x1), some (.int x2), none, some (.int x4), some (.int x5), none, none]) (st1 := [.int x2]) (h1 := h) (P := True) (by decide +kernel) rfl trivial ?_
    cases e
    exact q_iret rfl k.1 k.2 (by decide +kernel)
  · have e := it_f c_1 e
    obtain ⟨g_2, e⟩ := it_g e
    refine sl_ok ok_R_laysCorners [.aload_n 0, .getfield 65, .iload 5, .iload 4, .iastore, .iload 4, .istore 6, .iconst 0, .istore 7] (pc1 := 123) (ls1 := [some (.ref 79), some (.int x1), some (.int x2), none, some (.int x4), some (.int x5), some (.int x4), some (.int 0)]) (st1 := []) (h1 := (sI h 95 x5.toNatClampNeg x4)) (P := (ak 79 = 0 ∧ cx 79 = 12) ∧ (ak 95 = 1 ∧ ¬ (x5 < 0 ∨ cx 95 ≤ x5.toNatClampNeg)) ∧ True) (by decide +kernel) rfl ⟨⟨rfl, rfl⟩, ⟨rfl, g_2⟩, trivial⟩ ?_
    exact lp_in e (fun s => Go E M_R_laysCorners 123 [some (.ref 79), some (.int x1), some (.int x2), none, some (.int x4), some (.int x5), some (.int s.1), some (.int s.2)] [] (sI h 95 x5.toNatClampNeg x4) r hr) (Sum.elim (fun s : (Int32 × Int32 × pH) => Go E M_R_laysCorners 101 [some (.ref 79), some (.int x1), some (.int x2), none, some (.int s.1), some (.int s.2.1), none, none] [] s.2.2 r hr) (fun v : (Int32 × pH) => r = some (.int v.1) ∧ hr = v.2)) (fun _ _ e k => b_R_laysCorners_L3  e k) k
def f_R_laysCorners_L1 (x1 : Int32) (x2 : Int32) (h : pH) (x3 : Int32) (x4 : Int32) : Option ((Int32 × Int32) ⊕ (Int32 × pH)) :=
  if (f_R_all h) ≤ x4 then
    mi (lp (fun s => f_R_laysCorners_L2 x1 x2 s.1 s.2.1 s.2.2) lpN (x3, 0, h))
  else
    if (f_R_has x1 x4) = 0 then
      some (.inl (x3, (x4 + 1)))
    else
      if x3 < 0 then
        some (.inl (x4, (x4 + 1)))
      else
        (f_R_y x4 h).bind fun v_4 =>
        (f_R_y x3 h).bind fun v_6 =>
        if v_4 < v_6 then
          some (.inl (x4, (x4 + 1)))
        else
          (f_R_y x4 h).bind fun v_9 =>
          (f_R_y x3 h).bind fun v_11 =>
          if v_9 = v_11 then
            (f_R_x x4 h).bind fun v_14 =>
            (f_R_x x3 h).bind fun v_16 =>
            if v_16 ≤ v_14 then
              some (.inl (x3, (x4 + 1)))
            else
              some (.inl (x4, (x4 + 1)))
          else
            some (.inl (x3, (x4 + 1)))
set_option maxHeartbeats 4000000 in
theorem b_R_laysCorners_L1 {E : pE} {r : Option Value} {hr : pH} {x1 : Int32} {x2 : Int32} {h : pH} {x3 : Int32} {x4 : Int32}  {b : ((Int32 × Int32) ⊕ (Int32 × pH))} (e : f_R_laysCorners_L1 x1 x2 h x3 x4 = some b) (k : (Sum.elim (fun s : (Int32 × Int32) => Go E M_R_laysCorners 19 [some (.ref 79), some (.int x1), some (.int x2), some (.int s.1), some (.int s.2), none, none, none] [] h r hr) (fun v : (Int32 × pH) => r = some (.int v.1) ∧ hr = v.2)) b) : Go E M_R_laysCorners 19 [some (.ref 79), some (.int x1), some (.int x2), some (.int x3), some (.int x4), none, none, none] [] h r hr := by
  unfold f_R_laysCorners_L1 at e
  refine sl_ok ok_R_laysCorners [.iload 4, .aload_n 0] (pc1 := 22) (ls1 := [some (.ref 79), some (.int x1), some (.int x2), some (.int x3), some (.int x4), none, none, none]) (st1 := [.ref 79, .int x4]) (h1 := h) (P := True) (by decide +kernel) rfl trivial ?_
  refine q_callV ok_R_all (as := []) (st := [.int x4]) ⟨wd_151, wd_152, wd_153, wd_7, ds_R_all, Nat.le_of_ble_eq_true rfl, Nat.le_of_ble_eq_true rfl⟩ (s_R_all ) rfl ⟨rfl, rfl⟩ (ci := 12) rfl (fun v hv => by cases hv; rfl) (Nat.le_of_ble_eq_true rfl) (by decide +kernel) rfl ?_
  refine q_icmp_ge (off := 70) (tgt := 95) (by decide +kernel) (by decide) (fun c_1 => ?_) (fun c_1 => ?_)
  · have e := it_t c_1 e
    refine sl_ok ok_R_laysCorners [.iload_n 3, .istore 4, .iconst 0, .istore 5] (pc1 := 101) (ls1 := [some (.ref 79), some (.int x1), some (.int x2), some (.int x3), some (.int x3), some (.int 0), none, none]) (st1 := []) (h1 := h) (P := True) (by decide +kernel) rfl trivial ?_
    refine Go.sb [some (.ref 79), some (.int x1), some (.int x2), none, some (.int x3), some (.int 0), none, none] (And.intro rfl (And.intro rfl (And.intro rfl (And.intro rfl (And.intro rfl trivial))))) ?_
    obtain ⟨_, e9, rfl⟩ := mi_s e
    have e := e9
    exact lp_in e (fun s => Go E M_R_laysCorners 101 [some (.ref 79), some (.int x1), some (.int x2), none, some (.int s.1), some (.int s.2.1), none, none] [] s.2.2 r hr) (fun v : (Int32 × pH) => r = some (.int v.1) ∧ hr = v.2) (fun _ _ e k => b_R_laysCorners_L2  e k) k
  · have e := it_f c_1 e
    refine sl_ok ok_R_laysCorners [.iload_n 1, .iload 4] (pc1 := 31) (ls1 := [some (.ref 79), some (.int x1), some (.int x2), some (.int x3), some (.int x4), none, none, none]) (st1 := [.int x4, .int x1]) (h1 := h) (P := True) (by decide +kernel) rfl trivial ?_
    refine q_callS ok_R_has (as := [.int x1, .int x4]) (st := []) ⟨wd_255, wd_256, wd_7, ds_R_has, Nat.le_of_ble_eq_true rfl, Nat.le_of_ble_eq_true rfl⟩ (s_R_has ) rfl (fun v hv => by cases hv; rfl) (Nat.le_of_ble_eq_true rfl) (by decide +kernel) rfl ?_
    refine q_if_ne (off := 6) (tgt := 40) (by decide +kernel) (by decide) (fun c_2 => ?_) (fun c_2 => ?_)
    · have e := it_f c_2 e
      refine sl_ok ok_R_laysCorners [.iload_n 3] (pc1 := 41) (ls1 := [some (.ref 79), some (.int x1), some (.int x2), some (.int x3), some (.int x4), none, none, none]) (st1 := [.int x3]) (h1 := h) (P := True) (by decide +kernel) rfl trivial ?_
      refine q_if_lt (off := 45) (tgt := 86) (by decide +kernel) (by decide) (fun c_3 => ?_) (fun c_3 => ?_)
      · have e := it_t c_3 e
        refine sl_ok ok_R_laysCorners [.iload 4, .istore_n 3, .iinc 4 1] (pc1 := 92) (ls1 := [some (.ref 79), some (.int x1), some (.int x2), some (.int x4), some (.int (x4 + 1)), none, none, none]) (st1 := []) (h1 := h) (P := True) (by decide +kernel) rfl trivial ?_
        refine q_goto (off := -73) (tgt := 19) (by decide) (by decide +kernel) ?_
        cases e
        exact k
      · have e := it_f c_3 e
        refine sl_ok ok_R_laysCorners [.aload_n 0, .iload 4] (pc1 := 47) (ls1 := [some (.ref 79), some (.int x1), some (.int x2), some (.int x3), some (.int x4), none, none, none]) (st1 := [.int x4, .ref 79]) (h1 := h) (P := True) (by decide +kernel) rfl trivial ?_
        obtain ⟨v_4, e_5, e⟩ := bi_s e
        refine q_callV ok_R_y (as := [.int x4]) (st := []) ⟨wd_157, wd_158, wd_159, wd_7, ds_R_y, Nat.le_of_ble_eq_true rfl, Nat.le_of_ble_eq_true rfl⟩ (s_R_y  e_5) rfl ⟨rfl, rfl⟩ (ci := 12) rfl (fun v hv => by cases hv; rfl) (Nat.le_of_ble_eq_true rfl) (by decide +kernel) rfl ?_
        refine sl_ok ok_R_laysCorners [.aload_n 0, .iload_n 3] (pc1 := 52) (ls1 := [some (.ref 79), some (.int x1), some (.int x2), some (.int x3), some (.int x4), none, none, none]) (st1 := [.int x3, .ref 79, .int v_4]) (h1 := h) (P := True) (by decide +kernel) rfl trivial ?_
        obtain ⟨v_6, e_7, e⟩ := bi_s e
        refine q_callV ok_R_y (as := [.int x3]) (st := [.int v_4]) ⟨wd_157, wd_158, wd_159, wd_7, ds_R_y, Nat.le_of_ble_eq_true rfl, Nat.le_of_ble_eq_true rfl⟩ (s_R_y  e_7) rfl ⟨rfl, rfl⟩ (ci := 12) rfl (fun v hv => by cases hv; rfl) (Nat.le_of_ble_eq_true rfl) (by decide +kernel) rfl ?_
        refine q_icmp_lt (off := 31) (tgt := 86) (by decide +kernel) (by decide) (fun c_8 => ?_) (fun c_8 => ?_)
        · have e := it_t c_8 e
          refine sl_ok ok_R_laysCorners [.iload 4, .istore_n 3, .iinc 4 1] (pc1 := 92) (ls1 := [some (.ref 79), some (.int x1), some (.int x2), some (.int x4), some (.int (x4 + 1)), none, none, none]) (st1 := []) (h1 := h) (P := True) (by decide +kernel) rfl trivial ?_
          refine q_goto (off := -73) (tgt := 19) (by decide) (by decide +kernel) ?_
          cases e
          exact k
        · have e := it_f c_8 e
          refine sl_ok ok_R_laysCorners [.aload_n 0, .iload 4] (pc1 := 61) (ls1 := [some (.ref 79), some (.int x1), some (.int x2), some (.int x3), some (.int x4), none, none, none]) (st1 := [.int x4, .ref 79]) (h1 := h) (P := True) (by decide +kernel) rfl trivial ?_
          obtain ⟨v_9, e_10, e⟩ := bi_s e
          refine q_callV ok_R_y (as := [.int x4]) (st := []) ⟨wd_157, wd_158, wd_159, wd_7, ds_R_y, Nat.le_of_ble_eq_true rfl, Nat.le_of_ble_eq_true rfl⟩ (s_R_y  e_10) rfl ⟨rfl, rfl⟩ (ci := 12) rfl (fun v hv => by cases hv; rfl) (Nat.le_of_ble_eq_true rfl) (by decide +kernel) rfl ?_
          refine sl_ok ok_R_laysCorners [.aload_n 0, .iload_n 3] (pc1 := 66) (ls1 := [some (.ref 79), some (.int x1), some (.int x2), some (.int x3), some (.int x4), none, none, none]) (st1 := [.int x3, .ref 79, .int v_9]) (h1 := h) (P := True) (by decide +kernel) rfl trivial ?_
          obtain ⟨v_11, e_12, e⟩ := bi_s e
          refine q_callV ok_R_y (as := [.int x3]) (st := [.int v_9]) ⟨wd_157, wd_158, wd_159, wd_7, ds_R_y, Nat.le_of_ble_eq_true rfl, Nat.le_of_ble_eq_true rfl⟩ (s_R_y  e_12) rfl ⟨rfl, rfl⟩ (ci := 12) rfl (fun v hv => by cases hv; rfl) (Nat.le_of_ble_eq_true rfl) (by decide +kernel) rfl ?_
          refine q_icmp_ne (off := 20) (tgt := 89) (by decide +kernel) (by decide) (fun c_13 => ?_) (fun c_13 => ?_)
          · have e := it_f c_13 e
            refine sl_ok ok_R_laysCorners [.iinc 4 1] (pc1 := 92) (ls1 := [some (.ref 79), some (.int x1), some (.int x2), some (.int x3), some (.int (x4 + 1)), none, none, none]) (st1 := []) (h1 := h) (P := True) (by decide +kernel) rfl trivial ?_
            refine q_goto (off := -73) (tgt := 19) (by decide) (by decide +kernel) ?_
            cases e
            exact k
          · have e := it_t c_13 e
            refine sl_ok ok_R_laysCorners [.aload_n 0, .iload 4] (pc1 := 75) (ls1 := [some (.ref 79), some (.int x1), some (.int x2), some (.int x3), some (.int x4), none, none, none]) (st1 := [.int x4, .ref 79]) (h1 := h) (P := True) (by decide +kernel) rfl trivial ?_
            obtain ⟨v_14, e_15, e⟩ := bi_s e
            refine q_callV ok_R_x (as := [.int x4]) (st := []) ⟨wd_154, wd_155, wd_156, wd_7, ds_R_x, Nat.le_of_ble_eq_true rfl, Nat.le_of_ble_eq_true rfl⟩ (s_R_x  e_15) rfl ⟨rfl, rfl⟩ (ci := 12) rfl (fun v hv => by cases hv; rfl) (Nat.le_of_ble_eq_true rfl) (by decide +kernel) rfl ?_
            refine sl_ok ok_R_laysCorners [.aload_n 0, .iload_n 3] (pc1 := 80) (ls1 := [some (.ref 79), some (.int x1), some (.int x2), some (.int x3), some (.int x4), none, none, none]) (st1 := [.int x3, .ref 79, .int v_14]) (h1 := h) (P := True) (by decide +kernel) rfl trivial ?_
            obtain ⟨v_16, e_17, e⟩ := bi_s e
            refine q_callV ok_R_x (as := [.int x3]) (st := [.int v_14]) ⟨wd_154, wd_155, wd_156, wd_7, ds_R_x, Nat.le_of_ble_eq_true rfl, Nat.le_of_ble_eq_true rfl⟩ (s_R_x  e_17) rfl ⟨rfl, rfl⟩ (ci := 12) rfl (fun v hv => by cases hv; rfl) (Nat.le_of_ble_eq_true rfl) (by decide +kernel) rfl ?_
            refine q_icmp_ge (off := 6) (tgt := 89) (by decide +kernel) (by decide) (fun c_18 => ?_) (fun c_18 => ?_)
            · have e := it_t c_18 e
              refine sl_ok ok_R_laysCorners [.iinc 4 1] (pc1 := 92) (ls1 := [some (.ref 79), some (.int x1), some (.int x2), some (.int x3), some (.int (x4 + 1)), none, none, none]) (st1 := []) (h1 := h) (P := True) (by decide +kernel) rfl trivial ?_
              refine q_goto (off := -73) (tgt := 19) (by decide) (by decide +kernel) ?_
              cases e
              exact k
            · have e := it_f c_18 e
              refine sl_ok ok_R_laysCorners [.iload 4, .istore_n 3, .iinc 4 1] (pc1 := 92) (ls1 := [some (.ref 79), some (.int x1), some (.int x2), some (.int x4), some (.int (x4 + 1)), none, none, none]) (st1 := []) (h1 := h) (P := True) (by decide +kernel) rfl trivial ?_
              refine q_goto (off := -73) (tgt := 19) (by decide) (by decide +kernel) ?_
              cases e
              exact k
    · have e := it_t c_2 e
      refine q_goto (off := 52) (tgt := 89) (by decide) (by decide +kernel) ?_
      refine sl_ok ok_R_laysCorners [.iinc 4 1] (pc1 := 92) (ls1 := [some (.ref 79), some (.int x1), some (.int x2), some (.int x3), some (.int (x4 + 1)), none, none, none]) (st1 := []) (h1 := h) (P := True) (by decide +kernel) rfl trivial ?_
      refine q_goto (off := -73) (tgt := 19) (by decide) (by decide +kernel) ?_
      cases e
      exact k
def f_R_laysCorners (h : pH) : Option (Int32 × pH) :=
  (f_R_cornersOf (f_R_full h) h).bind fun v_1 =>
  (f_R_bitsOf v_1).bind fun v_3 =>
  lp (fun s => f_R_laysCorners_L1 v_1 v_3 h s.1 s.2) lpN ((-1), 0)
set_option maxHeartbeats 4000000 in
theorem b_R_laysCorners {E : pE} {r : Option Value} {hr : pH} {h : pH}  {b : (Int32 × pH)} (e : f_R_laysCorners h = some b) (k : (fun v : (Int32 × pH) => r = some (.int v.1) ∧ hr = v.2) b) : Go E M_R_laysCorners 0 [some (.ref 79), none, none, none, none, none, none, none] [] h r hr := by
  unfold f_R_laysCorners at e
  refine sl_ok ok_R_laysCorners [.aload_n 0, .aload_n 0] (pc1 := 2) (ls1 := [some (.ref 79), none, none, none, none, none, none, none]) (st1 := [.ref 79, .ref 79]) (h1 := h) (P := True) (by decide +kernel) rfl trivial ?_
  refine q_callV ok_R_full (as := []) (st := [.ref 79]) ⟨wd_266, wd_267, wd_268, wd_7, ds_R_full, Nat.le_of_ble_eq_true rfl, Nat.le_of_ble_eq_true rfl⟩ (s_R_full ) rfl ⟨rfl, rfl⟩ (ci := 12) rfl (fun v hv => by cases hv; rfl) (Nat.le_of_ble_eq_true rfl) (by decide +kernel) rfl ?_
  obtain ⟨v_1, e_2, e⟩ := bi_s e
  refine q_callV ok_R_cornersOf (as := [.int (f_R_full h)]) (st := []) ⟨wd_283, wd_284, wd_285, wd_7, ds_R_cornersOf, Nat.le_of_ble_eq_true rfl, Nat.le_of_ble_eq_true rfl⟩ (s_R_cornersOf  e_2) rfl ⟨rfl, rfl⟩ (ci := 12) rfl (fun v hv => by cases hv; rfl) (Nat.le_of_ble_eq_true rfl) (by decide +kernel) rfl ?_
  refine sl_ok ok_R_laysCorners [.istore_n 1, .iload_n 1] (pc1 := 10) (ls1 := [some (.ref 79), some (.int v_1), none, none, none, none, none, none]) (st1 := [.int v_1]) (h1 := h) (P := True) (by decide +kernel) rfl trivial ?_
  obtain ⟨v_3, e_4, e⟩ := bi_s e
  refine q_callS ok_R_bitsOf (as := [.int v_1]) (st := []) ⟨wd_304, wd_305, wd_7, ds_R_bitsOf, Nat.le_of_ble_eq_true rfl, Nat.le_of_ble_eq_true rfl⟩ (s_R_bitsOf  e_4) rfl (fun v hv => by cases hv; rfl) (Nat.le_of_ble_eq_true rfl) (by decide +kernel) rfl ?_
  refine sl_ok ok_R_laysCorners [.istore_n 2, .iconst (-1), .istore_n 3, .iconst 0, .istore 4] (pc1 := 19) (ls1 := [some (.ref 79), some (.int v_1), some (.int v_3), some (.int (-1)), some (.int 0), none, none, none]) (st1 := []) (h1 := h) (P := True) (by decide +kernel) rfl trivial ?_
  exact lp_in e (fun s => Go E M_R_laysCorners 19 [some (.ref 79), some (.int v_1), some (.int v_3), some (.int s.1), some (.int s.2), none, none, none] [] h r hr) (fun v : (Int32 × pH) => r = some (.int v.1) ∧ hr = v.2) (fun _ _ e k => b_R_laysCorners_L1  e k) k
theorem s_R_laysCorners {E : pE} {h : pH}  {v : (Int32 × pH)} (e : f_R_laysCorners h = some v) : Ct E M_R_laysCorners [.ref 79] h (some (.int v.1)) v.2 :=
  Ct_of ok_R_laysCorners [some (.ref 79), none, none, none, none, none, none, none] (Nat.le_of_ble_eq_true rfl) rfl (b_R_laysCorners  e ⟨rfl, rfl⟩)
def f_R_corner (x1 : Int32) (h : pH) : Option (Int32 × pH) :=
  (f_R_laysCorners h).bind fun v_1 =>
  if x1 = (-1) then
    some (v_1.1, v_1.2)
  else
    if (f_R_in x1 (0 : Int32) (v_1.1 - 1)) = 0 then
      some ((-1), (v_1.2))
    else
      if x1 < 0 ∨ 13 ≤ x1.toNatClampNeg then none else
      some ((hI (v_1.2) 95 x1.toNatClampNeg), (v_1.2))
set_option maxHeartbeats 4000000 in
theorem b_R_corner {E : pE} {r : Option Value} {hr : pH} {x1 : Int32} {h : pH}  {b : (Int32 × pH)} (e : f_R_corner x1 h = some b) (k : (fun v : (Int32 × pH) => r = some (.int v.1) ∧ hr = v.2) b) : Go E M_R_corner 0 [some (.ref 79), some (.int x1), none] [] h r hr := by
  unfold f_R_corner at e
  refine sl_ok ok_R_corner [.aload_n 0] (pc1 := 1) (ls1 := [some (.ref 79), some (.int x1), none]) (st1 := [.ref 79]) (h1 := h) (P := True) (by decide +kernel) rfl trivial ?_
  obtain ⟨v_1, e_2, e⟩ := bi_s e
  refine q_callV ok_R_laysCorners (as := []) (st := []) ⟨wd_318, wd_319, wd_320, wd_7, ds_R_laysCorners, Nat.le_of_ble_eq_true rfl, Nat.le_of_ble_eq_true rfl⟩ (s_R_laysCorners  e_2) rfl ⟨rfl, rfl⟩ (ci := 12) rfl (fun v hv => by cases hv; rfl) (Nat.le_of_ble_eq_true rfl) (by decide +kernel) rfl ?_
  refine sl_ok ok_R_corner [.istore_n 2, .iload_n 1, .iconst (-1)] (pc1 := 7) (ls1 := [some (.ref 79), some (.int x1), some (.int v_1.1)]) (st1 := [.int (-1), .int x1]) (h1 := v_1.2) (P := True) (by decide +kernel) rfl trivial ?_
  refine q_icmp_ne (off := 7) (tgt := 14) (by decide +kernel) (by decide) (fun c_3 => ?_) (fun c_3 => ?_)
  · have e := it_f c_3 e
    refine sl_ok ok_R_corner [.iload_n 1, .iconst 0, .iload_n 2, .iconst 1, .isub] (pc1 := 19) (ls1 := [some (.ref 79), some (.int x1), some (.int v_1.1)]) (st1 := [.int (v_1.1 - 1), .int 0, .int x1]) (h1 := v_1.2) (P := True) (by decide +kernel) rfl trivial ?_
    refine q_callS ok_R_in (as := [.int x1, .int 0, .int (v_1.1 - 1)]) (st := []) ⟨wd_127, wd_128, wd_7, ds_R_in, Nat.le_of_ble_eq_true rfl, Nat.le_of_ble_eq_true rfl⟩ (s_R_in ) rfl (fun v hv => by cases hv; rfl) (Nat.le_of_ble_eq_true rfl) (by decide +kernel) rfl ?_
    refine q_if_eq (off := 12) (tgt := 34) (by decide +kernel) (by decide) (fun c_4 => ?_) (fun c_4 => ?_)
    · have e := it_t c_4 e
      refine sl_ok ok_R_corner [.iconst (-1)] (pc1 := 35) (ls1 := [some (.ref 79), some (.int x1), some (.int v_1.1)]) (st1 := [.int (-1)]) (h1 := (v_1.2)) (P := True) (by decide +kernel) rfl trivial ?_
      cases e
      exact q_iret rfl k.1 k.2 (by decide +kernel)
    · have e := it_f c_4 e
      obtain ⟨g_5, e⟩ := it_g e
      refine sl_ok ok_R_corner [.aload_n 0, .getfield 65, .iload_n 1, .iaload] (pc1 := 31) (ls1 := [some (.ref 79), some (.int x1), some (.int v_1.1)]) (st1 := [.int (hI (v_1.2) 95 x1.toNatClampNeg)]) (h1 := (v_1.2)) (P := (ak 79 = 0 ∧ cx 79 = 12) ∧ (ak 95 = 1 ∧ ¬ (x1 < 0 ∨ cx 95 ≤ x1.toNatClampNeg)) ∧ True) (by decide +kernel) rfl ⟨⟨rfl, rfl⟩, ⟨rfl, g_5⟩, trivial⟩ ?_
      refine q_goto (off := 4) (tgt := 35) (by decide) (by decide +kernel) ?_
      cases e
      exact q_iret rfl k.1 k.2 (by decide +kernel)
  · have e := it_t c_3 e
    refine sl_ok ok_R_corner [.iload_n 2] (pc1 := 11) (ls1 := [some (.ref 79), some (.int x1), some (.int v_1.1)]) (st1 := [.int v_1.1]) (h1 := v_1.2) (P := True) (by decide +kernel) rfl trivial ?_
    refine q_goto (off := 24) (tgt := 35) (by decide) (by decide +kernel) ?_
    cases e
    exact q_iret rfl k.1 k.2 (by decide +kernel)
theorem s_R_corner {E : pE} {x1 : Int32} {h : pH}  {v : (Int32 × pH)} (e : f_R_corner x1 h = some v) : Ct E M_R_corner [.ref 79, .int x1] h (some (.int v.1)) v.2 :=
  Ct_of ok_R_corner [some (.ref 79), some (.int x1), none] (Nat.le_of_ble_eq_true rfl) rfl (b_R_corner  e ⟨rfl, rfl⟩)
def f_C_layer (x1 : Int32) (h : pH) : Option (Int32 × pH) :=
  (f_Hulls_peel 8 h).bind fun v_1 =>
  if x1 = (-1) then
    some ((hI v_1 14 2), v_1)
  else
    if x1 < 0 then
      some ((-1), v_1)
    else
      if (hI v_1 14 2) ≤ x1 then
        some ((-1), v_1)
      else
        (f_Hulls_layerBits x1 v_1).bind fun v_6 =>
        some (v_6, v_1)
set_option maxHeartbeats 4000000 in
theorem b_C_layer {E : pE} {r : Option Value} {hr : pH} {x1 : Int32} {h : pH}  {b : (Int32 × pH)} (e : f_C_layer x1 h = some b) (k : (fun v : (Int32 × pH) => r = some (.int v.1) ∧ hr = v.2) b) : Go E M_C_layer 0 [some (.ref 0), some (.int x1)] [] h r hr := by
  unfold f_C_layer at e
  refine sl_ok ok_C_layer [.aload_n 0, .getfield 38, .aload_n 0, .getfield 28] (pc1 := 8) (ls1 := [some (.ref 0), some (.int x1)]) (st1 := [.ref 8, .ref 14]) (h1 := h) (P := (ak 0 = 0 ∧ cx 0 = 11) ∧ (ak 0 = 0 ∧ cx 0 = 11) ∧ True) (by decide +kernel) rfl ⟨⟨rfl, rfl⟩, ⟨rfl, rfl⟩, trivial⟩ ?_
  obtain ⟨v_1, e_2, e⟩ := bi_s e
  refine q_callV ok_Hulls_peel (as := [.ref 8]) (st := []) ⟨wd_237, wd_238, wd_239, wd_207, ds_Hulls_peel, Nat.le_of_ble_eq_true rfl, Nat.le_of_ble_eq_true rfl⟩ (s_Hulls_peel ⟨rfl, rfl⟩ e_2) rfl ⟨rfl, rfl⟩ (ci := 4) rfl (fun v hv => by cases hv) (Nat.le_of_ble_eq_true rfl) (by decide +kernel) rfl ?_
  refine sl_ok ok_C_layer [.iload_n 1, .iconst (-1)] (pc1 := 13) (ls1 := [some (.ref 0), some (.int x1)]) (st1 := [.int (-1), .int x1]) (h1 := v_1) (P := True) (by decide +kernel) rfl trivial ?_
  refine q_icmp_ne (off := 11) (tgt := 24) (by decide +kernel) (by decide) (fun c_3 => ?_) (fun c_3 => ?_)
  · have e := it_f c_3 e
    refine sl_ok ok_C_layer [.iload_n 1] (pc1 := 25) (ls1 := [some (.ref 0), some (.int x1)]) (st1 := [.int x1]) (h1 := v_1) (P := True) (by decide +kernel) rfl trivial ?_
    refine q_if_lt (off := 25) (tgt := 50) (by decide +kernel) (by decide) (fun c_4 => ?_) (fun c_4 => ?_)
    · have e := it_t c_4 e
      refine sl_ok ok_C_layer [.iconst (-1)] (pc1 := 51) (ls1 := [some (.ref 0), some (.int x1)]) (st1 := [.int (-1)]) (h1 := v_1) (P := True) (by decide +kernel) rfl trivial ?_
      cases e
      exact q_iret rfl k.1 k.2 (by decide +kernel)
    · have e := it_f c_4 e
      refine sl_ok ok_C_layer [.iload_n 1, .aload_n 0, .getfield 38, .getfield 226] (pc1 := 36) (ls1 := [some (.ref 0), some (.int x1)]) (st1 := [.int (hI v_1 14 2), .int x1]) (h1 := v_1) (P := (ak 0 = 0 ∧ cx 0 = 11) ∧ (ak 14 = 0 ∧ cx 14 = 4) ∧ True) (by decide +kernel) rfl ⟨⟨rfl, rfl⟩, ⟨rfl, rfl⟩, trivial⟩ ?_
      refine q_icmp_ge (off := 14) (tgt := 50) (by decide +kernel) (by decide) (fun c_5 => ?_) (fun c_5 => ?_)
      · have e := it_t c_5 e
        refine sl_ok ok_C_layer [.iconst (-1)] (pc1 := 51) (ls1 := [some (.ref 0), some (.int x1)]) (st1 := [.int (-1)]) (h1 := v_1) (P := True) (by decide +kernel) rfl trivial ?_
        cases e
        exact q_iret rfl k.1 k.2 (by decide +kernel)
      · have e := it_f c_5 e
        refine sl_ok ok_C_layer [.aload_n 0, .getfield 38, .iload_n 1] (pc1 := 44) (ls1 := [some (.ref 0), some (.int x1)]) (st1 := [.int x1, .ref 14]) (h1 := v_1) (P := (ak 0 = 0 ∧ cx 0 = 11) ∧ True) (by decide +kernel) rfl ⟨⟨rfl, rfl⟩, trivial⟩ ?_
        obtain ⟨v_6, e_7, e⟩ := bi_s e
        refine q_callV ok_Hulls_layerBits (as := [.int x1]) (st := []) ⟨wd_243, wd_244, wd_245, wd_207, ds_Hulls_layerBits, Nat.le_of_ble_eq_true rfl, Nat.le_of_ble_eq_true rfl⟩ (s_Hulls_layerBits  e_7) rfl ⟨rfl, rfl⟩ (ci := 4) rfl (fun v hv => by cases hv; rfl) (Nat.le_of_ble_eq_true rfl) (by decide +kernel) rfl ?_
        refine q_goto (off := 4) (tgt := 51) (by decide) (by decide +kernel) ?_
        cases e
        exact q_iret rfl k.1 k.2 (by decide +kernel)
  · have e := it_t c_3 e
    refine sl_ok ok_C_layer [.aload_n 0, .getfield 38, .getfield 226] (pc1 := 23) (ls1 := [some (.ref 0), some (.int x1)]) (st1 := [.int (hI v_1 14 2)]) (h1 := v_1) (P := (ak 0 = 0 ∧ cx 0 = 11) ∧ (ak 14 = 0 ∧ cx 14 = 4) ∧ True) (by decide +kernel) rfl ⟨⟨rfl, rfl⟩, ⟨rfl, rfl⟩, trivial⟩ ?_
    cases e
    exact q_iret rfl k.1 k.2 (by decide +kernel)
theorem s_C_layer {E : pE} {x1 : Int32} {h : pH}  {v : (Int32 × pH)} (e : f_C_layer x1 h = some v) : Ct E M_C_layer [.ref 0, .int x1] h (some (.int v.1)) v.2 :=
  Ct_of ok_C_layer [some (.ref 0), some (.int x1)] (Nat.le_of_ble_eq_true rfl) rfl (b_C_layer  e ⟨rfl, rfl⟩)
def f_R_layer (x1 : Int32) (h : pH) : Option (Int32 × pH) :=
  (f_R_laysLayers h).bind fun v_1 =>
  if x1 = (-1) then
    some (v_1.1, v_1.2)
  else
    if (f_R_in x1 (0 : Int32) (v_1.1 - 1)) = 0 then
      some ((-1), (v_1.2))
    else
      if x1 < 0 ∨ 13 ≤ x1.toNatClampNeg then none else
      some ((hI (v_1.2) 94 x1.toNatClampNeg), (v_1.2))
set_option maxHeartbeats 4000000 in
theorem b_R_layer {E : pE} {r : Option Value} {hr : pH} {x1 : Int32} {h : pH}  {b : (Int32 × pH)} (e : f_R_layer x1 h = some b) (k : (fun v : (Int32 × pH) => r = some (.int v.1) ∧ hr = v.2) b) : Go E M_R_layer 0 [some (.ref 79), some (.int x1), none] [] h r hr := by
  unfold f_R_layer at e
  refine sl_ok ok_R_layer [.aload_n 0] (pc1 := 1) (ls1 := [some (.ref 79), some (.int x1), none]) (st1 := [.ref 79]) (h1 := h) (P := True) (by decide +kernel) rfl trivial ?_
  obtain ⟨v_1, e_2, e⟩ := bi_s e
  refine q_callV ok_R_laysLayers (as := []) (st := []) ⟨wd_272, wd_273, wd_274, wd_7, ds_R_laysLayers, Nat.le_of_ble_eq_true rfl, Nat.le_of_ble_eq_true rfl⟩ (s_R_laysLayers  e_2) rfl ⟨rfl, rfl⟩ (ci := 12) rfl (fun v hv => by cases hv; rfl) (Nat.le_of_ble_eq_true rfl) (by decide +kernel) rfl ?_
  refine sl_ok ok_R_layer [.istore_n 2, .iload_n 1, .iconst (-1)] (pc1 := 7) (ls1 := [some (.ref 79), some (.int x1), some (.int v_1.1)]) (st1 := [.int (-1), .int x1]) (h1 := v_1.2) (P := True) (by decide +kernel) rfl trivial ?_
  refine q_icmp_ne (off := 7) (tgt := 14) (by decide +kernel) (by decide) (fun c_3 => ?_) (fun c_3 => ?_)
  · have e := it_f c_3 e
    refine sl_ok ok_R_layer [.iload_n 1, .iconst 0, .iload_n 2, .iconst 1, .isub] (pc1 := 19) (ls1 := [some (.ref 79), some (.int x1), some (.int v_1.1)]) (st1 := [.int (v_1.1 - 1), .int 0, .int x1]) (h1 := v_1.2) (P := True) (by decide +kernel) rfl trivial ?_
    refine q_callS ok_R_in (as := [.int x1, .int 0, .int (v_1.1 - 1)]) (st := []) ⟨wd_127, wd_128, wd_7, ds_R_in, Nat.le_of_ble_eq_true rfl, Nat.le_of_ble_eq_true rfl⟩ (s_R_in ) rfl (fun v hv => by cases hv; rfl) (Nat.le_of_ble_eq_true rfl) (by decide +kernel) rfl ?_
    refine q_if_eq (off := 12) (tgt := 34) (by decide +kernel) (by decide) (fun c_4 => ?_) (fun c_4 => ?_)
    · have e := it_t c_4 e
      refine sl_ok ok_R_layer [.iconst (-1)] (pc1 := 35) (ls1 := [some (.ref 79), some (.int x1), some (.int v_1.1)]) (st1 := [.int (-1)]) (h1 := (v_1.2)) (P := True) (by decide +kernel) rfl trivial ?_
      cases e
      exact q_iret rfl k.1 k.2 (by decide +kernel)
    · have e := it_f c_4 e
      obtain ⟨g_5, e⟩ := it_g e
      refine sl_ok ok_R_layer [.aload_n 0, .getfield 62, .iload_n 1, .iaload] (pc1 := 31) (ls1 := [some (.ref 79), some (.int x1), some (.int v_1.1)]) (st1 := [.int (hI (v_1.2) 94 x1.toNatClampNeg)]) (h1 := (v_1.2)) (P := (ak 79 = 0 ∧ cx 79 = 12) ∧ (ak 94 = 1 ∧ ¬ (x1 < 0 ∨ cx 94 ≤ x1.toNatClampNeg)) ∧ True) (by decide +kernel) rfl ⟨⟨rfl, rfl⟩, ⟨rfl, g_5⟩, trivial⟩ ?_
      refine q_goto (off := 4) (tgt := 35) (by decide) (by decide +kernel) ?_
      cases e
      exact q_iret rfl k.1 k.2 (by decide +kernel)
  · have e := it_t c_3 e
    refine sl_ok ok_R_layer [.iload_n 2] (pc1 := 11) (ls1 := [some (.ref 79), some (.int x1), some (.int v_1.1)]) (st1 := [.int v_1.1]) (h1 := v_1.2) (P := True) (by decide +kernel) rfl trivial ?_
    refine q_goto (off := 24) (tgt := 35) (by decide) (by decide +kernel) ?_
    cases e
    exact q_iret rfl k.1 k.2 (by decide +kernel)
theorem s_R_layer {E : pE} {x1 : Int32} {h : pH}  {v : (Int32 × pH)} (e : f_R_layer x1 h = some v) : Ct E M_R_layer [.ref 79, .int x1] h (some (.int v.1)) v.2 :=
  Ct_of ok_R_layer [some (.ref 79), some (.int x1), none] (Nat.le_of_ble_eq_true rfl) rfl (b_R_layer  e ⟨rfl, rfl⟩)
def f_C_edges_L2 (x1 : Int32) (x3 : Int32) (h : pH) (x2 : Int32) (x4 : Int32) : Option ((Int32 × Int32) ⊕ ((Int32 × Int32) ⊕ Int32)) :=
  if (hI h 8 2) ≤ x4 then
    some (.inr (.inl (x2, (x3 + 1))))
  else
    if x3 = x4 then
      some (.inl (x2, (x4 + 1)))
    else
      (f_Cloud_sideBits 8 x3 x4 ((-1) : Int32) h).bind fun v_3 =>
      if (f_J_bitCount v_3) = x1 then
        some (.inl ((x2 + 1), (x4 + 1)))
      else
        some (.inl (x2, (x4 + 1)))
set_option maxHeartbeats 4000000 in
theorem b_C_edges_L2 {E : pE} {r : Option Value} {hr : pH} {x1 : Int32} {x3 : Int32} {h : pH} {x2 : Int32} {x4 : Int32}  {b : ((Int32 × Int32) ⊕ ((Int32 × Int32) ⊕ Int32))} (e : f_C_edges_L2 x1 x3 h x2 x4 = some b) (k : (Sum.elim (fun s : (Int32 × Int32) => Go E M_C_edges 18 [some (.ref 0), some (.int x1), some (.int s.1), some (.int x3), some (.int s.2)] [] h r hr) (Sum.elim (fun s : (Int32 × Int32) => Go E M_C_edges 4 [some (.ref 0), some (.int x1), some (.int s.1), some (.int s.2), none] [] h r hr) (fun v : Int32 => r = some (.int v) ∧ hr = h))) b) : Go E M_C_edges 18 [some (.ref 0), some (.int x1), some (.int x2), some (.int x3), some (.int x4)] [] h r hr := by
  unfold f_C_edges_L2 at e
  refine sl_ok ok_C_edges [.iload 4, .aload_n 0, .getfield 28, .getfield 120] (pc1 := 27) (ls1 := [some (.ref 0), some (.int x1), some (.int x2), some (.int x3), some (.int x4)]) (st1 := [.int (hI h 8 2), .int x4]) (h1 := h) (P := (ak 0 = 0 ∧ cx 0 = 11) ∧ (ak 8 = 0 ∧ cx 8 = 0) ∧ True) (by decide +kernel) rfl ⟨⟨rfl, rfl⟩, ⟨rfl, rfl⟩, trivial⟩ ?_
  refine q_icmp_ge (off := 36) (tgt := 63) (by decide +kernel) (by decide) (fun c_1 => ?_) (fun c_1 => ?_)
  · have e := it_t c_1 e
    refine sl_ok ok_C_edges [.iinc 3 1] (pc1 := 66) (ls1 := [some (.ref 0), some (.int x1), some (.int x2), some (.int (x3 + 1)), some (.int x4)]) (st1 := []) (h1 := h) (P := True) (by decide +kernel) rfl trivial ?_
    refine q_goto (off := -62) (tgt := 4) (by decide) (by decide +kernel) ?_
    cases e
    refine Go.sb [some (.ref 0), some (.int x1), some (.int x2), some (.int (x3 + 1)), none] (And.intro rfl (And.intro rfl (And.intro rfl (And.intro rfl trivial)))) ?_
    exact k
  · have e := it_f c_1 e
    refine sl_ok ok_C_edges [.iload_n 3, .iload 4] (pc1 := 33) (ls1 := [some (.ref 0), some (.int x1), some (.int x2), some (.int x3), some (.int x4)]) (st1 := [.int x4, .int x3]) (h1 := h) (P := True) (by decide +kernel) rfl trivial ?_
    refine q_icmp_eq (off := 24) (tgt := 57) (by decide +kernel) (by decide) (fun c_2 => ?_) (fun c_2 => ?_)
    · have e := it_t c_2 e
      refine sl_ok ok_C_edges [.iinc 4 1] (pc1 := 60) (ls1 := [some (.ref 0), some (.int x1), some (.int x2), some (.int x3), some (.int (x4 + 1))]) (st1 := []) (h1 := h) (P := True) (by decide +kernel) rfl trivial ?_
      refine q_goto (off := -42) (tgt := 18) (by decide) (by decide +kernel) ?_
      cases e
      exact k
    · have e := it_f c_2 e
      refine sl_ok ok_C_edges [.aload_n 0, .getfield 28, .iload_n 3, .iload 4, .iconst (-1)] (pc1 := 44) (ls1 := [some (.ref 0), some (.int x1), some (.int x2), some (.int x3), some (.int x4)]) (st1 := [.int (-1), .int x4, .int x3, .ref 8]) (h1 := h) (P := (ak 0 = 0 ∧ cx 0 = 11) ∧ True) (by decide +kernel) rfl ⟨⟨rfl, rfl⟩, trivial⟩ ?_
      obtain ⟨v_3, e_4, e⟩ := bi_s e
      refine q_callV ok_Cloud_sideBits (as := [.int x3, .int x4, .int (-1)]) (st := []) ⟨wd_300, wd_203, wd_204, wd_14, ds_Cloud_sideBits, Nat.le_of_ble_eq_true rfl, Nat.le_of_ble_eq_true rfl⟩ (s_Cloud_sideBits ⟨rfl, rfl⟩ e_4) rfl ⟨rfl, rfl⟩ (ci := 0) rfl (fun v hv => by cases hv; rfl) (Nat.le_of_ble_eq_true rfl) (by decide +kernel) rfl ?_
      refine q_callS ok_J_bitCount (as := [.int v_3]) (st := []) ⟨wd_301, wd_302, wd_303, ds_J_bitCount, Nat.le_of_ble_eq_true rfl, Nat.le_of_ble_eq_true rfl⟩ (s_J_bitCount ) rfl (fun v hv => by cases hv; rfl) (Nat.le_of_ble_eq_true rfl) (by decide +kernel) rfl ?_
      refine sl_ok ok_C_edges [.iload_n 1] (pc1 := 51) (ls1 := [some (.ref 0), some (.int x1), some (.int x2), some (.int x3), some (.int x4)]) (st1 := [.int x1, .int (f_J_bitCount v_3)]) (h1 := h) (P := True) (by decide +kernel) rfl trivial ?_
      refine q_icmp_ne (off := 6) (tgt := 57) (by decide +kernel) (by decide) (fun c_5 => ?_) (fun c_5 => ?_)
      · have e := it_f c_5 e
        refine sl_ok ok_C_edges [.iinc 4 1] (pc1 := 60) (ls1 := [some (.ref 0), some (.int x1), some (.int x2), some (.int x3), some (.int (x4 + 1))]) (st1 := []) (h1 := h) (P := True) (by decide +kernel) rfl trivial ?_
        refine q_goto (off := -42) (tgt := 18) (by decide) (by decide +kernel) ?_
        cases e
        exact k
      · have e := it_t c_5 e
        refine sl_ok ok_C_edges [.iinc 2 1, .iinc 4 1] (pc1 := 60) (ls1 := [some (.ref 0), some (.int x1), some (.int (x2 + 1)), some (.int x3), some (.int (x4 + 1))]) (st1 := []) (h1 := h) (P := True) (by decide +kernel) rfl trivial ?_
        refine q_goto (off := -42) (tgt := 18) (by decide) (by decide +kernel) ?_
        cases e
        exact k
def f_C_edges_L1 (x1 : Int32) (h : pH) (x2 : Int32) (x3 : Int32) : Option ((Int32 × Int32) ⊕ Int32) :=
  if (hI h 8 2) ≤ x3 then
    some (.inr x2)
  else
    lp (fun s => f_C_edges_L2 x1 x3 h s.1 s.2) lpN (x2, 0)
set_option maxHeartbeats 4000000 in
theorem b_C_edges_L1 {E : pE} {r : Option Value} {hr : pH} {x1 : Int32} {h : pH} {x2 : Int32} {x3 : Int32}  {b : ((Int32 × Int32) ⊕ Int32)} (e : f_C_edges_L1 x1 h x2 x3 = some b) (k : (Sum.elim (fun s : (Int32 × Int32) => Go E M_C_edges 4 [some (.ref 0), some (.int x1), some (.int s.1), some (.int s.2), none] [] h r hr) (fun v : Int32 => r = some (.int v) ∧ hr = h)) b) : Go E M_C_edges 4 [some (.ref 0), some (.int x1), some (.int x2), some (.int x3), none] [] h r hr := by
  unfold f_C_edges_L1 at e
  refine sl_ok ok_C_edges [.iload_n 3, .aload_n 0, .getfield 28, .getfield 120] (pc1 := 12) (ls1 := [some (.ref 0), some (.int x1), some (.int x2), some (.int x3), none]) (st1 := [.int (hI h 8 2), .int x3]) (h1 := h) (P := (ak 0 = 0 ∧ cx 0 = 11) ∧ (ak 8 = 0 ∧ cx 8 = 0) ∧ True) (by decide +kernel) rfl ⟨⟨rfl, rfl⟩, ⟨rfl, rfl⟩, trivial⟩ ?_
  refine q_icmp_ge (off := 57) (tgt := 69) (by decide +kernel) (by decide) (fun c_1 => ?_) (fun c_1 => ?_)
  · have e := it_t c_1 e
    refine sl_ok ok_C_edges [.iload_n 2] (pc1 := 70) (ls1 := [some (.ref 0), some (.int x1), some (.int x2), some (.int x3), none]) (st1 := [.int x2]) (h1 := h) (P := True) (by decide +kernel) rfl trivial ?_
    cases e
    exact q_iret rfl k.1 k.2 (by decide +kernel)
  · have e := it_f c_1 e
    refine sl_ok ok_C_edges [.iconst 0, .istore 4] (pc1 := 18) (ls1 := [some (.ref 0), some (.int x1), some (.int x2), some (.int x3), some (.int 0)]) (st1 := []) (h1 := h) (P := True) (by decide +kernel) rfl trivial ?_
    exact lp_in e (fun s => Go E M_C_edges 18 [some (.ref 0), some (.int x1), some (.int s.1), some (.int x3), some (.int s.2)] [] h r hr) (Sum.elim (fun s : (Int32 × Int32) => Go E M_C_edges 4 [some (.ref 0), some (.int x1), some (.int s.1), some (.int s.2), none] [] h r hr) (fun v : Int32 => r = some (.int v) ∧ hr = h)) (fun _ _ e k => b_C_edges_L2  e k) k
def f_C_edges (x1 : Int32) (h : pH) : Option Int32 :=
  lp (fun s => f_C_edges_L1 x1 h s.1 s.2) lpN (0, 0)
set_option maxHeartbeats 4000000 in
theorem b_C_edges {E : pE} {r : Option Value} {hr : pH} {x1 : Int32} {h : pH}  {b : Int32} (e : f_C_edges x1 h = some b) (k : (fun v : Int32 => r = some (.int v) ∧ hr = h) b) : Go E M_C_edges 0 [some (.ref 0), some (.int x1), none, none, none] [] h r hr := by
  unfold f_C_edges at e
  refine sl_ok ok_C_edges [.iconst 0, .istore_n 2, .iconst 0, .istore_n 3] (pc1 := 4) (ls1 := [some (.ref 0), some (.int x1), some (.int 0), some (.int 0), none]) (st1 := []) (h1 := h) (P := True) (by decide +kernel) rfl trivial ?_
  exact lp_in e (fun s => Go E M_C_edges 4 [some (.ref 0), some (.int x1), some (.int s.1), some (.int s.2), none] [] h r hr) (fun v : Int32 => r = some (.int v) ∧ hr = h) (fun _ _ e k => b_C_edges_L1  e k) k
theorem s_C_edges {E : pE} {x1 : Int32} {h : pH}  {v : Int32} (e : f_C_edges x1 h = some v) : Ct E M_C_edges [.ref 0, .int x1] h (some (.int v)) h :=
  Ct_of ok_C_edges [some (.ref 0), some (.int x1), none, none, none] (Nat.le_of_ble_eq_true rfl) rfl (b_C_edges  e ⟨rfl, rfl⟩)
def f_R_edges_L2 (x1 : Int32) (x3 : Int32) (h : pH) (x2 : Int32) (x4 : Int32) : Option ((Int32 × Int32) ⊕ ((Int32 × Int32) ⊕ Int32)) :=
  if (f_R_all h) ≤ x4 then
    some (.inr (.inl (x2, (x3 + 1))))
  else
    if x3 = x4 then
      some (.inl (x2, (x4 + 1)))
    else
      (f_R_onSide x3 x4 ((-1) : Int32) (f_R_full h) h).bind fun v_3 =>
      (f_R_bitsOf v_3).bind fun v_5 =>
      if v_5 = x1 then
        some (.inl ((x2 + 1), (x4 + 1)))
      else
        some (.inl (x2, (x4 + 1)))
set_option maxHeartbeats 4000000 in
theorem b_R_edges_L2 {E : pE} {r : Option Value} {hr : pH} {x1 : Int32} {x3 : Int32} {h : pH} {x2 : Int32} {x4 : Int32}  {b : ((Int32 × Int32) ⊕ ((Int32 × Int32) ⊕ Int32))} (e : f_R_edges_L2 x1 x3 h x2 x4 = some b) (k : (Sum.elim (fun s : (Int32 × Int32) => Go E M_R_edges 15 [some (.ref 79), some (.int x1), some (.int s.1), some (.int x3), some (.int s.2)] [] h r hr) (Sum.elim (fun s : (Int32 × Int32) => Go E M_R_edges 4 [some (.ref 79), some (.int x1), some (.int s.1), some (.int s.2), none] [] h r hr) (fun v : Int32 => r = some (.int v) ∧ hr = h))) b) : Go E M_R_edges 15 [some (.ref 79), some (.int x1), some (.int x2), some (.int x3), some (.int x4)] [] h r hr := by
  unfold f_R_edges_L2 at e
  refine sl_ok ok_R_edges [.iload 4, .aload_n 0] (pc1 := 18) (ls1 := [some (.ref 79), some (.int x1), some (.int x2), some (.int x3), some (.int x4)]) (st1 := [.ref 79, .int x4]) (h1 := h) (P := True) (by decide +kernel) rfl trivial ?_
  refine q_callV ok_R_all (as := []) (st := [.int x4]) ⟨wd_151, wd_152, wd_153, wd_7, ds_R_all, Nat.le_of_ble_eq_true rfl, Nat.le_of_ble_eq_true rfl⟩ (s_R_all ) rfl ⟨rfl, rfl⟩ (ci := 12) rfl (fun v hv => by cases hv; rfl) (Nat.le_of_ble_eq_true rfl) (by decide +kernel) rfl ?_
  refine q_icmp_ge (off := 37) (tgt := 58) (by decide +kernel) (by decide) (fun c_1 => ?_) (fun c_1 => ?_)
  · have e := it_t c_1 e
    refine sl_ok ok_R_edges [.iinc 3 1] (pc1 := 61) (ls1 := [some (.ref 79), some (.int x1), some (.int x2), some (.int (x3 + 1)), some (.int x4)]) (st1 := []) (h1 := h) (P := True) (by decide +kernel) rfl trivial ?_
    refine q_goto (off := -57) (tgt := 4) (by decide) (by decide +kernel) ?_
    cases e
    refine Go.sb [some (.ref 79), some (.int x1), some (.int x2), some (.int (x3 + 1)), none] (And.intro rfl (And.intro rfl (And.intro rfl (And.intro rfl trivial)))) ?_
    exact k
  · have e := it_f c_1 e
    refine sl_ok ok_R_edges [.iload_n 3, .iload 4] (pc1 := 27) (ls1 := [some (.ref 79), some (.int x1), some (.int x2), some (.int x3), some (.int x4)]) (st1 := [.int x4, .int x3]) (h1 := h) (P := True) (by decide +kernel) rfl trivial ?_
    refine q_icmp_eq (off := 25) (tgt := 52) (by decide +kernel) (by decide) (fun c_2 => ?_) (fun c_2 => ?_)
    · have e := it_t c_2 e
      refine sl_ok ok_R_edges [.iinc 4 1] (pc1 := 55) (ls1 := [some (.ref 79), some (.int x1), some (.int x2), some (.int x3), some (.int (x4 + 1))]) (st1 := []) (h1 := h) (P := True) (by decide +kernel) rfl trivial ?_
      refine q_goto (off := -40) (tgt := 15) (by decide) (by decide +kernel) ?_
      cases e
      exact k
    · have e := it_f c_2 e
      refine sl_ok ok_R_edges [.aload_n 0, .iload_n 3, .iload 4, .iconst (-1), .aload_n 0] (pc1 := 36) (ls1 := [some (.ref 79), some (.int x1), some (.int x2), some (.int x3), some (.int x4)]) (st1 := [.ref 79, .int (-1), .int x4, .int x3, .ref 79]) (h1 := h) (P := True) (by decide +kernel) rfl trivial ?_
      refine q_callV ok_R_full (as := []) (st := [.int (-1), .int x4, .int x3, .ref 79]) ⟨wd_266, wd_267, wd_268, wd_7, ds_R_full, Nat.le_of_ble_eq_true rfl, Nat.le_of_ble_eq_true rfl⟩ (s_R_full ) rfl ⟨rfl, rfl⟩ (ci := 12) rfl (fun v hv => by cases hv; rfl) (Nat.le_of_ble_eq_true rfl) (by decide +kernel) rfl ?_
      obtain ⟨v_3, e_4, e⟩ := bi_s e
      refine q_callV ok_R_onSide (as := [.int x3, .int x4, .int (-1), .int (f_R_full h)]) (st := []) ⟨wd_260, wd_261, wd_262, wd_7, ds_R_onSide, Nat.le_of_ble_eq_true rfl, Nat.le_of_ble_eq_true rfl⟩ (s_R_onSide  e_4) rfl ⟨rfl, rfl⟩ (ci := 12) rfl (fun v hv => by cases hv; rfl) (Nat.le_of_ble_eq_true rfl) (by decide +kernel) rfl ?_
      obtain ⟨v_5, e_6, e⟩ := bi_s e
      refine q_callS ok_R_bitsOf (as := [.int v_3]) (st := []) ⟨wd_304, wd_305, wd_7, ds_R_bitsOf, Nat.le_of_ble_eq_true rfl, Nat.le_of_ble_eq_true rfl⟩ (s_R_bitsOf  e_6) rfl (fun v hv => by cases hv; rfl) (Nat.le_of_ble_eq_true rfl) (by decide +kernel) rfl ?_
      refine sl_ok ok_R_edges [.iload_n 1] (pc1 := 46) (ls1 := [some (.ref 79), some (.int x1), some (.int x2), some (.int x3), some (.int x4)]) (st1 := [.int x1, .int v_5]) (h1 := h) (P := True) (by decide +kernel) rfl trivial ?_
      refine q_icmp_ne (off := 6) (tgt := 52) (by decide +kernel) (by decide) (fun c_7 => ?_) (fun c_7 => ?_)
      · have e := it_f c_7 e
        refine sl_ok ok_R_edges [.iinc 4 1] (pc1 := 55) (ls1 := [some (.ref 79), some (.int x1), some (.int x2), some (.int x3), some (.int (x4 + 1))]) (st1 := []) (h1 := h) (P := True) (by decide +kernel) rfl trivial ?_
        refine q_goto (off := -40) (tgt := 15) (by decide) (by decide +kernel) ?_
        cases e
        exact k
      · have e := it_t c_7 e
        refine sl_ok ok_R_edges [.iinc 2 1, .iinc 4 1] (pc1 := 55) (ls1 := [some (.ref 79), some (.int x1), some (.int (x2 + 1)), some (.int x3), some (.int (x4 + 1))]) (st1 := []) (h1 := h) (P := True) (by decide +kernel) rfl trivial ?_
        refine q_goto (off := -40) (tgt := 15) (by decide) (by decide +kernel) ?_
        cases e
        exact k
def f_R_edges_L1 (x1 : Int32) (h : pH) (x2 : Int32) (x3 : Int32) : Option ((Int32 × Int32) ⊕ Int32) :=
  if (f_R_all h) ≤ x3 then
    some (.inr x2)
  else
    lp (fun s => f_R_edges_L2 x1 x3 h s.1 s.2) lpN (x2, 0)
set_option maxHeartbeats 4000000 in
theorem b_R_edges_L1 {E : pE} {r : Option Value} {hr : pH} {x1 : Int32} {h : pH} {x2 : Int32} {x3 : Int32}  {b : ((Int32 × Int32) ⊕ Int32)} (e : f_R_edges_L1 x1 h x2 x3 = some b) (k : (Sum.elim (fun s : (Int32 × Int32) => Go E M_R_edges 4 [some (.ref 79), some (.int x1), some (.int s.1), some (.int s.2), none] [] h r hr) (fun v : Int32 => r = some (.int v) ∧ hr = h)) b) : Go E M_R_edges 4 [some (.ref 79), some (.int x1), some (.int x2), some (.int x3), none] [] h r hr := by
  unfold f_R_edges_L1 at e
  refine sl_ok ok_R_edges [.iload_n 3, .aload_n 0] (pc1 := 6) (ls1 := [some (.ref 79), some (.int x1), some (.int x2), some (.int x3), none]) (st1 := [.ref 79, .int x3]) (h1 := h) (P := True) (by decide +kernel) rfl trivial ?_
  refine q_callV ok_R_all (as := []) (st := [.int x3]) ⟨wd_151, wd_152, wd_153, wd_7, ds_R_all, Nat.le_of_ble_eq_true rfl, Nat.le_of_ble_eq_true rfl⟩ (s_R_all ) rfl ⟨rfl, rfl⟩ (ci := 12) rfl (fun v hv => by cases hv; rfl) (Nat.le_of_ble_eq_true rfl) (by decide +kernel) rfl ?_
  refine q_icmp_ge (off := 55) (tgt := 64) (by decide +kernel) (by decide) (fun c_1 => ?_) (fun c_1 => ?_)
  · have e := it_t c_1 e
    refine sl_ok ok_R_edges [.iload_n 2] (pc1 := 65) (ls1 := [some (.ref 79), some (.int x1), some (.int x2), some (.int x3), none]) (st1 := [.int x2]) (h1 := h) (P := True) (by decide +kernel) rfl trivial ?_
    cases e
    exact q_iret rfl k.1 k.2 (by decide +kernel)
  · have e := it_f c_1 e
    refine sl_ok ok_R_edges [.iconst 0, .istore 4] (pc1 := 15) (ls1 := [some (.ref 79), some (.int x1), some (.int x2), some (.int x3), some (.int 0)]) (st1 := []) (h1 := h) (P := True) (by decide +kernel) rfl trivial ?_
    exact lp_in e (fun s => Go E M_R_edges 15 [some (.ref 79), some (.int x1), some (.int s.1), some (.int x3), some (.int s.2)] [] h r hr) (Sum.elim (fun s : (Int32 × Int32) => Go E M_R_edges 4 [some (.ref 79), some (.int x1), some (.int s.1), some (.int s.2), none] [] h r hr) (fun v : Int32 => r = some (.int v) ∧ hr = h)) (fun _ _ e k => b_R_edges_L2  e k) k
def f_R_edges (x1 : Int32) (h : pH) : Option Int32 :=
  lp (fun s => f_R_edges_L1 x1 h s.1 s.2) lpN (0, 0)
set_option maxHeartbeats 4000000 in
theorem b_R_edges {E : pE} {r : Option Value} {hr : pH} {x1 : Int32} {h : pH}  {b : Int32} (e : f_R_edges x1 h = some b) (k : (fun v : Int32 => r = some (.int v) ∧ hr = h) b) : Go E M_R_edges 0 [some (.ref 79), some (.int x1), none, none, none] [] h r hr := by
  unfold f_R_edges at e
  refine sl_ok ok_R_edges [.iconst 0, .istore_n 2, .iconst 0, .istore_n 3] (pc1 := 4) (ls1 := [some (.ref 79), some (.int x1), some (.int 0), some (.int 0), none]) (st1 := []) (h1 := h) (P := True) (by decide +kernel) rfl trivial ?_
  exact lp_in e (fun s => Go E M_R_edges 4 [some (.ref 79), some (.int x1), some (.int s.1), some (.int s.2), none] [] h r hr) (fun v : Int32 => r = some (.int v) ∧ hr = h) (fun _ _ e k => b_R_edges_L1  e k) k
theorem s_R_edges {E : pE} {x1 : Int32} {h : pH}  {v : Int32} (e : f_R_edges x1 h = some v) : Ct E M_R_edges [.ref 79, .int x1] h (some (.int v)) h :=
  Ct_of ok_R_edges [some (.ref 79), some (.int x1), none, none, none] (Nat.le_of_ble_eq_true rfl) rfl (b_R_edges  e ⟨rfl, rfl⟩)
def f_Cloud_isHalved (o0 : Nat) (x1 : Int32) (x2 : Int32) (x3 : Int32) (h : pH) : Option Int32 :=
  (f_Cloud_sideBits o0 x1 x2 (1 : Int32) h).bind fun v_1 =>
  if (f_J_bitCount x3) < (2 * (f_J_bitCount (v_1 &&& x3))) then
    some 0
  else
    (f_Cloud_sideBits o0 x1 x2 ((-1) : Int32) h).bind fun v_4 =>
    if (f_J_bitCount x3) < (2 * (f_J_bitCount (v_4 &&& x3))) then
      some 0
    else
      some 1
set_option maxHeartbeats 4000000 in
theorem b_Cloud_isHalved {E : pE} {r : Option Value} {hr : pH} {o0 : Nat} {x1 : Int32} {x2 : Int32} {x3 : Int32} {h : pH} (ho0 : ak o0 = 0 ∧ cx o0 = 0) {b : Int32} (e : f_Cloud_isHalved o0 x1 x2 x3 h = some b) (k : (fun v : Int32 => r = some (.int v) ∧ hr = h) b) : Go E M_Cloud_isHalved 0 [some (.ref o0), some (.int x1), some (.int x2), some (.int x3), none] [] h r hr := by
  unfold f_Cloud_isHalved at e
  refine sl_ok ok_Cloud_isHalved [.iload_n 3] (pc1 := 1) (ls1 := [some (.ref o0), some (.int x1), some (.int x2), some (.int x3), none]) (st1 := [.int x3]) (h1 := h) (P := True) (by decide +kernel) rfl trivial ?_
  refine q_callS ok_J_bitCount (as := [.int x3]) (st := []) ⟨wd_321, wd_302, wd_303, ds_J_bitCount, Nat.le_of_ble_eq_true rfl, Nat.le_of_ble_eq_true rfl⟩ (s_J_bitCount ) rfl (fun v hv => by cases hv; rfl) (Nat.le_of_ble_eq_true rfl) (by decide +kernel) rfl ?_
  refine sl_ok ok_Cloud_isHalved [.istore 4, .iconst 2, .aload_n 0, .iload_n 1, .iload_n 2, .iconst 1] (pc1 := 11) (ls1 := [some (.ref o0), some (.int x1), some (.int x2), some (.int x3), some (.int (f_J_bitCount x3))]) (st1 := [.int 1, .int x2, .int x1, .ref o0, .int 2]) (h1 := h) (P := True) (by decide +kernel) rfl trivial ?_
  obtain ⟨v_1, e_2, e⟩ := bi_s e
  refine q_callV ok_Cloud_sideBits (as := [.int x1, .int x2, .int 1]) (st := [.int 2]) ⟨wd_322, wd_203, wd_204, wd_14, ds_Cloud_sideBits, Nat.le_of_ble_eq_true rfl, Nat.le_of_ble_eq_true rfl⟩ (s_Cloud_sideBits ho0 e_2) rfl ho0 (ci := 0) rfl (fun v hv => by cases hv; rfl) (Nat.le_of_ble_eq_true rfl) (by decide +kernel) rfl ?_
  refine sl_ok ok_Cloud_isHalved [.iload_n 3, .iand] (pc1 := 16) (ls1 := [some (.ref o0), some (.int x1), some (.int x2), some (.int x3), some (.int (f_J_bitCount x3))]) (st1 := [.int (v_1 &&& x3), .int 2]) (h1 := h) (P := True) (by decide +kernel) rfl trivial ?_
  refine q_callS ok_J_bitCount (as := [.int (v_1 &&& x3)]) (st := [.int 2]) ⟨wd_321, wd_302, wd_303, ds_J_bitCount, Nat.le_of_ble_eq_true rfl, Nat.le_of_ble_eq_true rfl⟩ (s_J_bitCount ) rfl (fun v hv => by cases hv; rfl) (Nat.le_of_ble_eq_true rfl) (by decide +kernel) rfl ?_
  refine sl_ok ok_Cloud_isHalved [.imul, .iload 4] (pc1 := 22) (ls1 := [some (.ref o0), some (.int x1), some (.int x2), some (.int x3), some (.int (f_J_bitCount x3))]) (st1 := [.int (f_J_bitCount x3), .int (2 * (f_J_bitCount (v_1 &&& x3)))]) (h1 := h) (P := True) (by decide +kernel) rfl trivial ?_
  refine q_icmp_gt (off := 26) (tgt := 48) (by decide +kernel) (by decide) (fun c_3 => ?_) (fun c_3 => ?_)
  · have e := it_t c_3 e
    refine sl_ok ok_Cloud_isHalved [.iconst 0] (pc1 := 49) (ls1 := [some (.ref o0), some (.int x1), some (.int x2), some (.int x3), some (.int (f_J_bitCount x3))]) (st1 := [.int 0]) (h1 := h) (P := True) (by decide +kernel) rfl trivial ?_
    cases e
    exact q_zret rfl (Or.inl rfl) k.1 k.2 (by decide +kernel)
  · have e := it_f c_3 e
    refine sl_ok ok_Cloud_isHalved [.iconst 2, .aload_n 0, .iload_n 1, .iload_n 2, .iconst (-1)] (pc1 := 30) (ls1 := [some (.ref o0), some (.int x1), some (.int x2), some (.int x3), some (.int (f_J_bitCount x3))]) (st1 := [.int (-1), .int x2, .int x1, .ref o0, .int 2]) (h1 := h) (P := True) (by decide +kernel) rfl trivial ?_
    obtain ⟨v_4, e_5, e⟩ := bi_s e
    refine q_callV ok_Cloud_sideBits (as := [.int x1, .int x2, .int (-1)]) (st := [.int 2]) ⟨wd_322, wd_203, wd_204, wd_14, ds_Cloud_sideBits, Nat.le_of_ble_eq_true rfl, Nat.le_of_ble_eq_true rfl⟩ (s_Cloud_sideBits ho0 e_5) rfl ho0 (ci := 0) rfl (fun v hv => by cases hv; rfl) (Nat.le_of_ble_eq_true rfl) (by decide +kernel) rfl ?_
    refine sl_ok ok_Cloud_isHalved [.iload_n 3, .iand] (pc1 := 35) (ls1 := [some (.ref o0), some (.int x1), some (.int x2), some (.int x3), some (.int (f_J_bitCount x3))]) (st1 := [.int (v_4 &&& x3), .int 2]) (h1 := h) (P := True) (by decide +kernel) rfl trivial ?_
    refine q_callS ok_J_bitCount (as := [.int (v_4 &&& x3)]) (st := [.int 2]) ⟨wd_321, wd_302, wd_303, ds_J_bitCount, Nat.le_of_ble_eq_true rfl, Nat.le_of_ble_eq_true rfl⟩ (s_J_bitCount ) rfl (fun v hv => by cases hv; rfl) (Nat.le_of_ble_eq_true rfl) (by decide +kernel) rfl ?_
    refine sl_ok ok_Cloud_isHalved [.imul, .iload 4] (pc1 := 41) (ls1 := [some (.ref o0), some (.int x1), some (.int x2), some (.int x3), some (.int (f_J_bitCount x3))]) (st1 := [.int (f_J_bitCount x3), .int (2 * (f_J_bitCount (v_4 &&& x3)))]) (h1 := h) (P := True) (by decide +kernel) rfl trivial ?_
    refine q_icmp_gt (off := 7) (tgt := 48) (by decide +kernel) (by decide) (fun c_6 => ?_) (fun c_6 => ?_)
    · have e := it_t c_6 e
      refine sl_ok ok_Cloud_isHalved [.iconst 0] (pc1 := 49) (ls1 := [some (.ref o0), some (.int x1), some (.int x2), some (.int x3), some (.int (f_J_bitCount x3))]) (st1 := [.int 0]) (h1 := h) (P := True) (by decide +kernel) rfl trivial ?_
      cases e
      exact q_zret rfl (Or.inl rfl) k.1 k.2 (by decide +kernel)
    · have e := it_f c_6 e
      refine sl_ok ok_Cloud_isHalved [.iconst 1] (pc1 := 45) (ls1 := [some (.ref o0), some (.int x1), some (.int x2), some (.int x3), some (.int (f_J_bitCount x3))]) (st1 := [.int 1]) (h1 := h) (P := True) (by decide +kernel) rfl trivial ?_
      refine q_goto (off := 4) (tgt := 49) (by decide) (by decide +kernel) ?_
      cases e
      exact q_zret rfl (Or.inr rfl) k.1 k.2 (by decide +kernel)
theorem s_Cloud_isHalved {E : pE} {o0 : Nat} {x1 : Int32} {x2 : Int32} {x3 : Int32} {h : pH} (ho0 : ak o0 = 0 ∧ cx o0 = 0) {v : Int32} (e : f_Cloud_isHalved o0 x1 x2 x3 h = some v) : Ct E M_Cloud_isHalved [.ref o0, .int x1, .int x2, .int x3] h (some (.int v)) h :=
  Ct_of ok_Cloud_isHalved [some (.ref o0), some (.int x1), some (.int x2), some (.int x3), none] (Nat.le_of_ble_eq_true rfl) rfl (b_Cloud_isHalved ho0 e ⟨rfl, rfl⟩)
