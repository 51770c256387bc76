def f_TextReader_takeNumber (x1 : Int32) (h : pH) : Option pH :=
  if (hI h 3 5) = 6 then
    some (f_TextReader_takeGrid x1 h)
  else
    if (f_C_isWithinReach x1) = 0 then
      some ((f_TextReader_endWith (5 : Int32) (hI h 1 2) h).2)
    else
      if (hI h 3 5) = 2 then
        some (sI h 3 8 x1)
      else
        if (hI h 3 5) = 3 then
          some (sI h 3 8 x1)
        else
          (f_Cloud_isFree 4 (hI h 3 8) x1 h).bind fun v_5 =>
          if v_5 = 0 then
            some ((f_TextReader_endWith (3 : Int32) (hI h 1 2) h).2)
          else
            (f_Cloud_append 4 (hI h 3 8) x1 h).bind fun v_8 =>
            some v_8
set_option maxHeartbeats 4000000 in
theorem b_TextReader_takeNumber {E : pE} {r : Option Value} {hr : pH} {x1 : Int32} {h : pH}  {b : pH} (e : f_TextReader_takeNumber x1 h = some b) (k : (fun v : pH => r = none ∧ hr = v) b) : Go E M_TextReader_takeNumber 0 [some (.ref 3), some (.int x1)] [] h r hr := by
  unfold f_TextReader_takeNumber at e
  refine sl_ok ok_TextReader_takeNumber [.aload_n 0, .getfield 53, .bipush 6] (pc1 := 6) (ls1 := [some (.ref 3), some (.int x1)]) (st1 := [.int 6, .int (hI h 3 5)]) (h1 := h) (P := (ak 3 = 0 ∧ cx 3 = 10) ∧ True) (by decide +kernel) rfl ⟨⟨rfl, rfl⟩, trivial⟩ ?_
  refine q_icmp_ne (off := 11) (tgt := 17) (by decide +kernel) (by decide) (fun c_1 => ?_) (fun c_1 => ?_)
  · have e := it_f c_1 e
    refine sl_ok ok_TextReader_takeNumber [.iload_n 1] (pc1 := 18) (ls1 := [some (.ref 3), some (.int x1)]) (st1 := [.int x1]) (h1 := h) (P := True) (by decide +kernel) rfl trivial ?_
    refine q_callSN ok_C_isWithinReach (as := [.int x1]) (st := []) ⟨(List.mem_of_getElem? (i := 11) rfl), wd_47, wd_48, ds_C_isWithinReach, Nat.le_of_ble_eq_true rfl, Nat.le_of_ble_eq_true rfl⟩ (s_C_isWithinReach ) rfl (fun v hv => by cases hv; rfl) (Nat.le_of_ble_eq_true rfl) (by decide +kernel) rfl ?_
    refine q_if_ne (off := 19) (tgt := 40) (by decide +kernel) (by decide) (fun c_2 => ?_) (fun c_2 => ?_)
    · have e := it_f c_2 e
      refine sl_ok ok_TextReader_takeNumber [.aload_n 0, .getfield 53, .iconst 2] (pc1 := 45) (ls1 := [some (.ref 3), some (.int x1)]) (st1 := [.int 2, .int (hI h 3 5)]) (h1 := h) (P := (ak 3 = 0 ∧ cx 3 = 10) ∧ True) (by decide +kernel) rfl ⟨⟨rfl, rfl⟩, trivial⟩ ?_
      refine q_icmp_eq (off := 11) (tgt := 56) (by decide +kernel) (by decide) (fun c_3 => ?_) (fun c_3 => ?_)
      · have e := it_t c_3 e
        refine sl_ok ok_TextReader_takeNumber [.aload_n 0, .iload_n 1, .putfield 108] (pc1 := 61) (ls1 := [some (.ref 3), some (.int x1)]) (st1 := []) (h1 := (sI h 3 8 x1)) (P := (ak 3 = 0 ∧ cx 3 = 10) ∧ True) (by decide +kernel) rfl ⟨⟨rfl, rfl⟩, trivial⟩ ?_
        refine q_goto (off := 46) (tgt := 107) (by decide) (by decide +kernel) ?_
        cases e
        exact q_vret rfl k.1 k.2 (by decide +kernel)
      · have e := it_f c_3 e
        refine sl_ok ok_TextReader_takeNumber [.aload_n 0, .getfield 53, .iconst 3] (pc1 := 53) (ls1 := [some (.ref 3), some (.int x1)]) (st1 := [.int 3, .int (hI h 3 5)]) (h1 := h) (P := (ak 3 = 0 ∧ cx 3 = 10) ∧ True) (by decide +kernel) rfl ⟨⟨rfl, rfl⟩, trivial⟩ ?_
        refine q_icmp_ne (off := 11) (tgt := 64) (by decide +kernel) (by decide) (fun c_4 => ?_) (fun c_4 => ?_)
        · have e := it_f c_4 e
          refine sl_ok ok_TextReader_takeNumber [.aload_n 0, .getfield 12, .aload_n 0, .getfield 108, .iload_n 1] (pc1 := 73) (ls1 := [some (.ref 3), some (.int x1)]) (st1 := [.int x1, .int (hI h 3 8), .ref 4]) (h1 := h) (P := (ak 3 = 0 ∧ cx 3 = 10) ∧ (ak 3 = 0 ∧ cx 3 = 10) ∧ True) (by decide +kernel) rfl ⟨⟨rfl, rfl⟩, ⟨rfl, rfl⟩, trivial⟩ ?_
          obtain ⟨v_5, e_6, e⟩ := bi_s e
          refine q_callV ok_Cloud_isFree (as := [.int (hI h 3 8), .int x1]) (st := []) ⟨wd_52, wd_53, wd_54, wd_14, ds_Cloud_isFree, Nat.le_of_ble_eq_true rfl, Nat.le_of_ble_eq_true rfl⟩ (s_Cloud_isFree ⟨rfl, rfl⟩ e_6) rfl ⟨rfl, rfl⟩ (ci := 0) rfl (fun v hv => by cases hv; rfl) (Nat.le_of_ble_eq_true rfl) (by decide +kernel) rfl ?_
          refine q_if_eq (off := 18) (tgt := 94) (by decide +kernel) (by decide) (fun c_7 => ?_) (fun c_7 => ?_)
          · have e := it_t c_7 e
            refine sl_ok ok_TextReader_takeNumber [.aload_n 0, .iconst 3, .aload_n 0, .getfield 26, .getfield 43] (pc1 := 103) (ls1 := [some (.ref 3), some (.int x1)]) (st1 := [.int (hI h 1 2), .int 3, .ref 3]) (h1 := h) (P := (ak 3 = 0 ∧ cx 3 = 10) ∧ (ak 1 = 0 ∧ cx 1 = 9) ∧ True) (by decide +kernel) rfl ⟨⟨rfl, rfl⟩, ⟨rfl, rfl⟩, trivial⟩ ?_
            refine q_callV ok_TextReader_endWith (as := [.int 3, .int (hI h 1 2)]) (st := []) ⟨wd_44, wd_45, wd_46, wd_43, ds_TextReader_endWith, Nat.le_of_ble_eq_true rfl, Nat.le_of_ble_eq_true rfl⟩ (s_TextReader_endWith ) rfl ⟨rfl, rfl⟩ (ci := 10) rfl (fun v hv => by cases hv; rfl) (Nat.le_of_ble_eq_true rfl) (by decide +kernel) rfl ?_
            refine sl_ok ok_TextReader_takeNumber [.pop] (pc1 := 107) (ls1 := [some (.ref 3), some (.int x1)]) (st1 := []) (h1 := ((f_TextReader_endWith (3 : Int32) (hI h 1 2) h).2)) (P := True) (by decide +kernel) rfl trivial ?_
            cases e
            exact q_vret rfl k.1 k.2 (by decide +kernel)
          · have e := it_f c_7 e
            refine sl_ok ok_TextReader_takeNumber [.aload_n 0, .getfield 12, .aload_n 0, .getfield 108, .iload_n 1] (pc1 := 88) (ls1 := [some (.ref 3), some (.int x1)]) (st1 := [.int x1, .int (hI h 3 8), .ref 4]) (h1 := h) (P := (ak 3 = 0 ∧ cx 3 = 10) ∧ (ak 3 = 0 ∧ cx 3 = 10) ∧ True) (by decide +kernel) rfl ⟨⟨rfl, rfl⟩, ⟨rfl, rfl⟩, trivial⟩ ?_
            obtain ⟨v_8, e_9, e⟩ := bi_s e
            refine q_callV ok_Cloud_append (as := [.int (hI h 3 8), .int x1]) (st := []) ⟨wd_55, wd_56, wd_57, wd_14, ds_Cloud_append, Nat.le_of_ble_eq_true rfl, Nat.le_of_ble_eq_true rfl⟩ (s_Cloud_append ⟨rfl, rfl⟩ e_9) rfl ⟨rfl, rfl⟩ (ci := 0) rfl (fun v hv => by cases hv) (Nat.le_of_ble_eq_true rfl) (by decide +kernel) rfl ?_
            refine q_goto (off := 16) (tgt := 107) (by decide) (by decide +kernel) ?_
            cases e
            exact q_vret rfl k.1 k.2 (by decide +kernel)
        · have e := it_t c_4 e
          refine sl_ok ok_TextReader_takeNumber [.aload_n 0, .iload_n 1, .putfield 108] (pc1 := 61) (ls1 := [some (.ref 3), some (.int x1)]) (st1 := []) (h1 := (sI h 3 8 x1)) (P := (ak 3 = 0 ∧ cx 3 = 10) ∧ True) (by decide +kernel) rfl ⟨⟨rfl, rfl⟩, trivial⟩ ?_
          refine q_goto (off := 46) (tgt := 107) (by decide) (by decide +kernel) ?_
          cases e
          exact q_vret rfl k.1 k.2 (by decide +kernel)
    · have e := it_t c_2 e
      refine sl_ok ok_TextReader_takeNumber [.aload_n 0, .iconst 5, .aload_n 0, .getfield 26, .getfield 43] (pc1 := 33) (ls1 := [some (.ref 3), some (.int x1)]) (st1 := [.int (hI h 1 2), .int 5, .ref 3]) (h1 := h) (P := (ak 3 = 0 ∧ cx 3 = 10) ∧ (ak 1 = 0 ∧ cx 1 = 9) ∧ True) (by decide +kernel) rfl ⟨⟨rfl, rfl⟩, ⟨rfl, rfl⟩, trivial⟩ ?_
      refine q_callV ok_TextReader_endWith (as := [.int 5, .int (hI h 1 2)]) (st := []) ⟨wd_44, wd_45, wd_46, wd_43, ds_TextReader_endWith, Nat.le_of_ble_eq_true rfl, Nat.le_of_ble_eq_true rfl⟩ (s_TextReader_endWith ) rfl ⟨rfl, rfl⟩ (ci := 10) rfl (fun v hv => by cases hv; rfl) (Nat.le_of_ble_eq_true rfl) (by decide +kernel) rfl ?_
      refine sl_ok ok_TextReader_takeNumber [.pop] (pc1 := 37) (ls1 := [some (.ref 3), some (.int x1)]) (st1 := []) (h1 := ((f_TextReader_endWith (5 : Int32) (hI h 1 2) h).2)) (P := True) (by decide +kernel) rfl trivial ?_
      refine q_goto (off := 70) (tgt := 107) (by decide) (by decide +kernel) ?_
      cases e
      exact q_vret rfl k.1 k.2 (by decide +kernel)
  · have e := it_t c_1 e
    refine sl_ok ok_TextReader_takeNumber [.aload_n 0, .iload_n 1] (pc1 := 11) (ls1 := [some (.ref 3), some (.int x1)]) (st1 := [.int x1, .ref 3]) (h1 := h) (P := True) (by decide +kernel) rfl trivial ?_
    refine q_callV ok_TextReader_takeGrid (as := [.int x1]) (st := []) ⟨wd_58, wd_59, wd_60, wd_43, ds_TextReader_takeGrid, Nat.le_of_ble_eq_true rfl, Nat.le_of_ble_eq_true rfl⟩ (s_TextReader_takeGrid ) rfl ⟨rfl, rfl⟩ (ci := 10) rfl (fun v hv => by cases hv) (Nat.le_of_ble_eq_true rfl) (by decide +kernel) rfl ?_
    refine q_goto (off := 93) (tgt := 107) (by decide) (by decide +kernel) ?_
    cases e
    exact q_vret rfl k.1 k.2 (by decide +kernel)
theorem s_TextReader_takeNumber {E : pE} {x1 : Int32} {h : pH}  {v : pH} (e : f_TextReader_takeNumber x1 h = some v) : Ct E M_TextReader_takeNumber [.ref 3, .int x1] h none v :=
  Ct_of ok_TextReader_takeNumber [some (.ref 3), some (.int x1)] (Nat.le_of_ble_eq_true rfl) rfl (b_TextReader_takeNumber  e ⟨rfl, rfl⟩)
def f_TextReader_take (h : pH) : Option pH :=
  if (hI h 3 4) = 0 then
    if (hI h 1 3) = 3 then
      (f_TextReader_takeName h).bind fun v_10 =>
      some v_10
    else
      if (hI h 1 3) = 4 then
        if (hI h 3 9) = 0 then
          (f_TextReader_takeNumber (hI h 1 4) h).bind fun v_6 =>
          some (sI v_6 3 9 0)
        else
          (f_TextReader_takeNumber (-(hI h 1 4)) h).bind fun v_8 =>
          some (sI v_8 3 9 0)
      else
        if (hI h 1 3) = 5 then
          some (sI h 3 9 1)
        else
          some h
  else
    some h
set_option maxHeartbeats 4000000 in
theorem b_TextReader_take {E : pE} {r : Option Value} {hr : pH} {h : pH}  {b : pH} (e : f_TextReader_take h = some b) (k : (fun v : pH => r = none ∧ hr = v) b) : Go E M_TextReader_take 0 [some (.ref 3)] [] h r hr := by
  unfold f_TextReader_take at e
  refine sl_ok ok_TextReader_take [.aload_n 0, .getfield 65] (pc1 := 4) (ls1 := [some (.ref 3)]) (st1 := [.int (hI h 3 4)]) (h1 := h) (P := (ak 3 = 0 ∧ cx 3 = 10) ∧ True) (by decide +kernel) rfl ⟨⟨rfl, rfl⟩, trivial⟩ ?_
  refine q_if_eq (off := 4) (tgt := 8) (by decide +kernel) (by decide) (fun c_1 => ?_) (fun c_1 => ?_)
  · have e := it_t c_1 e
    refine sl_ok ok_TextReader_take [.aload_n 0, .getfield 26, .getfield 56] (pc1 := 15) (ls1 := [some (.ref 3)]) (st1 := [.int (hI h 1 3)]) (h1 := h) (P := (ak 3 = 0 ∧ cx 3 = 10) ∧ (ak 1 = 0 ∧ cx 1 = 9) ∧ True) (by decide +kernel) rfl ⟨⟨rfl, rfl⟩, ⟨rfl, rfl⟩, trivial⟩ ?_
    by_cases c_2 : (hI h 1 3) = 3
    · have e := it_t c_2 e
      refine q_tableIn (off := 25) (tgt := 40) (by decide +kernel : decode (mB M_TextReader_take) 15 = .ok (.tableswitch 77 3 5 #[25, 40, 32], 25)) (by rw [c_2]; decide) (by rw [c_2]; decide) (by rw [c_2]; decide) (by decide) ?_
      refine sl_ok ok_TextReader_take [.aload_n 0] (pc1 := 41) (ls1 := [some (.ref 3)]) (st1 := [.ref 3]) (h1 := h) (P := True) (by decide +kernel) rfl trivial ?_
      obtain ⟨v_10, e_11, e⟩ := bi_s e
      refine q_callV ok_TextReader_takeName (as := []) (st := []) ⟨wd_64, wd_65, wd_66, wd_43, ds_TextReader_takeName, Nat.le_of_ble_eq_true rfl, Nat.le_of_ble_eq_true rfl⟩ (s_TextReader_takeName  e_11) rfl ⟨rfl, rfl⟩ (ci := 10) rfl (fun v hv => by cases hv) (Nat.le_of_ble_eq_true rfl) (by decide +kernel) rfl ?_
      refine q_goto (off := 48) (tgt := 92) (by decide) (by decide +kernel) ?_
      cases e
      exact q_vret rfl k.1 k.2 (by decide +kernel)
    · have e := it_f c_2 e
      by_cases c_3 : (hI h 1 3) = 4
      · have e := it_t c_3 e
        refine q_tableIn (off := 40) (tgt := 55) (by decide +kernel : decode (mB M_TextReader_take) 15 = .ok (.tableswitch 77 3 5 #[25, 40, 32], 25)) (by rw [c_3]; decide) (by rw [c_3]; decide) (by rw [c_3]; decide) (by decide) ?_
        refine sl_ok ok_TextReader_take [.aload_n 0, .aload_n 0, .getfield 80] (pc1 := 60) (ls1 := [some (.ref 3)]) (st1 := [.int (hI h 3 9), .ref 3]) (h1 := h) (P := (ak 3 = 0 ∧ cx 3 = 10) ∧ True) (by decide +kernel) rfl ⟨⟨rfl, rfl⟩, trivial⟩ ?_
        refine q_if_eq (off := 14) (tgt := 74) (by decide +kernel) (by decide) (fun c_5 => ?_) (fun c_5 => ?_)
        · have e := it_t c_5 e
          refine sl_ok ok_TextReader_take [.aload_n 0, .getfield 26, .getfield 87] (pc1 := 81) (ls1 := [some (.ref 3)]) (st1 := [.int (hI h 1 4), .ref 3]) (h1 := h) (P := (ak 3 = 0 ∧ cx 3 = 10) ∧ (ak 1 = 0 ∧ cx 1 = 9) ∧ True) (by decide +kernel) rfl ⟨⟨rfl, rfl⟩, ⟨rfl, rfl⟩, trivial⟩ ?_
          obtain ⟨v_6, e_7, e⟩ := bi_s e
          refine q_callV ok_TextReader_takeNumber (as := [.int (hI h 1 4)]) (st := []) ⟨wd_61, wd_62, wd_63, wd_43, ds_TextReader_takeNumber, Nat.le_of_ble_eq_true rfl, Nat.le_of_ble_eq_true rfl⟩ (s_TextReader_takeNumber  e_7) rfl ⟨rfl, rfl⟩ (ci := 10) rfl (fun v hv => by cases hv) (Nat.le_of_ble_eq_true rfl) (by decide +kernel) rfl ?_
          refine sl_ok ok_TextReader_take [.aload_n 0, .iconst 0, .putfield 80] (pc1 := 89) (ls1 := [some (.ref 3)]) (st1 := []) (h1 := (sI v_6 3 9 0)) (P := ((ak 3 = 0 ∧ cx 3 = 10) ∧ ((0 : Int32) = 0 ∨ (0 : Int32) = 1)) ∧ True) (by decide +kernel) rfl ⟨⟨⟨rfl, rfl⟩, Or.inl rfl⟩, trivial⟩ ?_
          refine q_goto (off := 3) (tgt := 92) (by decide) (by decide +kernel) ?_
          cases e
          exact q_vret rfl k.1 k.2 (by decide +kernel)
        · have e := it_f c_5 e
          refine sl_ok ok_TextReader_take [.aload_n 0, .getfield 26, .getfield 87, .ineg] (pc1 := 71) (ls1 := [some (.ref 3)]) (st1 := [.int (-(hI h 1 4)), .ref 3]) (h1 := h) (P := (ak 3 = 0 ∧ cx 3 = 10) ∧ (ak 1 = 0 ∧ cx 1 = 9) ∧ True) (by decide +kernel) rfl ⟨⟨rfl, rfl⟩, ⟨rfl, rfl⟩, trivial⟩ ?_
          refine q_goto (off := 10) (tgt := 81) (by decide) (by decide +kernel) ?_
          obtain ⟨v_8, e_9, e⟩ := bi_s e
          refine q_callV ok_TextReader_takeNumber (as := [.int (-(hI h 1 4))]) (st := []) ⟨wd_61, wd_62, wd_63, wd_43, ds_TextReader_takeNumber, Nat.le_of_ble_eq_true rfl, Nat.le_of_ble_eq_true rfl⟩ (s_TextReader_takeNumber  e_9) rfl ⟨rfl, rfl⟩ (ci := 10) rfl (fun v hv => by cases hv) (Nat.le_of_ble_eq_true rfl) (by decide +kernel) rfl ?_
          refine sl_ok ok_TextReader_take [.aload_n 0, .iconst 0, .putfield 80] (pc1 := 89) (ls1 := [some (.ref 3)]) (st1 := []) (h1 := (sI v_8 3 9 0)) (P := ((ak 3 = 0 ∧ cx 3 = 10) ∧ ((0 : Int32) = 0 ∨ (0 : Int32) = 1)) ∧ True) (by decide +kernel) rfl ⟨⟨⟨rfl, rfl⟩, Or.inl rfl⟩, trivial⟩ ?_
          refine q_goto (off := 3) (tgt := 92) (by decide) (by decide +kernel) ?_
          cases e
          exact q_vret rfl k.1 k.2 (by decide +kernel)
      · have e := it_f c_3 e
        by_cases c_4 : (hI h 1 3) = 5
        · have e := it_t c_4 e
          refine q_tableIn (off := 32) (tgt := 47) (by decide +kernel : decode (mB M_TextReader_take) 15 = .ok (.tableswitch 77 3 5 #[25, 40, 32], 25)) (by rw [c_4]; decide) (by rw [c_4]; decide) (by rw [c_4]; decide) (by decide) ?_
          refine sl_ok ok_TextReader_take [.aload_n 0, .iconst 1, .putfield 80] (pc1 := 52) (ls1 := [some (.ref 3)]) (st1 := []) (h1 := (sI h 3 9 1)) (P := ((ak 3 = 0 ∧ cx 3 = 10) ∧ ((1 : Int32) = 0 ∨ (1 : Int32) = 1)) ∧ True) (by decide +kernel) rfl ⟨⟨⟨rfl, rfl⟩, Or.inr rfl⟩, trivial⟩ ?_
          refine q_goto (off := 40) (tgt := 92) (by decide) (by decide +kernel) ?_
          cases e
          exact q_vret rfl k.1 k.2 (by decide +kernel)
        · have e := it_f c_4 e
          refine q_tableOut (tgt := 92) (by decide +kernel : decode (mB M_TextReader_take) 15 = .ok (.tableswitch 77 3 5 #[25, 40, 32], 25)) (sw_out [3, 4, 5] (by decide) ⟨c_2, c_3, c_4, trivial⟩) (by decide) ?_
          cases e
          exact q_vret rfl k.1 k.2 (by decide +kernel)
  · have e := it_f c_1 e
    cases e
    exact q_vret rfl k.1 k.2 (by decide +kernel)
theorem s_TextReader_take {E : pE} {h : pH}  {v : pH} (e : f_TextReader_take h = some v) : Ct E M_TextReader_take [.ref 3] h none v :=
  Ct_of ok_TextReader_take [some (.ref 3)] (Nat.le_of_ble_eq_true rfl) rfl (b_TextReader_take  e ⟨rfl, rfl⟩)
def f_Cloud_takeFrom_L1 (o0 : Nat) (o1 : Nat) (x2 : Int32) (h : pH) : Option ((Int32 × pH) ⊕ pH) :=
  if (hI h o1 2) ≤ x2 then
    some (.inr (sI h o0 3 (hI h o1 3)))
  else
    if x2 < 0 ∨ 12 ≤ x2.toNatClampNeg then none else
    (f_Cloud_append o0 (hI h (rf o1 0) x2.toNatClampNeg) (hI h (rf o1 1) x2.toNatClampNeg) h).bind fun v_3 =>
    some (.inl ((x2 + 1), v_3))
set_option maxHeartbeats 4000000 in
theorem b_Cloud_takeFrom_L1 {E : pE} {r : Option Value} {hr : pH} {o0 : Nat} {o1 : Nat} {x2 : Int32} {h : pH} (ho0 : ak o0 = 0 ∧ cx o0 = 0) (ho1 : ak o1 = 0 ∧ cx o1 = 0) {b : ((Int32 × pH) ⊕ pH)} (e : f_Cloud_takeFrom_L1 o0 o1 x2 h = some b) (k : (Sum.elim (fun s : (Int32 × pH) => Go E M_Cloud_takeFrom 6 [some (.ref o0), some (.ref o1), some (.int s.1)] [] s.2 r hr) (fun v : pH => r = none ∧ hr = v)) b) : Go E M_Cloud_takeFrom 6 [some (.ref o0), some (.ref o1), some (.int x2)] [] h r hr := by
  unfold f_Cloud_takeFrom_L1 at e
  refine sl_ok ok_Cloud_takeFrom [.iload_n 2, .aload_n 1, .getfield 22] (pc1 := 11) (ls1 := [some (.ref o0), some (.ref o1), some (.int x2)]) (st1 := [.int (hI h o1 2), .int x2]) (h1 := h) (P := (ak o1 = 0 ∧ cx o1 = 0) ∧ True) (by decide +kernel) rfl ⟨ho1, trivial⟩ ?_
  refine q_icmp_ge (off := 25) (tgt := 36) (by decide +kernel) (by decide) (fun c_1 => ?_) (fun c_1 => ?_)
  · have e := it_t c_1 e
    refine sl_ok ok_Cloud_takeFrom [.aload_n 0, .aload_n 1, .getfield 18, .putfield 18] (pc1 := 44) (ls1 := [some (.ref o0), some (.ref o1), some (.int x2)]) (st1 := []) (h1 := (sI h o0 3 (hI h o1 3))) (P := (ak o1 = 0 ∧ cx o1 = 0) ∧ (ak o0 = 0 ∧ cx o0 = 0) ∧ True) (by decide +kernel) rfl ⟨ho1, ho0, trivial⟩ ?_
    cases e
    exact q_vret rfl k.1 k.2 (by decide +kernel)
  · have e := it_f c_1 e
    obtain ⟨g_2, e⟩ := it_g e
    refine sl_ok ok_Cloud_takeFrom [.aload_n 0, .aload_n 1, .getfield 9, .iload_n 2, .iaload, .aload_n 1, .getfield 15, .iload_n 2, .iaload] (pc1 := 27) (ls1 := [some (.ref o0), some (.ref o1), some (.int x2)]) (st1 := [.int (hI h (rf o1 1) x2.toNatClampNeg), .int (hI h (rf o1 0) x2.toNatClampNeg), .ref o0]) (h1 := h) (P := (ak o1 = 0 ∧ cx o1 = 0) ∧ (ak (rf o1 0) = 1 ∧ ¬ (x2 < 0 ∨ cx (rf o1 0) ≤ x2.toNatClampNeg)) ∧ (ak o1 = 0 ∧ cx o1 = 0) ∧ (ak (rf o1 1) = 1 ∧ ¬ (x2 < 0 ∨ cx (rf o1 1) ≤ x2.toNatClampNeg)) ∧ True) (by decide +kernel) rfl ⟨ho1, ⟨(st_0_0 ho1).1, (by rw [(st_0_0 ho1).2]; exact g_2)⟩, ho1, ⟨(st_0_1 ho1).1, (by rw [(st_0_1 ho1).2]; exact g_2)⟩, trivial⟩ ?_
    obtain ⟨v_3, e_4, e⟩ := bi_s e
    refine q_callV ok_Cloud_append (as := [.int (hI h (rf o1 0) x2.toNatClampNeg), .int (hI h (rf o1 1) x2.toNatClampNeg)]) (st := []) ⟨wd_80, wd_56, wd_57, wd_14, ds_Cloud_append, Nat.le_of_ble_eq_true rfl, Nat.le_of_ble_eq_true rfl⟩ (s_Cloud_append ho0 e_4) rfl ho0 (ci := 0) rfl (fun v hv => by cases hv) (Nat.le_of_ble_eq_true rfl) (by decide +kernel) rfl ?_
    refine sl_ok ok_Cloud_takeFrom [.iinc 2 1] (pc1 := 33) (ls1 := [some (.ref o0), some (.ref o1), some (.int (x2 + 1))]) (st1 := []) (h1 := v_3) (P := True) (by decide +kernel) rfl trivial ?_
    refine q_goto (off := -27) (tgt := 6) (by decide) (by decide +kernel) ?_
    cases e
    exact k
def f_Cloud_takeFrom (o0 : Nat) (o1 : Nat) (h : pH) : Option pH :=
  lp (fun s => f_Cloud_takeFrom_L1 o0 o1 s.1 s.2) lpN (0, (f_Cloud_clear o0 h))
set_option maxHeartbeats 4000000 in
theorem b_Cloud_takeFrom {E : pE} {r : Option Value} {hr : pH} {o0 : Nat} {o1 : Nat} {h : pH} (ho0 : ak o0 = 0 ∧ cx o0 = 0) (ho1 : ak o1 = 0 ∧ cx o1 = 0) {b : pH} (e : f_Cloud_takeFrom o0 o1 h = some b) (k : (fun v : pH => r = none ∧ hr = v) b) : Go E M_Cloud_takeFrom 0 [some (.ref o0), some (.ref o1), none] [] h r hr := by
  unfold f_Cloud_takeFrom at e
  refine sl_ok ok_Cloud_takeFrom [.aload_n 0] (pc1 := 1) (ls1 := [some (.ref o0), some (.ref o1), none]) (st1 := [.ref o0]) (h1 := h) (P := True) (by decide +kernel) rfl trivial ?_
  refine q_callV ok_Cloud_clear (as := []) (st := []) ⟨wd_79, wd_12, wd_13, wd_14, ds_Cloud_clear, Nat.le_of_ble_eq_true rfl, Nat.le_of_ble_eq_true rfl⟩ (s_Cloud_clear ho0) rfl ho0 (ci := 0) rfl (fun v hv => by cases hv) (Nat.le_of_ble_eq_true rfl) (by decide +kernel) rfl ?_
  refine sl_ok ok_Cloud_takeFrom [.iconst 0, .istore_n 2] (pc1 := 6) (ls1 := [some (.ref o0), some (.ref o1), some (.int 0)]) (st1 := []) (h1 := (f_Cloud_clear o0 h)) (P := True) (by decide +kernel) rfl trivial ?_
  exact lp_in e (fun s => Go E M_Cloud_takeFrom 6 [some (.ref o0), some (.ref o1), some (.int s.1)] [] s.2 r hr) (fun v : pH => r = none ∧ hr = v) (fun _ _ e k => b_Cloud_takeFrom_L1 ho0 ho1 e k) k
theorem s_Cloud_takeFrom {E : pE} {o0 : Nat} {o1 : Nat} {h : pH} (ho0 : ak o0 = 0 ∧ cx o0 = 0) (ho1 : ak o1 = 0 ∧ cx o1 = 0) {v : pH} (e : f_Cloud_takeFrom o0 o1 h = some v) : Ct E M_Cloud_takeFrom [.ref o0, .ref o1] h none v :=
  Ct_of ok_Cloud_takeFrom [some (.ref o0), some (.ref o1), none] (Nat.le_of_ble_eq_true rfl) rfl (b_Cloud_takeFrom ho0 ho1 e ⟨rfl, rfl⟩)
def f_C_forgetPast (h : pH) : pH :=
  (sI (sI h 0 13 0) 0 14 0)
set_option maxHeartbeats 4000000 in
theorem b_C_forgetPast {E : pE} {r : Option Value} {hr : pH} {h : pH}  {b : pH} (e : f_C_forgetPast h = b) (k : (fun v : pH => r = none ∧ hr = v) b) : Go E M_C_forgetPast 0 [some (.ref 0)] [] h r hr := by
  unfold f_C_forgetPast at e
  refine sl_ok ok_C_forgetPast [.aload_n 0, .iconst 0, .putfield 151, .aload_n 0, .iconst 0, .putfield 154] (pc1 := 10) (ls1 := [some (.ref 0)]) (st1 := []) (h1 := (sI (sI h 0 13 0) 0 14 0)) (P := (ak 0 = 0 ∧ cx 0 = 11) ∧ (ak 0 = 0 ∧ cx 0 = 11) ∧ True) (by decide +kernel) rfl ⟨⟨rfl, rfl⟩, ⟨rfl, rfl⟩, trivial⟩ ?_
  cases e
  exact q_vret rfl k.1 k.2 (by decide +kernel)
theorem s_C_forgetPast {E : pE} {h : pH}  : Ct E M_C_forgetPast [.ref 0] h none (f_C_forgetPast h) :=
  Ct_of ok_C_forgetPast [some (.ref 0)] (Nat.le_of_ble_eq_true rfl) rfl (b_C_forgetPast  rfl ⟨rfl, rfl⟩)
def f_C_emptySlots_L1 (x1 : Int32) (h : pH) : Option ((Int32 × pH) ⊕ pH) :=
  if 3 ≤ x1 then
    some (.inr h)
  else
    if x1 < 0 ∨ 3 ≤ x1.toNatClampNeg then none else
    some (.inl ((x1 + 1), (sI h 78 x1.toNatClampNeg (vp_nar .boolean 0))))
set_option maxHeartbeats 4000000 in
theorem b_C_emptySlots_L1 {E : pE} {r : Option Value} {hr : pH} {x1 : Int32} {h : pH}  {b : ((Int32 × pH) ⊕ pH)} (e : f_C_emptySlots_L1 x1 h = some b) (k : (Sum.elim (fun s : (Int32 × pH) => Go E M_C_emptySlots 2 [some (.ref 0), some (.int s.1)] [] s.2 r hr) (fun v : pH => r = none ∧ hr = v)) b) : Go E M_C_emptySlots 2 [some (.ref 0), some (.int x1)] [] h r hr := by
  unfold f_C_emptySlots_L1 at e
  refine sl_ok ok_C_emptySlots [.iload_n 1, .iconst 3] (pc1 := 4) (ls1 := [some (.ref 0), some (.int x1)]) (st1 := [.int 3, .int x1]) (h1 := h) (P := True) (by decide +kernel) rfl trivial ?_
  refine q_icmp_ge (off := 16) (tgt := 20) (by decide +kernel) (by decide) (fun c_1 => ?_) (fun c_1 => ?_)
  · have e := it_t c_1 e
    cases e
    exact q_vret rfl k.1 k.2 (by decide +kernel)
  · have e := it_f c_1 e
    obtain ⟨g_2, e⟩ := it_g e
    refine sl_ok ok_C_emptySlots [.aload_n 0, .getfield 89, .iload_n 1, .iconst 0, .bastore, .iinc 1 1] (pc1 := 17) (ls1 := [some (.ref 0), some (.int (x1 + 1))]) (st1 := []) (h1 := (sI h 78 x1.toNatClampNeg (vp_nar .boolean 0))) (P := (ak 0 = 0 ∧ cx 0 = 11) ∧ (¬ (x1 < 0 ∨ cx 78 ≤ x1.toNatClampNeg)) ∧ True) (by decide +kernel) rfl ⟨⟨rfl, rfl⟩, g_2, trivial⟩ ?_
    refine q_goto (off := -15) (tgt := 2) (by decide) (by decide +kernel) ?_
    cases e
    exact k
def f_C_emptySlots (h : pH) : Option pH :=
  lp (fun s => f_C_emptySlots_L1 s.1 s.2) lpN (0, h)
set_option maxHeartbeats 4000000 in
theorem b_C_emptySlots {E : pE} {r : Option Value} {hr : pH} {h : pH}  {b : pH} (e : f_C_emptySlots h = some b) (k : (fun v : pH => r = none ∧ hr = v) b) : Go E M_C_emptySlots 0 [some (.ref 0), none] [] h r hr := by
  unfold f_C_emptySlots at e
  refine sl_ok ok_C_emptySlots [.iconst 0, .istore_n 1] (pc1 := 2) (ls1 := [some (.ref 0), some (.int 0)]) (st1 := []) (h1 := h) (P := True) (by decide +kernel) rfl trivial ?_
  exact lp_in e (fun s => Go E M_C_emptySlots 2 [some (.ref 0), some (.int s.1)] [] s.2 r hr) (fun v : pH => r = none ∧ hr = v) (fun _ _ e k => b_C_emptySlots_L1  e k) k
theorem s_C_emptySlots {E : pE} {h : pH}  {v : pH} (e : f_C_emptySlots h = some v) : Ct E M_C_emptySlots [.ref 0] h none v :=
  Ct_of ok_C_emptySlots [some (.ref 0), none] (Nat.le_of_ble_eq_true rfl) rfl (b_C_emptySlots  e ⟨rfl, rfl⟩)
def f_R_byteAt (x1 : Int32) (h : pH) : Option Int32 :=
  if (hI h 79 4) ≤ x1 then
    some 0
  else
    if x1 < 0 ∨ 2000 ≤ x1.toNatClampNeg then none else
    some ((hI h 81 x1.toNatClampNeg) &&& 255)
set_option maxHeartbeats 4000000 in
theorem b_R_byteAt {E : pE} {r : Option Value} {hr : pH} {x1 : Int32} {h : pH}  {b : Int32} (e : f_R_byteAt x1 h = some b) (k : (fun v : Int32 => r = some (.int v) ∧ hr = h) b) : Go E M_R_byteAt 0 [some (.ref 79), some (.int x1)] [] h r hr := by
  unfold f_R_byteAt at e
  refine sl_ok ok_R_byteAt [.iload_n 1, .aload_n 0, .getfield 100] (pc1 := 5) (ls1 := [some (.ref 79), some (.int x1)]) (st1 := [.int (hI h 79 4), .int x1]) (h1 := h) (P := (ak 79 = 0 ∧ cx 79 = 12) ∧ True) (by decide +kernel) rfl ⟨⟨rfl, rfl⟩, trivial⟩ ?_
  refine q_icmp_ge (off := 16) (tgt := 21) (by decide +kernel) (by decide) (fun c_1 => ?_) (fun c_1 => ?_)
  · have e := it_t c_1 e
    refine sl_ok ok_R_byteAt [.iconst 0] (pc1 := 22) (ls1 := [some (.ref 79), some (.int x1)]) (st1 := [.int 0]) (h1 := h) (P := True) (by decide +kernel) rfl trivial ?_
    cases e
    exact q_iret rfl k.1 k.2 (by decide +kernel)
  · have e := it_f c_1 e
    obtain ⟨g_2, e⟩ := it_g e
    refine sl_ok ok_R_byteAt [.aload_n 0, .getfield 17, .iload_n 1, .baload, .sipush 255, .iand] (pc1 := 18) (ls1 := [some (.ref 79), some (.int x1)]) (st1 := [.int ((hI h 81 x1.toNatClampNeg) &&& 255)]) (h1 := h) (P := (ak 79 = 0 ∧ cx 79 = 12) ∧ ((ak 81 = 2 ∨ ak 81 = 3) ∧ ¬ (x1 < 0 ∨ cx 81 ≤ x1.toNatClampNeg)) ∧ True) (by decide +kernel) rfl ⟨⟨rfl, rfl⟩, ⟨Or.inl rfl, g_2⟩, trivial⟩ ?_
    refine q_goto (off := 4) (tgt := 22) (by decide) (by decide +kernel) ?_
    cases e
    exact q_iret rfl k.1 k.2 (by decide +kernel)
theorem s_R_byteAt {E : pE} {x1 : Int32} {h : pH}  {v : Int32} (e : f_R_byteAt x1 h = some v) : Ct E M_R_byteAt [.ref 79, .int x1] h (some (.int v)) h :=
  Ct_of ok_R_byteAt [some (.ref 79), some (.int x1)] (Nat.le_of_ble_eq_true rfl) rfl (b_R_byteAt  e ⟨rfl, rfl⟩)
def f_R_token (x1 : Int32) (x2 : Int32) (x3 : Int32) (x4 : Int64) (h : pH) : Option pH :=
  if (hI h 79 10) < 0 ∨ 403 ≤ (hI h 79 10).toNatClampNeg then none else
  if (hI (sI h 82 (hI h 79 10).toNatClampNeg x1) 79 10) < 0 ∨ 403 ≤ (hI (sI h 82 (hI h 79 10).toNatClampNeg x1) 79 10).toNatClampNeg then none else
  if (hI (sI (sI h 82 (hI h 79 10).toNatClampNeg x1) 83 (hI (sI h 82 (hI h 79 10).toNatClampNeg x1) 79 10).toNatClampNeg x2) 79 10) < 0 ∨ 403 ≤ (hI (sI (sI h 82 (hI h 79 10).toNatClampNeg x1) 83 (hI (sI h 82 (hI h 79 10).toNatClampNeg x1) 79 10).toNatClampNeg x2) 79 10).toNatClampNeg then none else
  if (hI (sI (sI (sI h 82 (hI h 79 10).toNatClampNeg x1) 83 (hI (sI h 82 (hI h 79 10).toNatClampNeg x1) 79 10).toNatClampNeg x2) 84 (hI (sI (sI h 82 (hI h 79 10).toNatClampNeg x1) 83 (hI (sI h 82 (hI h 79 10).toNatClampNeg x1) 79 10).toNatClampNeg x2) 79 10).toNatClampNeg x3) 79 10) < 0 ∨ 403 ≤ (hI (sI (sI (sI h 82 (hI h 79 10).toNatClampNeg x1) 83 (hI (sI h 82 (hI h 79 10).toNatClampNeg x1) 79 10).toNatClampNeg x2) 84 (hI (sI (sI h 82 (hI h 79 10).toNatClampNeg x1) 83 (hI (sI h 82 (hI h 79 10).toNatClampNeg x1) 79 10).toNatClampNeg x2) 79 10).toNatClampNeg x3) 79 10).toNatClampNeg then none else
  some (sI (sL (sI (sI (sI h 82 (hI h 79 10).toNatClampNeg x1) 83 (hI (sI h 82 (hI h 79 10).toNatClampNeg x1) 79 10).toNatClampNeg x2) 84 (hI (sI (sI h 82 (hI h 79 10).toNatClampNeg x1) 83 (hI (sI h 82 (hI h 79 10).toNatClampNeg x1) 79 10).toNatClampNeg x2) 79 10).toNatClampNeg x3) 85 (hI (sI (sI (sI h 82 (hI h 79 10).toNatClampNeg x1) 83 (hI (sI h 82 (hI h 79 10).toNatClampNeg x1) 79 10).toNatClampNeg x2) 84 (hI (sI (sI h 82 (hI h 79 10).toNatClampNeg x1) 83 (hI (sI h 82 (hI h 79 10).toNatClampNeg x1) 79 10).toNatClampNeg x2) 79 10).toNatClampNeg x3) 79 10).toNatClampNeg x4) 79 10 ((hI (sL (sI (sI (sI h 82 (hI h 79 10).toNatClampNeg x1) 83 (hI (sI h 82 (hI h 79 10).toNatClampNeg x1) 79 10).toNatClampNeg x2) 84 (hI (sI (sI h 82 (hI h 79 10).toNatClampNeg x1) 83 (hI (sI h 82 (hI h 79 10).toNatClampNeg x1) 79 10).toNatClampNeg x2) 79 10).toNatClampNeg x3) 85 (hI (sI (sI (sI h 82 (hI h 79 10).toNatClampNeg x1) 83 (hI (sI h 82 (hI h 79 10).toNatClampNeg x1) 79 10).toNatClampNeg x2) 84 (hI (sI (sI h 82 (hI h 79 10).toNatClampNeg x1) 83 (hI (sI h 82 (hI h 79 10).toNatClampNeg x1) 79 10).toNatClampNeg x2) 79 10).toNatClampNeg x3) 79 10).toNatClampNeg x4) 79 10) + 1))
set_option maxHeartbeats 4000000 in
theorem b_R_token {E : pE} {r : Option Value} {hr : pH} {x1 : Int32} {x2 : Int32} {x3 : Int32} {x4 : Int64} {h : pH}  {b : pH} (e : f_R_token x1 x2 x3 x4 h = some b) (k : (fun v : pH => r = none ∧ hr = v) b) : Go E M_R_token 0 [some (.ref 79), some (.int x1), some (.int x2), some (.int x3), some (.long x4), none] [] h r hr := by
  unfold f_R_token at e
  obtain ⟨g_1, e⟩ := it_g e
  obtain ⟨g_2, e⟩ := it_g e
  obtain ⟨g_3, e⟩ := it_g e
  obtain ⟨g_4, e⟩ := it_g e
  refine sl_ok ok_R_token [.aload_n 0, .getfield 20, .aload_n 0, .getfield 109, .iload_n 1, .iastore, .aload_n 0, .getfield 24, .aload_n 0, .getfield 109, .iload_n 2, .iastore, .aload_n 0, .getfield 27, .aload_n 0, .getfield 109, .iload_n 3, .iastore, .aload_n 0, .getfield 30, .aload_n 0, .getfield 109, .lload 4, .lastore, .aload_n 0, .dup, .getfield 109, .iconst 1, .iadd, .putfield 109] (pc1 := 51) (ls1 := [some (.ref 79), some (.int x1), some (.int x2), some (.int x3), some (.long x4), none]) (st1 := []) (h1 := (sI (sL (sI (sI (sI h 82 (hI h 79 10).toNatClampNeg x1) 83 (hI (sI h 82 (hI h 79 10).toNatClampNeg x1) 79 10).toNatClampNeg x2) 84 (hI (sI (sI h 82 (hI h 79 10).toNatClampNeg x1) 83 (hI (sI h 82 (hI h 79 10).toNatClampNeg x1) 79 10).toNatClampNeg x2) 79 10).toNatClampNeg x3) 85 (hI (sI (sI (sI h 82 (hI h 79 10).toNatClampNeg x1) 83 (hI (sI h 82 (hI h 79 10).toNatClampNeg x1) 79 10).toNatClampNeg x2) 84 (hI (sI (sI h 82 (hI h 79 10).toNatClampNeg x1) 83 (hI (sI h 82 (hI h 79 10).toNatClampNeg x1) 79 10).toNatClampNeg x2) 79 10).toNatClampNeg x3) 79 10).toNatClampNeg x4) 79 10 ((hI (sL (sI (sI (sI h 82 (hI h 79 10).toNatClampNeg x1) 83 (hI (sI h 82 (hI h 79 10).toNatClampNeg x1) 79 10).toNatClampNeg x2) 84 (hI (sI (sI h 82 (hI h 79 10).toNatClampNeg x1) 83 (hI (sI h 82 (hI h 79 10).toNatClampNeg x1) 79 10).toNatClampNeg x2) 79 10).toNatClampNeg x3) 85 (hI (sI (sI (sI h 82 (hI h 79 10).toNatClampNeg x1) 83 (hI (sI h 82 (hI h 79 10).toNatClampNeg x1) 79 10).toNatClampNeg x2) 84 (hI (sI (sI h 82 (hI h 79 10).toNatClampNeg x1) 83 (hI (sI h 82 (hI h 79 10).toNatClampNeg x1) 79 10).toNatClampNeg x2) 79 10).toNatClampNeg x3) 79 10).toNatClampNeg x4) 79 10) + 1))) (P := (ak 79 = 0 ∧ cx 79 = 12) ∧ (ak 79 = 0 ∧ cx 79 = 12) ∧ (ak 82 = 1 ∧ ¬ ((hI h 79 10) < 0 ∨ cx 82 ≤ (hI h 79 10).toNatClampNeg)) ∧ (ak 79 = 0 ∧ cx 79 = 12) ∧ (ak 79 = 0 ∧ cx 79 = 12) ∧ (ak 83 = 1 ∧ ¬ ((hI (sI h 82 (hI h 79 10).toNatClampNeg x1) 79 10) < 0 ∨ cx 83 ≤ (hI (sI h 82 (hI h 79 10).toNatClampNeg x1) 79 10).toNatClampNeg)) ∧ (ak 79 = 0 ∧ cx 79 = 12) ∧ (ak 79 = 0 ∧ cx 79 = 12) ∧ (ak 84 = 1 ∧ ¬ ((hI (sI (sI h 82 (hI h 79 10).toNatClampNeg x1) 83 (hI (sI h 82 (hI h 79 10).toNatClampNeg x1) 79 10).toNatClampNeg x2) 79 10) < 0 ∨ cx 84 ≤ (hI (sI (sI h 82 (hI h 79 10).toNatClampNeg x1) 83 (hI (sI h 82 (hI h 79 10).toNatClampNeg x1) 79 10).toNatClampNeg x2) 79 10).toNatClampNeg)) ∧ (ak 79 = 0 ∧ cx 79 = 12) ∧ (ak 79 = 0 ∧ cx 79 = 12) ∧ (ak 85 = 4 ∧ ¬ ((hI (sI (sI (sI h 82 (hI h 79 10).toNatClampNeg x1) 83 (hI (sI h 82 (hI h 79 10).toNatClampNeg x1) 79 10).toNatClampNeg x2) 84 (hI (sI (sI h 82 (hI h 79 10).toNatClampNeg x1) 83 (hI (sI h 82 (hI h 79 10).toNatClampNeg x1) 79 10).toNatClampNeg x2) 79 10).toNatClampNeg x3) 79 10) < 0 ∨ cx 85 ≤ (hI (sI (sI (sI h 82 (hI h 79 10).toNatClampNeg x1) 83 (hI (sI h 82 (hI h 79 10).toNatClampNeg x1) 79 10).toNatClampNeg x2) 84 (hI (sI (sI h 82 (hI h 79 10).toNatClampNeg x1) 83 (hI (sI h 82 (hI h 79 10).toNatClampNeg x1) 79 10).toNatClampNeg x2) 79 10).toNatClampNeg x3) 79 10).toNatClampNeg)) ∧ (ak 79 = 0 ∧ cx 79 = 12) ∧ (ak 79 = 0 ∧ cx 79 = 12) ∧ True) (by decide +kernel) rfl ⟨⟨rfl, rfl⟩, ⟨rfl, rfl⟩, ⟨rfl, g_1⟩, ⟨rfl, rfl⟩, ⟨rfl, rfl⟩, ⟨rfl, g_2⟩, ⟨rfl, rfl⟩, ⟨rfl, rfl⟩, ⟨rfl, g_3⟩, ⟨rfl, rfl⟩, ⟨rfl, rfl⟩, ⟨rfl, g_4⟩, ⟨rfl, rfl⟩, ⟨rfl, rfl⟩, trivial⟩ ?_
  cases e
  exact q_vret rfl k.1 k.2 (by decide +kernel)
theorem s_R_token {E : pE} {x1 : Int32} {x2 : Int32} {x3 : Int32} {x4 : Int64} {h : pH}  {v : pH} (e : f_R_token x1 x2 x3 x4 h = some v) : Ct E M_R_token [.ref 79, .int x1, .int x2, .int x3, .long x4] h none v :=
  Ct_of ok_R_token [some (.ref 79), some (.int x1), some (.int x2), some (.int x3), some (.long x4), none] (Nat.le_of_ble_eq_true rfl) rfl (b_R_token  e ⟨rfl, rfl⟩)
def f_R_isLetter (x0 : Int32) : Int32 :=
  if x0 < 97 then
    0
  else
    if 122 < x0 then
      0
    else
      1
set_option maxHeartbeats 4000000 in
theorem b_R_isLetter {E : pE} {r : Option Value} {hr : pH} {x0 : Int32} {h : pH}  {b : Int32} (e : f_R_isLetter x0 = b) (k : (fun v : Int32 => r = some (.int v) ∧ hr = h) b) : Go E M_R_isLetter 0 [some (.int x0)] [] h r hr := by
  unfold f_R_isLetter at e
  refine sl_ok ok_R_isLetter [.iload_n 0, .bipush 97] (pc1 := 3) (ls1 := [some (.int x0)]) (st1 := [.int 97, .int x0]) (h1 := h) (P := True) (by decide +kernel) rfl trivial ?_
  refine q_icmp_lt (off := 13) (tgt := 16) (by decide +kernel) (by decide) (fun c_1 => ?_) (fun c_1 => ?_)
  · have e := it_t c_1 e
    refine sl_ok ok_R_isLetter [.iconst 0] (pc1 := 17) (ls1 := [some (.int x0)]) (st1 := [.int 0]) (h1 := h) (P := True) (by decide +kernel) rfl trivial ?_
    cases e
    exact q_zret rfl (Or.inl rfl) k.1 k.2 (by decide +kernel)
  · have e := it_f c_1 e
    refine sl_ok ok_R_isLetter [.iload_n 0, .bipush 122] (pc1 := 9) (ls1 := [some (.int x0)]) (st1 := [.int 122, .int x0]) (h1 := h) (P := True) (by decide +kernel) rfl trivial ?_
    refine q_icmp_gt (off := 7) (tgt := 16) (by decide +kernel) (by decide) (fun c_2 => ?_) (fun c_2 => ?_)
    · have e := it_t c_2 e
      refine sl_ok ok_R_isLetter [.iconst 0] (pc1 := 17) (ls1 := [some (.int x0)]) (st1 := [.int 0]) (h1 := h) (P := True) (by decide +kernel) rfl trivial ?_
      cases e
      exact q_zret rfl (Or.inl rfl) k.1 k.2 (by decide +kernel)
    · have e := it_f c_2 e
      refine sl_ok ok_R_isLetter [.iconst 1] (pc1 := 13) (ls1 := [some (.int x0)]) (st1 := [.int 1]) (h1 := h) (P := True) (by decide +kernel) rfl trivial ?_
      refine q_goto (off := 4) (tgt := 17) (by decide) (by decide +kernel) ?_
      cases e
      exact q_zret rfl (Or.inr rfl) k.1 k.2 (by decide +kernel)
theorem s_R_isLetter {E : pE} {x0 : Int32} {h : pH}  : Ct E M_R_isLetter [.int x0] h (some (.int (f_R_isLetter x0))) h :=
  Ct_of ok_R_isLetter [some (.int x0)] (Nat.le_of_ble_eq_true rfl) rfl (b_R_isLetter  rfl ⟨rfl, rfl⟩)
def f_R_appends (x0 : Int64) (x2 : Int32) : Int64 :=
  if x2 = 0 then
    x0
  else
    ((27 * x0) + (Int32.toInt64 ((x2 - 97) + 1)))
set_option maxHeartbeats 4000000 in
theorem b_R_appends {E : pE} {r : Option Value} {hr : pH} {x0 : Int64} {x2 : Int32} {h : pH}  {b : Int64} (e : f_R_appends x0 x2 = b) (k : (fun v : Int64 => r = some (.long v) ∧ hr = h) b) : Go E M_R_appends 0 [some (.long x0), none, some (.int x2)] [] h r hr := by
  unfold f_R_appends at e
  refine sl_ok ok_R_appends [.iload_n 2] (pc1 := 1) (ls1 := [some (.long x0), none, some (.int x2)]) (st1 := [.int x2]) (h1 := h) (P := True) (by decide +kernel) rfl trivial ?_
  refine q_if_ne (off := 7) (tgt := 8) (by decide +kernel) (by decide) (fun c_1 => ?_) (fun c_1 => ?_)
  · have e := it_f c_1 e
    refine q_ldc2 wd_93 (by decide +kernel) ?_
    refine sl_ok ok_R_appends [.lload_n 0, .lmul, .iload_n 2, .bipush 97, .isub, .iconst 1, .iadd, .i2l, .ladd] (pc1 := 21) (ls1 := [some (.long x0), none, some (.int x2)]) (st1 := [.long ((27 * x0) + (Int32.toInt64 ((x2 - 97) + 1)))]) (h1 := h) (P := True) (by decide +kernel) rfl trivial ?_
    cases e
    exact q_lret rfl k.1 k.2 (by decide +kernel)
  · have e := it_t c_1 e
    refine sl_ok ok_R_appends [.lload_n 0] (pc1 := 5) (ls1 := [some (.long x0), none, some (.int x2)]) (st1 := [.long x0]) (h1 := h) (P := True) (by decide +kernel) rfl trivial ?_
    refine q_goto (off := 16) (tgt := 21) (by decide) (by decide +kernel) ?_
    cases e
    exact q_lret rfl k.1 k.2 (by decide +kernel)
theorem s_R_appends {E : pE} {x0 : Int64} {x2 : Int32} {h : pH}  : Ct E M_R_appends [.long x0, .int x2] h (some (.long (f_R_appends x0 x2))) h :=
  Ct_of ok_R_appends [some (.long x0), none, some (.int x2)] (Nat.le_of_ble_eq_true rfl) rfl (b_R_appends  rfl ⟨rfl, rfl⟩)
def f_R_isDigit (x0 : Int32) : Int32 :=
  if x0 < 48 then
    0
  else
    if 57 < x0 then
      0
    else
      1
set_option maxHeartbeats 4000000 in
theorem b_R_isDigit {E : pE} {r : Option Value} {hr : pH} {x0 : Int32} {h : pH}  {b : Int32} (e : f_R_isDigit x0 = b) (k : (fun v : Int32 => r = some (.int v) ∧ hr = h) b) : Go E M_R_isDigit 0 [some (.int x0)] [] h r hr := by
  unfold f_R_isDigit at e
  refine sl_ok ok_R_isDigit [.iload_n 0, .bipush 48] (pc1 := 3) (ls1 := [some (.int x0)]) (st1 := [.int 48, .int x0]) (h1 := h) (P := True) (by decide +kernel) rfl trivial ?_
  refine q_icmp_lt (off := 13) (tgt := 16) (by decide +kernel) (by decide) (fun c_1 => ?_) (fun c_1 => ?_)
  · have e := it_t c_1 e
    refine sl_ok ok_R_isDigit [.iconst 0] (pc1 := 17) (ls1 := [some (.int x0)]) (st1 := [.int 0]) (h1 := h) (P := True) (by decide +kernel) rfl trivial ?_
    cases e
    exact q_zret rfl (Or.inl rfl) k.1 k.2 (by decide +kernel)
  · have e := it_f c_1 e
    refine sl_ok ok_R_isDigit [.iload_n 0, .bipush 57] (pc1 := 9) (ls1 := [some (.int x0)]) (st1 := [.int 57, .int x0]) (h1 := h) (P := True) (by decide +kernel) rfl trivial ?_
    refine q_icmp_gt (off := 7) (tgt := 16) (by decide +kernel) (by decide) (fun c_2 => ?_) (fun c_2 => ?_)
    · have e := it_t c_2 e
      refine sl_ok ok_R_isDigit [.iconst 0] (pc1 := 17) (ls1 := [some (.int x0)]) (st1 := [.int 0]) (h1 := h) (P := True) (by decide +kernel) rfl trivial ?_
      cases e
      exact q_zret rfl (Or.inl rfl) k.1 k.2 (by decide +kernel)
    · have e := it_f c_2 e
      refine sl_ok ok_R_isDigit [.iconst 1] (pc1 := 13) (ls1 := [some (.int x0)]) (st1 := [.int 1]) (h1 := h) (P := True) (by decide +kernel) rfl trivial ?_
      refine q_goto (off := 4) (tgt := 17) (by decide) (by decide +kernel) ?_
      cases e
      exact q_zret rfl (Or.inr rfl) k.1 k.2 (by decide +kernel)
theorem s_R_isDigit {E : pE} {x0 : Int32} {h : pH}  : Ct E M_R_isDigit [.int x0] h (some (.int (f_R_isDigit x0))) h :=
  Ct_of ok_R_isDigit [some (.int x0)] (Nat.le_of_ble_eq_true rfl) rfl (b_R_isDigit  rfl ⟨rfl, rfl⟩)
def f_R_sign (x1 : Int32) (x2 : Int32) (h : pH) : Option (Int32 × pH) :=
  if x2 = 59 then
    (f_R_token (4 : Int32) x1 (0 : Int32) 0 h).bind fun v_7 =>
    some (1, v_7)
  else
    if x2 = 45 then
      (f_R_token (5 : Int32) x1 (0 : Int32) 0 h).bind fun v_5 =>
      some (1, v_5)
    else
      (f_R_token (3 : Int32) x1 (0 : Int32) 0 h).bind fun v_3 =>
      some (1, v_3)
set_option maxHeartbeats 4000000 in
theorem b_R_sign {E : pE} {r : Option Value} {hr : pH} {x1 : Int32} {x2 : Int32} {h : pH}  {b : (Int32 × pH)} (e : f_R_sign x1 x2 h = some b) (k : (fun v : (Int32 × pH) => r = some (.int v.1) ∧ hr = v.2) b) : Go E M_R_sign 0 [some (.ref 79), some (.int x1), some (.int x2)] [] h r hr := by
  unfold f_R_sign at e
  refine sl_ok ok_R_sign [.aload_n 0, .iload_n 2, .bipush 59] (pc1 := 4) (ls1 := [some (.ref 79), some (.int x1), some (.int x2)]) (st1 := [.int 59, .int x2, .ref 79]) (h1 := h) (P := True) (by decide +kernel) rfl trivial ?_
  refine q_icmp_ne (off := 7) (tgt := 11) (by decide +kernel) (by decide) (fun c_1 => ?_) (fun c_1 => ?_)
  · have e := it_f c_1 e
    refine sl_ok ok_R_sign [.iload_n 2, .bipush 45] (pc1 := 14) (ls1 := [some (.ref 79), some (.int x1), some (.int x2)]) (st1 := [.int 45, .int x2, .ref 79]) (h1 := h) (P := True) (by decide +kernel) rfl trivial ?_
    refine q_icmp_ne (off := 7) (tgt := 21) (by decide +kernel) (by decide) (fun c_2 => ?_) (fun c_2 => ?_)
    · have e := it_f c_2 e
      refine sl_ok ok_R_sign [.iconst 3, .iload_n 1, .iconst 0, .lconst 0] (pc1 := 25) (ls1 := [some (.ref 79), some (.int x1), some (.int x2)]) (st1 := [.long 0, .int 0, .int x1, .int 3, .ref 79]) (h1 := h) (P := True) (by decide +kernel) rfl trivial ?_
      obtain ⟨v_3, e_4, e⟩ := bi_s e
      refine q_callV ok_R_token (as := [.int 3, .int x1, .int 0, .long 0]) (st := []) ⟨wd_94, wd_95, wd_96, wd_7, ds_R_token, Nat.le_of_ble_eq_true rfl, Nat.le_of_ble_eq_true rfl⟩ (s_R_token  e_4) rfl ⟨rfl, rfl⟩ (ci := 12) rfl (fun v hv => by cases hv) (Nat.le_of_ble_eq_true rfl) (by decide +kernel) rfl ?_
      refine sl_ok ok_R_sign [.iconst 1] (pc1 := 29) (ls1 := [some (.ref 79), some (.int x1), some (.int x2)]) (st1 := [.int 1]) (h1 := v_3) (P := True) (by decide +kernel) rfl trivial ?_
      cases e
      exact q_iret rfl k.1 k.2 (by decide +kernel)
    · have e := it_t c_2 e
      refine sl_ok ok_R_sign [.iconst 5] (pc1 := 18) (ls1 := [some (.ref 79), some (.int x1), some (.int x2)]) (st1 := [.int 5, .ref 79]) (h1 := h) (P := True) (by decide +kernel) rfl trivial ?_
      refine q_goto (off := 4) (tgt := 22) (by decide) (by decide +kernel) ?_
      refine sl_ok ok_R_sign [.iload_n 1, .iconst 0, .lconst 0] (pc1 := 25) (ls1 := [some (.ref 79), some (.int x1), some (.int x2)]) (st1 := [.long 0, .int 0, .int x1, .int 5, .ref 79]) (h1 := h) (P := True) (by decide +kernel) rfl trivial ?_
      obtain ⟨v_5, e_6, e⟩ := bi_s e
      refine q_callV ok_R_token (as := [.int 5, .int x1, .int 0, .long 0]) (st := []) ⟨wd_94, wd_95, wd_96, wd_7, ds_R_token, Nat.le_of_ble_eq_true rfl, Nat.le_of_ble_eq_true rfl⟩ (s_R_token  e_6) rfl ⟨rfl, rfl⟩ (ci := 12) rfl (fun v hv => by cases hv) (Nat.le_of_ble_eq_true rfl) (by decide +kernel) rfl ?_
      refine sl_ok ok_R_sign [.iconst 1] (pc1 := 29) (ls1 := [some (.ref 79), some (.int x1), some (.int x2)]) (st1 := [.int 1]) (h1 := v_5) (P := True) (by decide +kernel) rfl trivial ?_
      cases e
      exact q_iret rfl k.1 k.2 (by decide +kernel)
  · have e := it_t c_1 e
    refine sl_ok ok_R_sign [.iconst 4] (pc1 := 8) (ls1 := [some (.ref 79), some (.int x1), some (.int x2)]) (st1 := [.int 4, .ref 79]) (h1 := h) (P := True) (by decide +kernel) rfl trivial ?_
    refine q_goto (off := 14) (tgt := 22) (by decide) (by decide +kernel) ?_
    refine sl_ok ok_R_sign [.iload_n 1, .iconst 0, .lconst 0] (pc1 := 25) (ls1 := [some (.ref 79), some (.int x1), some (.int x2)]) (st1 := [.long 0, .int 0, .int x1, .int 4, .ref 79]) (h1 := h) (P := True) (by decide +kernel) rfl trivial ?_
    obtain ⟨v_7, e_8, e⟩ := bi_s e
    refine q_callV ok_R_token (as := [.int 4, .int x1, .int 0, .long 0]) (st := []) ⟨wd_94, wd_95, wd_96, wd_7, ds_R_token, Nat.le_of_ble_eq_true rfl, Nat.le_of_ble_eq_true rfl⟩ (s_R_token  e_8) rfl ⟨rfl, rfl⟩ (ci := 12) rfl (fun v hv => by cases hv) (Nat.le_of_ble_eq_true rfl) (by decide +kernel) rfl ?_
    refine sl_ok ok_R_sign [.iconst 1] (pc1 := 29) (ls1 := [some (.ref 79), some (.int x1), some (.int x2)]) (st1 := [.int 1]) (h1 := v_7) (P := True) (by decide +kernel) rfl trivial ?_
    cases e
    exact q_iret rfl k.1 k.2 (by decide +kernel)
theorem s_R_sign {E : pE} {x1 : Int32} {x2 : Int32} {h : pH}  {v : (Int32 × pH)} (e : f_R_sign x1 x2 h = some v) : Ct E M_R_sign [.ref 79, .int x1, .int x2] h (some (.int v.1)) v.2 :=
  Ct_of ok_R_sign [some (.ref 79), some (.int x1), some (.int x2)] (Nat.le_of_ble_eq_true rfl) rfl (b_R_sign  e ⟨rfl, rfl⟩)
def f_R_cutsText_J5 (x1 : Int32) (x3 : Int32) (x4 : Int64) (x6 : Int32) (h : pH) : Option ((Int32 × pH) ⊕ pH) :=
  (f_R_token x6 x1 (0 : Int32) x4 h).bind fun v_1 =>
  some (.inl ((x1 + x3), v_1))
set_option maxHeartbeats 4000000 in
theorem b_R_cutsText_J5 {E : pE} {r : Option Value} {hr : pH} {x1 : Int32} {x3 : Int32} {x4 : Int64} {x6 : Int32} {h : pH}  {b : ((Int32 × pH) ⊕ pH)} (e : f_R_cutsText_J5 x1 x3 x4 x6 h = some b) (k : (Sum.elim (fun s : (Int32 × pH) => Go E M_R_cutsText 7 [some (.ref 79), some (.int s.1), none, none, none, none, none, none] [] s.2 r hr) (fun v : pH => r = none ∧ hr = v)) b) : Go E M_R_cutsText 178 [some (.ref 79), some (.int x1), none, some (.int x3), some (.long x4), none, some (.int x6), none] [] h r hr := by
  unfold f_R_cutsText_J5 at e
  refine sl_ok ok_R_cutsText [.aload_n 0, .iload 6, .iload_n 1, .iconst 0, .lload 4] (pc1 := 185) (ls1 := [some (.ref 79), some (.int x1), none, some (.int x3), some (.long x4), none, some (.int x6), none]) (st1 := [.long x4, .int 0, .int x1, .int x6, .ref 79]) (h1 := h) (P := True) (by decide +kernel) rfl trivial ?_
  obtain ⟨v_1, e_2, e⟩ := bi_s e
  refine q_callV ok_R_token (as := [.int x6, .int x1, .int 0, .long x4]) (st := []) ⟨wd_94, wd_95, wd_96, wd_7, ds_R_token, Nat.le_of_ble_eq_true rfl, Nat.le_of_ble_eq_true rfl⟩ (s_R_token  e_2) rfl ⟨rfl, rfl⟩ (ci := 12) rfl (fun v hv => by cases hv) (Nat.le_of_ble_eq_true rfl) (by decide +kernel) rfl ?_
  refine sl_ok ok_R_cutsText [.iload_n 1, .iload_n 3, .iadd, .istore_n 1] (pc1 := 192) (ls1 := [some (.ref 79), some (.int (x1 + x3)), none, some (.int x3), some (.long x4), none, some (.int x6), none]) (st1 := []) (h1 := v_1) (P := True) (by decide +kernel) rfl trivial ?_
  refine q_goto (off := 91) (tgt := 283) (by decide) (by decide +kernel) ?_
  refine q_goto (off := -276) (tgt := 7) (by decide) (by decide +kernel) ?_
  cases e
  refine Go.sb [some (.ref 79), some (.int (x1 + x3)), none, none, none, none, none, none] (And.intro rfl (And.intro rfl trivial)) ?_
  exact k
def f_R_cutsText_L4 (x1 : Int32) (x3 : Int32) (x4 : Int64) (h : pH) (x6 : Int32) (x7 : Int32) : Option ((Int32 × Int32) ⊕ ((Int32 × pH) ⊕ pH)) :=
  if 2 ≤ x7 then
    mi (f_R_cutsText_J5 x1 x3 x4 x6 h)
  else
    if x7 < 0 ∨ 2 ≤ x7.toNatClampNeg then none else
    if (lg_cmp (hL h 86 x7.toNatClampNeg) x4) = 0 then
      some (.inl ((20 + x7), (x7 + 1)))
    else
      some (.inl (x6, (x7 + 1)))
set_option maxHeartbeats 4000000 in
theorem b_R_cutsText_L4 {E : pE} {r : Option Value} {hr : pH} {x1 : Int32} {x3 : Int32} {x4 : Int64} {h : pH} {x6 : Int32} {x7 : Int32}  {b : ((Int32 × Int32) ⊕ ((Int32 × pH) ⊕ pH))} (e : f_R_cutsText_L4 x1 x3 x4 h x6 x7 = some b) (k : (Sum.elim (fun s : (Int32 × Int32) => Go E M_R_cutsText 146 [some (.ref 79), some (.int x1), none, some (.int x3), some (.long x4), none, some (.int s.1), some (.int s.2)] [] h r hr) (Sum.elim (fun s : (Int32 × pH) => Go E M_R_cutsText 7 [some (.ref 79), some (.int s.1), none, none, none, none, none, none] [] s.2 r hr) (fun v : pH => r = none ∧ hr = v))) b) : Go E M_R_cutsText 146 [some (.ref 79), some (.int x1), none, some (.int x3), some (.long x4), none, some (.int x6), some (.int x7)] [] h r hr := by
  unfold f_R_cutsText_L4 at e
  refine sl_ok ok_R_cutsText [.iload 7, .iconst 2] (pc1 := 149) (ls1 := [some (.ref 79), some (.int x1), none, some (.int x3), some (.long x4), none, some (.int x6), some (.int x7)]) (st1 := [.int 2, .int x7]) (h1 := h) (P := True) (by decide +kernel) rfl trivial ?_
  refine q_icmp_ge (off := 29) (tgt := 178) (by decide +kernel) (by decide) (fun c_1 => ?_) (fun c_1 => ?_)
  · have e := it_t c_1 e
    refine Go.sb [some (.ref 79), some (.int x1), none, some (.int x3), some (.long x4), none, some (.int x6), none] (And.intro rfl (And.intro rfl (And.intro rfl (And.intro rfl (And.intro rfl trivial))))) ?_
    obtain ⟨_, e9, rfl⟩ := mi_s e
    have e := e9
    exact b_R_cutsText_J5  e k
  · have e := it_f c_1 e
    obtain ⟨g_2, e⟩ := it_g e
    refine sl_ok ok_R_cutsText [.aload_n 0, .getfield 34, .iload 7, .laload, .lload 4, .lcmp] (pc1 := 162) (ls1 := [some (.ref 79), some (.int x1), none, some (.int x3), some (.long x4), none, some (.int x6), some (.int x7)]) (st1 := [.int (lg_cmp (hL h 86 x7.toNatClampNeg) x4)]) (h1 := h) (P := (ak 79 = 0 ∧ cx 79 = 12) ∧ (ak 86 = 4 ∧ ¬ (x7 < 0 ∨ cx 86 ≤ x7.toNatClampNeg)) ∧ True) (by decide +kernel) rfl ⟨⟨rfl, rfl⟩, ⟨rfl, g_2⟩, trivial⟩ ?_
    refine q_if_ne (off := 10) (tgt := 172) (by decide +kernel) (by decide) (fun c_3 => ?_) (fun c_3 => ?_)
    · have e := it_f c_3 e
      refine sl_ok ok_R_cutsText [.iinc 7 1] (pc1 := 175) (ls1 := [some (.ref 79), some (.int x1), none, some (.int x3), some (.long x4), none, some (.int x6), some (.int (x7 + 1))]) (st1 := []) (h1 := h) (P := True) (by decide +kernel) rfl trivial ?_
      refine q_goto (off := -29) (tgt := 146) (by decide) (by decide +kernel) ?_
      cases e
      exact k
    · have e := it_t c_3 e
      refine sl_ok ok_R_cutsText [.bipush 20, .iload 7, .iadd, .istore 6, .iinc 7 1] (pc1 := 175) (ls1 := [some (.ref 79), some (.int x1), none, some (.int x3), some (.long x4), none, some (.int (20 + x7)), some (.int (x7 + 1))]) (st1 := []) (h1 := h) (P := True) (by decide +kernel) rfl trivial ?_
      refine q_goto (off := -29) (tgt := 146) (by decide) (by decide +kernel) ?_
      cases e
      exact k
def f_R_cutsText_J3 (x1 : Int32) (x3 : Int32) (x4 : Int64) (t0 : Int32) (h : pH) : Option ((Int32 × pH) ⊕ pH) :=
  if 8 < x3 then
    f_R_cutsText_J5 x1 x3 x4 t0 h
  else
    lp (fun s => f_R_cutsText_L4 x1 x3 x4 h s.1 s.2) lpN (t0, 0)
set_option maxHeartbeats 4000000 in
theorem b_R_cutsText_J3 {E : pE} {r : Option Value} {hr : pH} {x1 : Int32} {x3 : Int32} {x4 : Int64} {t0 : Int32} {h : pH}  {b : ((Int32 × pH) ⊕ pH)} (e : f_R_cutsText_J3 x1 x3 x4 t0 h = some b) (k : (Sum.elim (fun s : (Int32 × pH) => Go E M_R_cutsText 7 [some (.ref 79), some (.int s.1), none, none, none, none, none, none] [] s.2 r hr) (fun v : pH => r = none ∧ hr = v)) b) : Go E M_R_cutsText 135 [some (.ref 79), some (.int x1), none, some (.int x3), some (.long x4), none, none, none] [.int t0] h r hr := by
  unfold f_R_cutsText_J3 at e
  refine sl_ok ok_R_cutsText [.istore 6, .iload_n 3, .bipush 8] (pc1 := 140) (ls1 := [some (.ref 79), some (.int x1), none, some (.int x3), some (.long x4), none, some (.int t0), none]) (st1 := [.int 8, .int x3]) (h1 := h) (P := True) (by decide +kernel) rfl trivial ?_
  refine q_icmp_gt (off := 38) (tgt := 178) (by decide +kernel) (by decide) (fun c_1 => ?_) (fun c_1 => ?_)
  · have e := it_t c_1 e
    exact b_R_cutsText_J5  e k
  · have e := it_f c_1 e
    refine sl_ok ok_R_cutsText [.iconst 0, .istore 7] (pc1 := 146) (ls1 := [some (.ref 79), some (.int x1), none, some (.int x3), some (.long x4), none, some (.int t0), some (.int 0)]) (st1 := []) (h1 := h) (P := True) (by decide +kernel) rfl trivial ?_
    exact lp_in e (fun s => Go E M_R_cutsText 146 [some (.ref 79), some (.int x1), none, some (.int x3), some (.long x4), none, some (.int s.1), some (.int s.2)] [] h r hr) (Sum.elim (fun s : (Int32 × pH) => Go E M_R_cutsText 7 [some (.ref 79), some (.int s.1), none, none, none, none, none, none] [] s.2 r hr) (fun v : pH => r = none ∧ hr = v)) (fun _ _ e k => b_R_cutsText_L4  e k) k
def f_R_cutsText_L2 (x1 : Int32) (h : pH) (x3 : Int32) (x4 : Int64) : Option ((Int32 × Int64) ⊕ ((Int32 × pH) ⊕ pH)) :=
  (f_R_byteAt (x1 + x3) h).bind fun v_1 =>
  if (f_R_isLetter v_1) = 0 then
    if x3 ≤ 8 then
      mi (f_R_cutsText_J3 x1 x3 x4 1 h)
    else
      mi (f_R_cutsText_J3 x1 x3 x4 3 h)
  else
    if 8 ≤ x3 then
      some (.inl ((x3 + 1), x4))
    else
      (f_R_byteAt (x1 + x3) h).bind fun v_6 =>
      some (.inl ((x3 + 1), (f_R_appends x4 v_6)))
set_option maxHeartbeats 4000000 in
theorem b_R_cutsText_L2 {E : pE} {r : Option Value} {hr : pH} {x1 : Int32} {h : pH} {x3 : Int32} {x4 : Int64}  {b : ((Int32 × Int64) ⊕ ((Int32 × pH) ⊕ pH))} (e : f_R_cutsText_L2 x1 h x3 x4 = some b) (k : (Sum.elim (fun s : (Int32 × Int64) => Go E M_R_cutsText 85 [some (.ref 79), some (.int x1), none, some (.int s.1), some (.long s.2), none, none, none] [] h r hr) (Sum.elim (fun s : (Int32 × pH) => Go E M_R_cutsText 7 [some (.ref 79), some (.int s.1), none, none, none, none, none, none] [] s.2 r hr) (fun v : pH => r = none ∧ hr = v))) b) : Go E M_R_cutsText 85 [some (.ref 79), some (.int x1), none, some (.int x3), some (.long x4), none, none, none] [] h r hr := by
  unfold f_R_cutsText_L2 at e
  refine sl_ok ok_R_cutsText [.aload_n 0, .iload_n 1, .iload_n 3, .iadd] (pc1 := 89) (ls1 := [some (.ref 79), some (.int x1), none, some (.int x3), some (.long x4), none, none, none]) (st1 := [.int (x1 + x3), .ref 79]) (h1 := h) (P := True) (by decide +kernel) rfl trivial ?_
  obtain ⟨v_1, e_2, e⟩ := bi_s e
  refine q_callV ok_R_byteAt (as := [.int (x1 + x3)]) (st := []) ⟨wd_97, wd_98, wd_99, wd_7, ds_R_byteAt, Nat.le_of_ble_eq_true rfl, Nat.le_of_ble_eq_true rfl⟩ (s_R_byteAt  e_2) rfl ⟨rfl, rfl⟩ (ci := 12) rfl (fun v hv => by cases hv; rfl) (Nat.le_of_ble_eq_true rfl) (by decide +kernel) rfl ?_
  refine q_callS ok_R_isLetter (as := [.int v_1]) (st := []) ⟨wd_100, wd_101, wd_7, ds_R_isLetter, Nat.le_of_ble_eq_true rfl, Nat.le_of_ble_eq_true rfl⟩ (s_R_isLetter ) rfl (fun v hv => by cases hv; rfl) (Nat.le_of_ble_eq_true rfl) (by decide +kernel) rfl ?_
  refine q_if_eq (off := 29) (tgt := 124) (by decide +kernel) (by decide) (fun c_3 => ?_) (fun c_3 => ?_)
  · have e := it_t c_3 e
    refine sl_ok ok_R_cutsText [.iload_n 3, .bipush 8] (pc1 := 127) (ls1 := [some (.ref 79), some (.int x1), none, some (.int x3), some (.long x4), none, none, none]) (st1 := [.int 8, .int x3]) (h1 := h) (P := True) (by decide +kernel) rfl trivial ?_
    refine q_icmp_le (off := 7) (tgt := 134) (by decide +kernel) (by decide) (fun c_4 => ?_) (fun c_4 => ?_)
    · have e := it_t c_4 e
      refine sl_ok ok_R_cutsText [.iconst 1] (pc1 := 135) (ls1 := [some (.ref 79), some (.int x1), none, some (.int x3), some (.long x4), none, none, none]) (st1 := [.int 1]) (h1 := h) (P := True) (by decide +kernel) rfl trivial ?_
      obtain ⟨_, e9, rfl⟩ := mi_s e
      have e := e9
      exact b_R_cutsText_J3  e k
    · have e := it_f c_4 e
      refine sl_ok ok_R_cutsText [.iconst 3] (pc1 := 131) (ls1 := [some (.ref 79), some (.int x1), none, some (.int x3), some (.long x4), none, none, none]) (st1 := [.int 3]) (h1 := h) (P := True) (by decide +kernel) rfl trivial ?_
      refine q_goto (off := 4) (tgt := 135) (by decide) (by decide +kernel) ?_
      obtain ⟨_, e9, rfl⟩ := mi_s e
      have e := e9
      exact b_R_cutsText_J3  e k
  · have e := it_f c_3 e
    refine sl_ok ok_R_cutsText [.iload_n 3, .bipush 8] (pc1 := 101) (ls1 := [some (.ref 79), some (.int x1), none, some (.int x3), some (.long x4), none, none, none]) (st1 := [.int 8, .int x3]) (h1 := h) (P := True) (by decide +kernel) rfl trivial ?_
    refine q_icmp_ge (off := 17) (tgt := 118) (by decide +kernel) (by decide) (fun c_5 => ?_) (fun c_5 => ?_)
    · have e := it_t c_5 e
      refine sl_ok ok_R_cutsText [.iinc 3 1] (pc1 := 121) (ls1 := [some (.ref 79), some (.int x1), none, some (.int (x3 + 1)), some (.long x4), none, none, none]) (st1 := []) (h1 := h) (P := True) (by decide +kernel) rfl trivial ?_
      refine q_goto (off := -36) (tgt := 85) (by decide) (by decide +kernel) ?_
      cases e
      exact k
    · have e := it_f c_5 e
      refine sl_ok ok_R_cutsText [.lload 4, .aload_n 0, .iload_n 1, .iload_n 3, .iadd] (pc1 := 110) (ls1 := [some (.ref 79), some (.int x1), none, some (.int x3), some (.long x4), none, none, none]) (st1 := [.int (x1 + x3), .ref 79, .long x4]) (h1 := h) (P := True) (by decide +kernel) rfl trivial ?_
      obtain ⟨v_6, e_7, e⟩ := bi_s e
      refine q_callV ok_R_byteAt (as := [.int (x1 + x3)]) (st := [.long x4]) ⟨wd_97, wd_98, wd_99, wd_7, ds_R_byteAt, Nat.le_of_ble_eq_true rfl, Nat.le_of_ble_eq_true rfl⟩ (s_R_byteAt  e_7) rfl ⟨rfl, rfl⟩ (ci := 12) rfl (fun v hv => by cases hv; rfl) (Nat.le_of_ble_eq_true rfl) (by decide +kernel) rfl ?_
      refine q_callS ok_R_appends (as := [.long x4, .int v_6]) (st := []) ⟨wd_107, wd_108, wd_7, ds_R_appends, Nat.le_of_ble_eq_true rfl, Nat.le_of_ble_eq_true rfl⟩ (s_R_appends ) rfl (fun v hv => by cases hv; rfl) (Nat.le_of_ble_eq_true rfl) (by decide +kernel) rfl ?_
      refine sl_ok ok_R_cutsText [.lstore 4, .iinc 3 1] (pc1 := 121) (ls1 := [some (.ref 79), some (.int x1), none, some (.int (x3 + 1)), some (.long (f_R_appends x4 v_6)), none, none, none]) (st1 := []) (h1 := h) (P := True) (by decide +kernel) rfl trivial ?_
      refine q_goto (off := -36) (tgt := 85) (by decide) (by decide +kernel) ?_
      cases e
      exact k
def f_R_cutsText_J7 (x1 : Int32) (x3 : Int32) (x4 : Int32) (t0 : Int32) (h : pH) : Option ((Int32 × pH) ⊕ pH) :=
  (f_R_token t0 x1 x4 0 h).bind fun v_1 =>
  some (.inl ((x1 + x3), v_1))
set_option maxHeartbeats 4000000 in
theorem b_R_cutsText_J7 {E : pE} {r : Option Value} {hr : pH} {x1 : Int32} {x3 : Int32} {x4 : Int32} {t0 : Int32} {h : pH}  {b : ((Int32 × pH) ⊕ pH)} (e : f_R_cutsText_J7 x1 x3 x4 t0 h = some b) (k : (Sum.elim (fun s : (Int32 × pH) => Go E M_R_cutsText 7 [some (.ref 79), some (.int s.1), none, none, none, none, none, none] [] s.2 r hr) (fun v : pH => r = none ∧ hr = v)) b) : Go E M_R_cutsText 260 [some (.ref 79), some (.int x1), none, some (.int x3), some (.int x4), none, none, none] [.int t0, .ref 79] h r hr := by
  unfold f_R_cutsText_J7 at e
  refine sl_ok ok_R_cutsText [.iload_n 1, .iload 4, .lconst 0] (pc1 := 264) (ls1 := [some (.ref 79), some (.int x1), none, some (.int x3), some (.int x4), none, none, none]) (st1 := [.long 0, .int x4, .int x1, .int t0, .ref 79]) (h1 := h) (P := True) (by decide +kernel) rfl trivial ?_
  obtain ⟨v_1, e_2, e⟩ := bi_s e
  refine q_callV ok_R_token (as := [.int t0, .int x1, .int x4, .long 0]) (st := []) ⟨wd_94, wd_95, wd_96, wd_7, ds_R_token, Nat.le_of_ble_eq_true rfl, Nat.le_of_ble_eq_true rfl⟩ (s_R_token  e_2) rfl ⟨rfl, rfl⟩ (ci := 12) rfl (fun v hv => by cases hv) (Nat.le_of_ble_eq_true rfl) (by decide +kernel) rfl ?_
  refine sl_ok ok_R_cutsText [.iload_n 1, .iload_n 3, .iadd, .istore_n 1] (pc1 := 271) (ls1 := [some (.ref 79), some (.int (x1 + x3)), none, some (.int x3), some (.int x4), none, none, none]) (st1 := []) (h1 := v_1) (P := True) (by decide +kernel) rfl trivial ?_
  refine q_goto (off := 12) (tgt := 283) (by decide) (by decide +kernel) ?_
  refine q_goto (off := -276) (tgt := 7) (by decide) (by decide +kernel) ?_
  cases e
  refine Go.sb [some (.ref 79), some (.int (x1 + x3)), none, none, none, none, none, none] (And.intro rfl (And.intro rfl trivial)) ?_
  exact k
def f_R_cutsText_L6 (x1 : Int32) (h : pH) (x3 : Int32) (x4 : Int32) : Option ((Int32 × Int32) ⊕ ((Int32 × pH) ⊕ pH)) :=
  (f_R_byteAt (x1 + x3) h).bind fun v_1 =>
  if (f_R_isDigit v_1) = 0 then
    if x3 ≤ 4 then
      mi (f_R_cutsText_J7 x1 x3 x4 2 h)
    else
      mi (f_R_cutsText_J7 x1 x3 x4 3 h)
  else
    if 4 ≤ x3 then
      some (.inl ((x3 + 1), x4))
    else
      (f_R_byteAt (x1 + x3) h).bind fun v_6 =>
      some (.inl ((x3 + 1), (((10 * x4) + v_6) - 48)))
set_option maxHeartbeats 4000000 in
theorem b_R_cutsText_L6 {E : pE} {r : Option Value} {hr : pH} {x1 : Int32} {h : pH} {x3 : Int32} {x4 : Int32}  {b : ((Int32 × Int32) ⊕ ((Int32 × pH) ⊕ pH))} (e : f_R_cutsText_L6 x1 h x3 x4 = some b) (k : (Sum.elim (fun s : (Int32 × Int32) => Go E M_R_cutsText 207 [some (.ref 79), some (.int x1), none, some (.int s.1), some (.int s.2), none, none, none] [] h r hr) (Sum.elim (fun s : (Int32 × pH) => Go E M_R_cutsText 7 [some (.ref 79), some (.int s.1), none, none, none, none, none, none] [] s.2 r hr) (fun v : pH => r = none ∧ hr = v))) b) : Go E M_R_cutsText 207 [some (.ref 79), some (.int x1), none, some (.int x3), some (.int x4), none, none, none] [] h r hr := by
  unfold f_R_cutsText_L6 at e
  refine sl_ok ok_R_cutsText [.aload_n 0, .iload_n 1, .iload_n 3, .iadd] (pc1 := 211) (ls1 := [some (.ref 79), some (.int x1), none, some (.int x3), some (.int x4), none, none, none]) (st1 := [.int (x1 + x3), .ref 79]) (h1 := h) (P := True) (by decide +kernel) rfl trivial ?_
  obtain ⟨v_1, e_2, e⟩ := bi_s e
  refine q_callV ok_R_byteAt (as := [.int (x1 + x3)]) (st := []) ⟨wd_97, wd_98, wd_99, wd_7, ds_R_byteAt, Nat.le_of_ble_eq_true rfl, Nat.le_of_ble_eq_true rfl⟩ (s_R_byteAt  e_2) rfl ⟨rfl, rfl⟩ (ci := 12) rfl (fun v hv => by cases hv; rfl) (Nat.le_of_ble_eq_true rfl) (by decide +kernel) rfl ?_
  refine q_callS ok_R_isDigit (as := [.int v_1]) (st := []) ⟨wd_102, wd_103, wd_7, ds_R_isDigit, Nat.le_of_ble_eq_true rfl, Nat.le_of_ble_eq_true rfl⟩ (s_R_isDigit ) rfl (fun v hv => by cases hv; rfl) (Nat.le_of_ble_eq_true rfl) (by decide +kernel) rfl ?_
  refine q_if_eq (off := 32) (tgt := 249) (by decide +kernel) (by decide) (fun c_3 => ?_) (fun c_3 => ?_)
  · have e := it_t c_3 e
    refine sl_ok ok_R_cutsText [.aload_n 0, .iload_n 3, .iconst 4] (pc1 := 252) (ls1 := [some (.ref 79), some (.int x1), none, some (.int x3), some (.int x4), none, none, none]) (st1 := [.int 4, .int x3, .ref 79]) (h1 := h) (P := True) (by decide +kernel) rfl trivial ?_
    refine q_icmp_le (off := 7) (tgt := 259) (by decide +kernel) (by decide) (fun c_4 => ?_) (fun c_4 => ?_)
    · have e := it_t c_4 e
      refine sl_ok ok_R_cutsText [.iconst 2] (pc1 := 260) (ls1 := [some (.ref 79), some (.int x1), none, some (.int x3), some (.int x4), none, none, none]) (st1 := [.int 2, .ref 79]) (h1 := h) (P := True) (by decide +kernel) rfl trivial ?_
      obtain ⟨_, e9, rfl⟩ := mi_s e
      have e := e9
      exact b_R_cutsText_J7  e k
    · have e := it_f c_4 e
      refine sl_ok ok_R_cutsText [.iconst 3] (pc1 := 256) (ls1 := [some (.ref 79), some (.int x1), none, some (.int x3), some (.int x4), none, none, none]) (st1 := [.int 3, .ref 79]) (h1 := h) (P := True) (by decide +kernel) rfl trivial ?_
      refine q_goto (off := 4) (tgt := 260) (by decide) (by decide +kernel) ?_
      obtain ⟨_, e9, rfl⟩ := mi_s e
      have e := e9
      exact b_R_cutsText_J7  e k
  · have e := it_f c_3 e
    refine sl_ok ok_R_cutsText [.iload_n 3, .iconst 4] (pc1 := 222) (ls1 := [some (.ref 79), some (.int x1), none, some (.int x3), some (.int x4), none, none, none]) (st1 := [.int 4, .int x3]) (h1 := h) (P := True) (by decide +kernel) rfl trivial ?_
    refine q_icmp_ge (off := 21) (tgt := 243) (by decide +kernel) (by decide) (fun c_5 => ?_) (fun c_5 => ?_)
    · have e := it_t c_5 e
      refine sl_ok ok_R_cutsText [.iinc 3 1] (pc1 := 246) (ls1 := [some (.ref 79), some (.int x1), none, some (.int (x3 + 1)), some (.int x4), none, none, none]) (st1 := []) (h1 := h) (P := True) (by decide +kernel) rfl trivial ?_
      refine q_goto (off := -39) (tgt := 207) (by decide) (by decide +kernel) ?_
      cases e
      exact k
    · have e := it_f c_5 e
      refine sl_ok ok_R_cutsText [.bipush 10, .iload 4, .imul, .aload_n 0, .iload_n 1, .iload_n 3, .iadd] (pc1 := 234) (ls1 := [some (.ref 79), some (.int x1), none, some (.int x3), some (.int x4), none, none, none]) (st1 := [.int (x1 + x3), .ref 79, .int (10 * x4)]) (h1 := h) (P := True) (by decide +kernel) rfl trivial ?_
      obtain ⟨v_6, e_7, e⟩ := bi_s e
      refine q_callV ok_R_byteAt (as := [.int (x1 + x3)]) (st := [.int (10 * x4)]) ⟨wd_97, wd_98, wd_99, wd_7, ds_R_byteAt, Nat.le_of_ble_eq_true rfl, Nat.le_of_ble_eq_true rfl⟩ (s_R_byteAt  e_7) rfl ⟨rfl, rfl⟩ (ci := 12) rfl (fun v hv => by cases hv; rfl) (Nat.le_of_ble_eq_true rfl) (by decide +kernel) rfl ?_
      refine sl_ok ok_R_cutsText [.iadd, .bipush 48, .isub, .istore 4, .iinc 3 1] (pc1 := 246) (ls1 := [some (.ref 79), some (.int x1), none, some (.int (x3 + 1)), some (.int (((10 * x4) + v_6) - 48)), none, none, none]) (st1 := []) (h1 := h) (P := True) (by decide +kernel) rfl trivial ?_
      refine q_goto (off := -39) (tgt := 207) (by decide) (by decide +kernel) ?_
      cases e
      exact k
def f_R_cutsText_L1 (x1 : Int32) (h : pH) : Option ((Int32 × pH) ⊕ pH) :=
  if 400 < (hI h 79 10) then
    some (.inr h)
  else
    (f_R_byteAt x1 h).bind fun v_2 =>
    if x1 < (hI h 79 4) then
      if v_2 = 9 then
        some (.inl ((x1 + 1), h))
      else
        if v_2 = 10 then
          some (.inl ((x1 + 1), h))
        else
          if v_2 = 13 then
            some (.inl ((x1 + 1), h))
          else
            if v_2 = 32 then
              some (.inl ((x1 + 1), h))
            else
              if (f_R_isLetter v_2) = 0 then
                if (f_R_isDigit v_2) = 0 then
                  (f_R_sign x1 v_2 h).bind fun v_11 =>
                  some (.inl ((x1 + v_11.1), v_11.2))
                else
                  lp (fun s => f_R_cutsText_L6 x1 h s.1 s.2) lpN (0, 0)
              else
                lp (fun s => f_R_cutsText_L2 x1 h s.1 s.2) lpN (0, 0)
    else
      (f_R_token (0 : Int32) (hI h 79 4) (0 : Int32) 0 h).bind fun v_13 =>
      some (.inr v_13)
set_option maxHeartbeats 4000000 in
theorem b_R_cutsText_L1 {E : pE} {r : Option Value} {hr : pH} {x1 : Int32} {h : pH}  {b : ((Int32 × pH) ⊕ pH)} (e : f_R_cutsText_L1 x1 h = some b) (k : (Sum.elim (fun s : (Int32 × pH) => Go E M_R_cutsText 7 [some (.ref 79), some (.int s.1), none, none, none, none, none, none] [] s.2 r hr) (fun v : pH => r = none ∧ hr = v)) b) : Go E M_R_cutsText 7 [some (.ref 79), some (.int x1), none, none, none, none, none, none] [] h r hr := by
  unfold f_R_cutsText_L1 at e
  refine sl_ok ok_R_cutsText [.aload_n 0, .getfield 109, .sipush 400] (pc1 := 14) (ls1 := [some (.ref 79), some (.int x1), none, none, none, none, none, none]) (st1 := [.int 400, .int (hI h 79 10)]) (h1 := h) (P := (ak 79 = 0 ∧ cx 79 = 12) ∧ True) (by decide +kernel) rfl ⟨⟨rfl, rfl⟩, trivial⟩ ?_
  refine q_icmp_gt (off := 272) (tgt := 286) (by decide +kernel) (by decide) (fun c_1 => ?_) (fun c_1 => ?_)
  · have e := it_t c_1 e
    cases e
    exact q_vret rfl k.1 k.2 (by decide +kernel)
  · have e := it_f c_1 e
    refine sl_ok ok_R_cutsText [.aload_n 0, .iload_n 1] (pc1 := 19) (ls1 := [some (.ref 79), some (.int x1), none, none, none, none, none, none]) (st1 := [.int x1, .ref 79]) (h1 := h) (P := True) (by decide +kernel) rfl trivial ?_
    obtain ⟨v_2, e_3, e⟩ := bi_s e
    refine q_callV ok_R_byteAt (as := [.int x1]) (st := []) ⟨wd_97, wd_98, wd_99, wd_7, ds_R_byteAt, Nat.le_of_ble_eq_true rfl, Nat.le_of_ble_eq_true rfl⟩ (s_R_byteAt  e_3) rfl ⟨rfl, rfl⟩ (ci := 12) rfl (fun v hv => by cases hv; rfl) (Nat.le_of_ble_eq_true rfl) (by decide +kernel) rfl ?_
    refine sl_ok ok_R_cutsText [.istore_n 2, .iload_n 1, .aload_n 0, .getfield 100] (pc1 := 28) (ls1 := [some (.ref 79), some (.int x1), some (.int v_2), none, none, none, none, none]) (st1 := [.int (hI h 79 4), .int x1]) (h1 := h) (P := (ak 79 = 0 ∧ cx 79 = 12) ∧ True) (by decide +kernel) rfl ⟨⟨rfl, rfl⟩, trivial⟩ ?_
    refine q_icmp_lt (off := 15) (tgt := 43) (by decide +kernel) (by decide) (fun c_4 => ?_) (fun c_4 => ?_)
    · have e := it_t c_4 e
      refine sl_ok ok_R_cutsText [.iload_n 2, .bipush 9] (pc1 := 46) (ls1 := [some (.ref 79), some (.int x1), some (.int v_2), none, none, none, none, none]) (st1 := [.int 9, .int v_2]) (h1 := h) (P := True) (by decide +kernel) rfl trivial ?_
      refine q_icmp_eq (off := 21) (tgt := 67) (by decide +kernel) (by decide) (fun c_5 => ?_) (fun c_5 => ?_)
      · have e := it_t c_5 e
        refine sl_ok ok_R_cutsText [.iinc 1 1] (pc1 := 70) (ls1 := [some (.ref 79), some (.int (x1 + 1)), some (.int v_2), none, none, none, none, none]) (st1 := []) (h1 := h) (P := True) (by decide +kernel) rfl trivial ?_
        refine q_goto (off := 213) (tgt := 283) (by decide) (by decide +kernel) ?_
        refine q_goto (off := -276) (tgt := 7) (by decide) (by decide +kernel) ?_
        cases e
        refine Go.sb [some (.ref 79), some (.int (x1 + 1)), none, none, none, none, none, none] (And.intro rfl (And.intro rfl trivial)) ?_
        exact k
      · have e := it_f c_5 e
        refine sl_ok ok_R_cutsText [.iload_n 2, .bipush 10] (pc1 := 52) (ls1 := [some (.ref 79), some (.int x1), some (.int v_2), none, none, none, none, none]) (st1 := [.int 10, .int v_2]) (h1 := h) (P := True) (by decide +kernel) rfl trivial ?_
        refine q_icmp_eq (off := 15) (tgt := 67) (by decide +kernel) (by decide) (fun c_6 => ?_) (fun c_6 => ?_)
        · have e := it_t c_6 e
          refine sl_ok ok_R_cutsText [.iinc 1 1] (pc1 := 70) (ls1 := [some (.ref 79), some (.int (x1 + 1)), some (.int v_2), none, none, none, none, none]) (st1 := []) (h1 := h) (P := True) (by decide +kernel) rfl trivial ?_
          refine q_goto (off := 213) (tgt := 283) (by decide) (by decide +kernel) ?_
          refine q_goto (off := -276) (tgt := 7) (by decide) (by decide +kernel) ?_
          cases e
          refine Go.sb [some (.ref 79), some (.int (x1 + 1)), none, none, none, none, none, none] (And.intro rfl (And.intro rfl trivial)) ?_
          exact k
        · have e := it_f c_6 e
          refine sl_ok ok_R_cutsText [.iload_n 2, .bipush 13] (pc1 := 58) (ls1 := [some (.ref 79), some (.int x1), some (.int v_2), none, none, none, none, none]) (st1 := [.int 13, .int v_2]) (h1 := h) (P := True) (by decide +kernel) rfl trivial ?_
          refine q_icmp_eq (off := 9) (tgt := 67) (by decide +kernel) (by decide) (fun c_7 => ?_) (fun c_7 => ?_)
          · have e := it_t c_7 e
            refine sl_ok ok_R_cutsText [.iinc 1 1] (pc1 := 70) (ls1 := [some (.ref 79), some (.int (x1 + 1)), some (.int v_2), none, none, none, none, none]) (st1 := []) (h1 := h) (P := True) (by decide +kernel) rfl trivial ?_
            refine q_goto (off := 213) (tgt := 283) (by decide) (by decide +kernel) ?_
            refine q_goto (off := -276) (tgt := 7) (by decide) (by decide +kernel) ?_
            cases e
            refine Go.sb [some (.ref 79), some (.int (x1 + 1)), none, none, none, none, none, none] (And.intro rfl (And.intro rfl trivial)) ?_
            exact k
          · have e := it_f c_7 e
            refine sl_ok ok_R_cutsText [.iload_n 2, .bipush 32] (pc1 := 64) (ls1 := [some (.ref 79), some (.int x1), some (.int v_2), none, none, none, none, none]) (st1 := [.int 32, .int v_2]) (h1 := h) (P := True) (by decide +kernel) rfl trivial ?_
            refine q_icmp_ne (off := 9) (tgt := 73) (by decide +kernel) (by decide) (fun c_8 => ?_) (fun c_8 => ?_)
            · have e := it_f c_8 e
              refine sl_ok ok_R_cutsText [.iload_n 2] (pc1 := 74) (ls1 := [some (.ref 79), some (.int x1), some (.int v_2), none, none, none, none, none]) (st1 := [.int v_2]) (h1 := h) (P := True) (by decide +kernel) rfl trivial ?_
              refine q_callS ok_R_isLetter (as := [.int v_2]) (st := []) ⟨wd_100, wd_101, wd_7, ds_R_isLetter, Nat.le_of_ble_eq_true rfl, Nat.le_of_ble_eq_true rfl⟩ (s_R_isLetter ) rfl (fun v hv => by cases hv; rfl) (Nat.le_of_ble_eq_true rfl) (by decide +kernel) rfl ?_
              refine q_if_eq (off := 118) (tgt := 195) (by decide +kernel) (by decide) (fun c_9 => ?_) (fun c_9 => ?_)
              · have e := it_t c_9 e
                refine sl_ok ok_R_cutsText [.iload_n 2] (pc1 := 196) (ls1 := [some (.ref 79), some (.int x1), some (.int v_2), none, none, none, none, none]) (st1 := [.int v_2]) (h1 := h) (P := True) (by decide +kernel) rfl trivial ?_
                refine q_callS ok_R_isDigit (as := [.int v_2]) (st := []) ⟨wd_102, wd_103, wd_7, ds_R_isDigit, Nat.le_of_ble_eq_true rfl, Nat.le_of_ble_eq_true rfl⟩ (s_R_isDigit ) rfl (fun v hv => by cases hv; rfl) (Nat.le_of_ble_eq_true rfl) (by decide +kernel) rfl ?_
                refine q_if_eq (off := 75) (tgt := 274) (by decide +kernel) (by decide) (fun c_10 => ?_) (fun c_10 => ?_)
                · have e := it_t c_10 e
                  refine sl_ok ok_R_cutsText [.iload_n 1, .aload_n 0, .iload_n 1, .iload_n 2] (pc1 := 278) (ls1 := [some (.ref 79), some (.int x1), some (.int v_2), none, none, none, none, none]) (st1 := [.int v_2, .int x1, .ref 79, .int x1]) (h1 := h) (P := True) (by decide +kernel) rfl trivial ?_
                  obtain ⟨v_11, e_12, e⟩ := bi_s e
                  refine q_callV ok_R_sign (as := [.int x1, .int v_2]) (st := [.int x1]) ⟨wd_104, wd_105, wd_106, wd_7, ds_R_sign, Nat.le_of_ble_eq_true rfl, Nat.le_of_ble_eq_true rfl⟩ (s_R_sign  e_12) rfl ⟨rfl, rfl⟩ (ci := 12) rfl (fun v hv => by cases hv; rfl) (Nat.le_of_ble_eq_true rfl) (by decide +kernel) rfl ?_
                  refine sl_ok ok_R_cutsText [.iadd, .istore_n 1] (pc1 := 283) (ls1 := [some (.ref 79), some (.int (x1 + v_11.1)), some (.int v_2), none, none, none, none, none]) (st1 := []) (h1 := v_11.2) (P := True) (by decide +kernel) rfl trivial ?_
                  refine q_goto (off := -276) (tgt := 7) (by decide) (by decide +kernel) ?_
                  cases e
                  refine Go.sb [some (.ref 79), some (.int (x1 + v_11.1)), none, none, none, none, none, none] (And.intro rfl (And.intro rfl trivial)) ?_
                  exact k
                · have e := it_f c_10 e
                  refine sl_ok ok_R_cutsText [.iconst 0, .istore_n 3, .iconst 0, .istore 4] (pc1 := 207) (ls1 := [some (.ref 79), some (.int x1), some (.int v_2), some (.int 0), some (.int 0), none, none, none]) (st1 := []) (h1 := h) (P := True) (by decide +kernel) rfl trivial ?_
                  refine Go.sb [some (.ref 79), some (.int x1), none, some (.int 0), some (.int 0), none, none, none] (And.intro rfl (And.intro rfl (And.intro rfl (And.intro rfl trivial)))) ?_
                  exact lp_in e (fun s => Go E M_R_cutsText 207 [some (.ref 79), some (.int x1), none, some (.int s.1), some (.int s.2), none, none, none] [] h r hr) (Sum.elim (fun s : (Int32 × pH) => Go E M_R_cutsText 7 [some (.ref 79), some (.int s.1), none, none, none, none, none, none] [] s.2 r hr) (fun v : pH => r = none ∧ hr = v)) (fun _ _ e k => b_R_cutsText_L6  e k) k
              · have e := it_f c_9 e
                refine sl_ok ok_R_cutsText [.iconst 0, .istore_n 3, .lconst 0, .lstore 4] (pc1 := 85) (ls1 := [some (.ref 79), some (.int x1), some (.int v_2), some (.int 0), some (.long 0), none, none, none]) (st1 := []) (h1 := h) (P := True) (by decide +kernel) rfl trivial ?_
                refine Go.sb [some (.ref 79), some (.int x1), none, some (.int 0), some (.long 0), none, none, none] (And.intro rfl (And.intro rfl (And.intro rfl (And.intro rfl trivial)))) ?_
                exact lp_in e (fun s => Go E M_R_cutsText 85 [some (.ref 79), some (.int x1), none, some (.int s.1), some (.long s.2), none, none, none] [] h r hr) (Sum.elim (fun s : (Int32 × pH) => Go E M_R_cutsText 7 [some (.ref 79), some (.int s.1), none, none, none, none, none, none] [] s.2 r hr) (fun v : pH => r = none ∧ hr = v)) (fun _ _ e k => b_R_cutsText_L2  e k) k
            · have e := it_t c_8 e
              refine sl_ok ok_R_cutsText [.iinc 1 1] (pc1 := 70) (ls1 := [some (.ref 79), some (.int (x1 + 1)), some (.int v_2), none, none, none, none, none]) (st1 := []) (h1 := h) (P := True) (by decide +kernel) rfl trivial ?_
              refine q_goto (off := 213) (tgt := 283) (by decide) (by decide +kernel) ?_
              refine q_goto (off := -276) (tgt := 7) (by decide) (by decide +kernel) ?_
              cases e
              refine Go.sb [some (.ref 79), some (.int (x1 + 1)), none, none, none, none, none, none] (And.intro rfl (And.intro rfl trivial)) ?_
              exact k
    · have e := it_f c_4 e
      refine sl_ok ok_R_cutsText [.aload_n 0, .iconst 0, .aload_n 0, .getfield 100, .iconst 0, .lconst 0] (pc1 := 39) (ls1 := [some (.ref 79), some (.int x1), some (.int v_2), none, none, none, none, none]) (st1 := [.long 0, .int 0, .int (hI h 79 4), .int 0, .ref 79]) (h1 := h) (P := (ak 79 = 0 ∧ cx 79 = 12) ∧ True) (by decide +kernel) rfl ⟨⟨rfl, rfl⟩, trivial⟩ ?_
      obtain ⟨v_13, e_14, e⟩ := bi_s e
      refine q_callV ok_R_token (as := [.int 0, .int (hI h 79 4), .int 0, .long 0]) (st := []) ⟨wd_94, wd_95, wd_96, wd_7, ds_R_token, Nat.le_of_ble_eq_true rfl, Nat.le_of_ble_eq_true rfl⟩ (s_R_token  e_14) rfl ⟨rfl, rfl⟩ (ci := 12) rfl (fun v hv => by cases hv) (Nat.le_of_ble_eq_true rfl) (by decide +kernel) rfl ?_
      cases e
      exact q_vret rfl k.1 k.2 (by decide +kernel)
def f_R_cutsText (h : pH) : Option pH :=
  lp (fun s => f_R_cutsText_L1 s.1 s.2) lpN (0, (sI h 79 10 0))
set_option maxHeartbeats 4000000 in
theorem b_R_cutsText {E : pE} {r : Option Value} {hr : pH} {h : pH}  {b : pH} (e : f_R_cutsText h = some b) (k : (fun v : pH => r = none ∧ hr = v) b) : Go E M_R_cutsText 0 [some (.ref 79), none, none, none, none, none, none, none] [] h r hr := by
  unfold f_R_cutsText at e
  refine sl_ok ok_R_cutsText [.aload_n 0, .iconst 0, .putfield 109, .iconst 0, .istore_n 1] (pc1 := 7) (ls1 := [some (.ref 79), some (.int 0), none, none, none, none, none, none]) (st1 := []) (h1 := (sI h 79 10 0)) (P := (ak 79 = 0 ∧ cx 79 = 12) ∧ True) (by decide +kernel) rfl ⟨⟨rfl, rfl⟩, trivial⟩ ?_
  exact lp_in e (fun s => Go E M_R_cutsText 7 [some (.ref 79), some (.int s.1), none, none, none, none, none, none] [] s.2 r hr) (fun v : pH => r = none ∧ hr = v) (fun _ _ e k => b_R_cutsText_L1  e k) k
theorem s_R_cutsText {E : pE} {h : pH}  {v : pH} (e : f_R_cutsText h = some v) : Ct E M_R_cutsText [.ref 79] h none v :=
  Ct_of ok_R_cutsText [some (.ref 79), none, none, none, none, none, none, none] (Nat.le_of_ble_eq_true rfl) rfl (b_R_cutsText  e ⟨rfl, rfl⟩)
def f_R_is (x1 : Int32) (h : pH) : Option Int32 :=
  if (hI h 79 12) = 0 then
    if (hI h 79 11) < 0 ∨ 403 ≤ (hI h 79 11).toNatClampNeg then none else
    if (hI h 82 (hI h 79 11).toNatClampNeg) = x1 then
      some 1
    else
      some 0
  else
    some 0
set_option maxHeartbeats 4000000 in
theorem b_R_is {E : pE} {r : Option Value} {hr : pH} {x1 : Int32} {h : pH}  {b : Int32} (e : f_R_is x1 h = some b) (k : (fun v : Int32 => r = some (.int v) ∧ hr = h) b) : Go E M_R_is 0 [some (.ref 79), some (.int x1)] [] h r hr := by
  unfold f_R_is at e
  refine sl_ok ok_R_is [.aload_n 0, .getfield 131] (pc1 := 4) (ls1 := [some (.ref 79), some (.int x1)]) (st1 := [.int (hI h 79 12)]) (h1 := h) (P := (ak 79 = 0 ∧ cx 79 = 12) ∧ True) (by decide +kernel) rfl ⟨⟨rfl, rfl⟩, trivial⟩ ?_
  refine q_if_ne (off := 20) (tgt := 24) (by decide +kernel) (by decide) (fun c_1 => ?_) (fun c_1 => ?_)
  · have e := it_f c_1 e
    refine sl_ok ok_R_is [.iconst 0] (pc1 := 25) (ls1 := [some (.ref 79), some (.int x1)]) (st1 := [.int 0]) (h1 := h) (P := True) (by decide +kernel) rfl trivial ?_
    cases e
    exact q_zret rfl (Or.inl rfl) k.1 k.2 (by decide +kernel)
  · have e := it_t c_1 e
    obtain ⟨g_2, e⟩ := it_g e
    refine sl_ok ok_R_is [.aload_n 0, .getfield 20, .aload_n 0, .getfield 134, .iaload, .iload_n 1] (pc1 := 17) (ls1 := [some (.ref 79), some (.int x1)]) (st1 := [.int x1, .int (hI h 82 (hI h 79 11).toNatClampNeg)]) (h1 := h) (P := (ak 79 = 0 ∧ cx 79 = 12) ∧ (ak 79 = 0 ∧ cx 79 = 12) ∧ (ak 82 = 1 ∧ ¬ ((hI h 79 11) < 0 ∨ cx 82 ≤ (hI h 79 11).toNatClampNeg)) ∧ True) (by decide +kernel) rfl ⟨⟨rfl, rfl⟩, ⟨rfl, rfl⟩, ⟨rfl, g_2⟩, trivial⟩ ?_
    refine q_icmp_ne (off := 7) (tgt := 24) (by decide +kernel) (by decide) (fun c_3 => ?_) (fun c_3 => ?_)
    · have e := it_f c_3 e
      refine sl_ok ok_R_is [.iconst 0] (pc1 := 25) (ls1 := [some (.ref 79), some (.int x1)]) (st1 := [.int 0]) (h1 := h) (P := True) (by decide +kernel) rfl trivial ?_
      cases e
      exact q_zret rfl (Or.inl rfl) k.1 k.2 (by decide +kernel)
    · have e := it_t c_3 e
      refine sl_ok ok_R_is [.iconst 1] (pc1 := 21) (ls1 := [some (.ref 79), some (.int x1)]) (st1 := [.int 1]) (h1 := h) (P := True) (by decide +kernel) rfl trivial ?_
      refine q_goto (off := 4) (tgt := 25) (by decide) (by decide +kernel) ?_
      cases e
      exact q_zret rfl (Or.inr rfl) k.1 k.2 (by decide +kernel)
theorem s_R_is {E : pE} {x1 : Int32} {h : pH}  {v : Int32} (e : f_R_is x1 h = some v) : Ct E M_R_is [.ref 79, .int x1] h (some (.int v)) h :=
  Ct_of ok_R_is [some (.ref 79), some (.int x1)] (Nat.le_of_ble_eq_true rfl) rfl (b_R_is  e ⟨rfl, rfl⟩)
def f_R_fail (x1 : Int32) (h : pH) : Option pH :=
  if (hI h 79 12) ≤ 0 then
    if (hI (sI h 79 12 x1) 79 11) < 0 ∨ 403 ≤ (hI (sI h 79 12 x1) 79 11).toNatClampNeg then none else
    some (sI (sI h 79 12 x1) 79 13 (hI (sI h 79 12 x1) 83 (hI (sI h 79 12 x1) 79 11).toNatClampNeg))
  else
    some h
set_option maxHeartbeats 4000000 in
theorem b_R_fail {E : pE} {r : Option Value} {hr : pH} {x1 : Int32} {h : pH}  {b : pH} (e : f_R_fail x1 h = some b) (k : (fun v : pH => r = none ∧ hr = v) b) : Go E M_R_fail 0 [some (.ref 79), some (.int x1)] [] h r hr := by
  unfold f_R_fail at e
  refine sl_ok ok_R_fail [.aload_n 0, .getfield 131] (pc1 := 4) (ls1 := [some (.ref 79), some (.int x1)]) (st1 := [.int (hI h 79 12)]) (h1 := h) (P := (ak 79 = 0 ∧ cx 79 = 12) ∧ True) (by decide +kernel) rfl ⟨⟨rfl, rfl⟩, trivial⟩ ?_
  refine q_if_le (off := 4) (tgt := 8) (by decide +kernel) (by decide) (fun c_1 => ?_) (fun c_1 => ?_)
  · have e := it_t c_1 e
    obtain ⟨g_2, e⟩ := it_g e
    refine sl_ok ok_R_fail [.aload_n 0, .iload_n 1, .putfield 131, .aload_n 0, .aload_n 0, .getfield 24, .aload_n 0, .getfield 134, .iaload, .putfield 137] (pc1 := 26) (ls1 := [some (.ref 79), some (.int x1)]) (st1 := []) (h1 := (sI (sI h 79 12 x1) 79 13 (hI (sI h 79 12 x1) 83 (hI (sI h 79 12 x1) 79 11).toNatClampNeg))) (P := (ak 79 = 0 ∧ cx 79 = 12) ∧ (ak 79 = 0 ∧ cx 79 = 12) ∧ (ak 79 = 0 ∧ cx 79 = 12) ∧ (ak 83 = 1 ∧ ¬ ((hI (sI h 79 12 x1) 79 11) < 0 ∨ cx 83 ≤ (hI (sI h 79 12 x1) 79 11).toNatClampNeg)) ∧ (ak 79 = 0 ∧ cx 79 = 12) ∧ True) (by decide +kernel) rfl ⟨⟨rfl, rfl⟩, ⟨rfl, rfl⟩, ⟨rfl, rfl⟩, ⟨rfl, g_2⟩, ⟨rfl, rfl⟩, trivial⟩ ?_
    cases e
    exact q_vret rfl k.1 k.2 (by decide +kernel)
  · have e := it_f c_1 e
    cases e
    exact q_vret rfl k.1 k.2 (by decide +kernel)
theorem s_R_fail {E : pE} {x1 : Int32} {h : pH}  {v : pH} (e : f_R_fail x1 h = some v) : Ct E M_R_fail [.ref 79, .int x1] h none v :=
  Ct_of ok_R_fail [some (.ref 79), some (.int x1)] (Nat.le_of_ble_eq_true rfl) rfl (b_R_fail  e ⟨rfl, rfl⟩)
def f_R_passes (h : pH) : Option pH :=
  if (hI h 79 11) = 400 then
    (f_R_fail (2 : Int32) h).bind fun v_2 =>
    some v_2
  else
    some (sI h 79 11 ((hI h 79 11) + 1))
set_option maxHeartbeats 4000000 in
theorem b_R_passes {E : pE} {r : Option Value} {hr : pH} {h : pH}  {b : pH} (e : f_R_passes h = some b) (k : (fun v : pH => r = none ∧ hr = v) b) : Go E M_R_passes 0 [some (.ref 79)] [] h r hr := by
  unfold f_R_passes at e
  refine sl_ok ok_R_passes [.aload_n 0, .getfield 134, .sipush 400] (pc1 := 7) (ls1 := [some (.ref 79)]) (st1 := [.int 400, .int (hI h 79 11)]) (h1 := h) (P := (ak 79 = 0 ∧ cx 79 = 12) ∧ True) (by decide +kernel) rfl ⟨⟨rfl, rfl⟩, trivial⟩ ?_
  refine q_icmp_ne (off := 11) (tgt := 18) (by decide +kernel) (by decide) (fun c_1 => ?_) (fun c_1 => ?_)
  · have e := it_f c_1 e
    refine sl_ok ok_R_passes [.aload_n 0, .dup, .getfield 134, .iconst 1, .iadd, .putfield 134] (pc1 := 28) (ls1 := [some (.ref 79)]) (st1 := []) (h1 := (sI h 79 11 ((hI h 79 11) + 1))) (P := (ak 79 = 0 ∧ cx 79 = 12) ∧ (ak 79 = 0 ∧ cx 79 = 12) ∧ True) (by decide +kernel) rfl ⟨⟨rfl, rfl⟩, ⟨rfl, rfl⟩, trivial⟩ ?_
    cases e
    exact q_vret rfl k.1 k.2 (by decide +kernel)
  · have e := it_t c_1 e
    refine sl_ok ok_R_passes [.aload_n 0, .iconst 2] (pc1 := 12) (ls1 := [some (.ref 79)]) (st1 := [.int 2, .ref 79]) (h1 := h) (P := True) (by decide +kernel) rfl trivial ?_
    obtain ⟨v_2, e_3, e⟩ := bi_s e
    refine q_callV ok_R_fail (as := [.int 2]) (st := []) ⟨wd_109, wd_110, wd_111, wd_7, ds_R_fail, Nat.le_of_ble_eq_true rfl, Nat.le_of_ble_eq_true rfl⟩ (s_R_fail  e_3) rfl ⟨rfl, rfl⟩ (ci := 12) rfl (fun v hv => by cases hv) (Nat.le_of_ble_eq_true rfl) (by decide +kernel) rfl ?_
    refine q_goto (off := 13) (tgt := 28) (by decide) (by decide +kernel) ?_
    cases e
    exact q_vret rfl k.1 k.2 (by decide +kernel)
theorem s_R_passes {E : pE} {h : pH}  {v : pH} (e : f_R_passes h = some v) : Ct E M_R_passes [.ref 79] h none v :=
  Ct_of ok_R_passes [some (.ref 79)] (Nat.le_of_ble_eq_true rfl) rfl (b_R_passes  e ⟨rfl, rfl⟩)
def f_R_must (x1 : Int32) (h : pH) : Option pH :=
  (f_R_is x1 h).bind fun v_1 =>
  if v_1 = 0 then
    (f_R_fail (1 : Int32) h).bind fun v_4 =>
    some v_4
  else
    (f_R_passes h).bind fun v_6 =>
    some v_6
set_option maxHeartbeats 4000000 in
theorem b_R_must {E : pE} {r : Option Value} {hr : pH} {x1 : Int32} {h : pH}  {b : pH} (e : f_R_must x1 h = some b) (k : (fun v : pH => r = none ∧ hr = v) b) : Go E M_R_must 0 [some (.ref 79), some (.int x1)] [] h r hr := by
  unfold f_R_must at e
  refine sl_ok ok_R_must [.aload_n 0, .iload_n 1] (pc1 := 2) (ls1 := [some (.ref 79), some (.int x1)]) (st1 := [.int x1, .ref 79]) (h1 := h) (P := True) (by decide +kernel) rfl trivial ?_
  obtain ⟨v_1, e_2, e⟩ := bi_s e
  refine q_callV ok_R_is (as := [.int x1]) (st := []) ⟨wd_112, wd_113, wd_114, wd_7, ds_R_is, Nat.le_of_ble_eq_true rfl, Nat.le_of_ble_eq_true rfl⟩ (s_R_is  e_2) rfl ⟨rfl, rfl⟩ (ci := 12) rfl (fun v hv => by cases hv; rfl) (Nat.le_of_ble_eq_true rfl) (by decide +kernel) rfl ?_
  refine q_if_eq (off := 10) (tgt := 15) (by decide +kernel) (by decide) (fun c_3 => ?_) (fun c_3 => ?_)
  · have e := it_t c_3 e
    refine sl_ok ok_R_must [.aload_n 0, .iconst 1] (pc1 := 17) (ls1 := [some (.ref 79), some (.int x1)]) (st1 := [.int 1, .ref 79]) (h1 := h) (P := True) (by decide +kernel) rfl trivial ?_
    obtain ⟨v_4, e_5, e⟩ := bi_s e
    refine q_callV ok_R_fail (as := [.int 1]) (st := []) ⟨wd_109, wd_110, wd_111, wd_7, ds_R_fail, Nat.le_of_ble_eq_true rfl, Nat.le_of_ble_eq_true rfl⟩ (s_R_fail  e_5) rfl ⟨rfl, rfl⟩ (ci := 12) rfl (fun v hv => by cases hv) (Nat.le_of_ble_eq_true rfl) (by decide +kernel) rfl ?_
    cases e
    exact q_vret rfl k.1 k.2 (by decide +kernel)
  · have e := it_f c_3 e
    refine sl_ok ok_R_must [.aload_n 0] (pc1 := 9) (ls1 := [some (.ref 79), some (.int x1)]) (st1 := [.ref 79]) (h1 := h) (P := True) (by decide +kernel) rfl trivial ?_
    obtain ⟨v_6, e_7, e⟩ := bi_s e
    refine q_callV ok_R_passes (as := []) (st := []) ⟨wd_115, wd_116, wd_117, wd_7, ds_R_passes, Nat.le_of_ble_eq_true rfl, Nat.le_of_ble_eq_true rfl⟩ (s_R_passes  e_7) rfl ⟨rfl, rfl⟩ (ci := 12) rfl (fun v hv => by cases hv) (Nat.le_of_ble_eq_true rfl) (by decide +kernel) rfl ?_
    refine q_goto (off := 8) (tgt := 20) (by decide) (by decide +kernel) ?_
    cases e
    exact q_vret rfl k.1 k.2 (by decide +kernel)
theorem s_R_must {E : pE} {x1 : Int32} {h : pH}  {v : pH} (e : f_R_must x1 h = some v) : Ct E M_R_must [.ref 79, .int x1] h none v :=
  Ct_of ok_R_must [some (.ref 79), some (.int x1)] (Nat.le_of_ble_eq_true rfl) rfl (b_R_must  e ⟨rfl, rfl⟩)
def f_R_signed (h : pH) : Option pH :=
  (f_R_is (5 : Int32) h).bind fun v_1 =>
  if v_1 = 0 then
    (f_R_must (2 : Int32) h).bind fun v_4 =>
    some v_4
  else
    (f_R_passes h).bind fun v_6 =>
    (f_R_must (2 : Int32) v_6).bind fun v_8 =>
    some v_8
set_option maxHeartbeats 4000000 in
theorem b_R_signed {E : pE} {r : Option Value} {hr : pH} {h : pH}  {b : pH} (e : f_R_signed h = some b) (k : (fun v : pH => r = none ∧ hr = v) b) : Go E M_R_signed 0 [some (.ref 79)] [] h r hr := by
  unfold f_R_signed at e
  refine sl_ok ok_R_signed [.aload_n 0, .iconst 5] (pc1 := 2) (ls1 := [some (.ref 79)]) (st1 := [.int 5, .ref 79]) (h1 := h) (P := True) (by decide +kernel) rfl trivial ?_
  obtain ⟨v_1, e_2, e⟩ := bi_s e
  refine q_callV ok_R_is (as := [.int 5]) (st := []) ⟨wd_112, wd_113, wd_114, wd_7, ds_R_is, Nat.le_of_ble_eq_true rfl, Nat.le_of_ble_eq_true rfl⟩ (s_R_is  e_2) rfl ⟨rfl, rfl⟩ (ci := 12) rfl (fun v hv => by cases hv; rfl) (Nat.le_of_ble_eq_true rfl) (by decide +kernel) rfl ?_
  refine q_if_eq (off := 7) (tgt := 12) (by decide +kernel) (by decide) (fun c_3 => ?_) (fun c_3 => ?_)
  · have e := it_t c_3 e
    refine sl_ok ok_R_signed [.aload_n 0, .iconst 2] (pc1 := 14) (ls1 := [some (.ref 79)]) (st1 := [.int 2, .ref 79]) (h1 := h) (P := True) (by decide +kernel) rfl trivial ?_
    obtain ⟨v_4, e_5, e⟩ := bi_s e
    refine q_callV ok_R_must (as := [.int 2]) (st := []) ⟨wd_118, wd_119, wd_120, wd_7, ds_R_must, Nat.le_of_ble_eq_true rfl, Nat.le_of_ble_eq_true rfl⟩ (s_R_must  e_5) rfl ⟨rfl, rfl⟩ (ci := 12) rfl (fun v hv => by cases hv) (Nat.le_of_ble_eq_true rfl) (by decide +kernel) rfl ?_
    cases e
    exact q_vret rfl k.1 k.2 (by decide +kernel)
  · have e := it_f c_3 e
    refine sl_ok ok_R_signed [.aload_n 0] (pc1 := 9) (ls1 := [some (.ref 79)]) (st1 := [.ref 79]) (h1 := h) (P := True) (by decide +kernel) rfl trivial ?_
    obtain ⟨v_6, e_7, e⟩ := bi_s e
    refine q_callV ok_R_passes (as := []) (st := []) ⟨wd_115, wd_116, wd_117, wd_7, ds_R_passes, Nat.le_of_ble_eq_true rfl, Nat.le_of_ble_eq_true rfl⟩ (s_R_passes  e_7) rfl ⟨rfl, rfl⟩ (ci := 12) rfl (fun v hv => by cases hv) (Nat.le_of_ble_eq_true rfl) (by decide +kernel) rfl ?_
    refine sl_ok ok_R_signed [.aload_n 0, .iconst 2] (pc1 := 14) (ls1 := [some (.ref 79)]) (st1 := [.int 2, .ref 79]) (h1 := v_6) (P := True) (by decide +kernel) rfl trivial ?_
    obtain ⟨v_8, e_9, e⟩ := bi_s e
    refine q_callV ok_R_must (as := [.int 2]) (st := []) ⟨wd_118, wd_119, wd_120, wd_7, ds_R_must, Nat.le_of_ble_eq_true rfl, Nat.le_of_ble_eq_true rfl⟩ (s_R_must  e_9) rfl ⟨rfl, rfl⟩ (ci := 12) rfl (fun v hv => by cases hv) (Nat.le_of_ble_eq_true rfl) (by decide +kernel) rfl ?_
    cases e
    exact q_vret rfl k.1 k.2 (by decide +kernel)
theorem s_R_signed {E : pE} {h : pH}  {v : pH} (e : f_R_signed h = some v) : Ct E M_R_signed [.ref 79] h none v :=
  Ct_of ok_R_signed [some (.ref 79)] (Nat.le_of_ble_eq_true rfl) rfl (b_R_signed  e ⟨rfl, rfl⟩)
def f_R_line (h : pH) : Option pH :=
  (f_R_is (20 : Int32) h).bind fun v_1 =>
  if v_1 = 0 then
    (f_R_is (21 : Int32) h).bind fun v_4 =>
    if v_4 = 0 then
      (f_R_fail (1 : Int32) h).bind fun v_7 =>
      some v_7
    else
      (f_R_passes h).bind fun v_9 =>
      (f_R_must (2 : Int32) v_9).bind fun v_11 =>
      (f_R_must (4 : Int32) v_11).bind fun v_13 =>
      some v_13
  else
    if (hI h 79 21) = 12 then
      (f_R_fail (2 : Int32) h).bind fun v_26 =>
      some v_26
    else
      (f_R_passes (sI h 79 21 ((hI h 79 21) + 1))).bind fun v_16 =>
      (f_R_must (1 : Int32) v_16).bind fun v_18 =>
      (f_R_signed v_18).bind fun v_20 =>
      (f_R_signed v_20).bind fun v_22 =>
      (f_R_must (4 : Int32) v_22).bind fun v_24 =>
      some v_24
set_option maxHeartbeats 4000000 in
theorem b_R_line {E : pE} {r : Option Value} {hr : pH} {h : pH}  {b : pH} (e : f_R_line h = some b) (k : (fun v : pH => r = none ∧ hr = v) b) : Go E M_R_line 0 [some (.ref 79)] [] h r hr := by
  unfold f_R_line at e
  refine sl_ok ok_R_line [.aload_n 0, .bipush 20] (pc1 := 3) (ls1 := [some (.ref 79)]) (st1 := [.int 20, .ref 79]) (h1 := h) (P := True) (by decide +kernel) rfl trivial ?_
  obtain ⟨v_1, e_2, e⟩ := bi_s e
  refine q_callV ok_R_is (as := [.int 20]) (st := []) ⟨wd_112, wd_113, wd_114, wd_7, ds_R_is, Nat.le_of_ble_eq_true rfl, Nat.le_of_ble_eq_true rfl⟩ (s_R_is  e_2) rfl ⟨rfl, rfl⟩ (ci := 12) rfl (fun v hv => by cases hv; rfl) (Nat.le_of_ble_eq_true rfl) (by decide +kernel) rfl ?_
  refine q_if_eq (off := 48) (tgt := 54) (by decide +kernel) (by decide) (fun c_3 => ?_) (fun c_3 => ?_)
  · have e := it_t c_3 e
    refine sl_ok ok_R_line [.aload_n 0, .bipush 21] (pc1 := 57) (ls1 := [some (.ref 79)]) (st1 := [.int 21, .ref 79]) (h1 := h) (P := True) (by decide +kernel) rfl trivial ?_
    obtain ⟨v_4, e_5, e⟩ := bi_s e
    refine q_callV ok_R_is (as := [.int 21]) (st := []) ⟨wd_112, wd_113, wd_114, wd_7, ds_R_is, Nat.le_of_ble_eq_true rfl, Nat.le_of_ble_eq_true rfl⟩ (s_R_is  e_5) rfl ⟨rfl, rfl⟩ (ci := 12) rfl (fun v hv => by cases hv; rfl) (Nat.le_of_ble_eq_true rfl) (by decide +kernel) rfl ?_
    refine q_if_eq (off := 15) (tgt := 75) (by decide +kernel) (by decide) (fun c_6 => ?_) (fun c_6 => ?_)
    · have e := it_t c_6 e
      refine sl_ok ok_R_line [.aload_n 0, .iconst 1] (pc1 := 77) (ls1 := [some (.ref 79)]) (st1 := [.int 1, .ref 79]) (h1 := h) (P := True) (by decide +kernel) rfl trivial ?_
      obtain ⟨v_7, e_8, e⟩ := bi_s e
      refine q_callV ok_R_fail (as := [.int 1]) (st := []) ⟨wd_109, wd_110, wd_111, wd_7, ds_R_fail, Nat.le_of_ble_eq_true rfl, Nat.le_of_ble_eq_true rfl⟩ (s_R_fail  e_8) rfl ⟨rfl, rfl⟩ (ci := 12) rfl (fun v hv => by cases hv) (Nat.le_of_ble_eq_true rfl) (by decide +kernel) rfl ?_
      cases e
      exact q_vret rfl k.1 k.2 (by decide +kernel)
    · have e := it_f c_6 e
      refine sl_ok ok_R_line [.aload_n 0] (pc1 := 64) (ls1 := [some (.ref 79)]) (st1 := [.ref 79]) (h1 := h) (P := True) (by decide +kernel) rfl trivial ?_
      obtain ⟨v_9, e_10, e⟩ := bi_s e
      refine q_callV ok_R_passes (as := []) (st := []) ⟨wd_115, wd_116, wd_117, wd_7, ds_R_passes, Nat.le_of_ble_eq_true rfl, Nat.le_of_ble_eq_true rfl⟩ (s_R_passes  e_10) rfl ⟨rfl, rfl⟩ (ci := 12) rfl (fun v hv => by cases hv) (Nat.le_of_ble_eq_true rfl) (by decide +kernel) rfl ?_
      refine sl_ok ok_R_line [.aload_n 0, .iconst 2] (pc1 := 69) (ls1 := [some (.ref 79)]) (st1 := [.int 2, .ref 79]) (h1 := v_9) (P := True) (by decide +kernel) rfl trivial ?_
      obtain ⟨v_11, e_12, e⟩ := bi_s e
      refine q_callV ok_R_must (as := [.int 2]) (st := []) ⟨wd_118, wd_119, wd_120, wd_7, ds_R_must, Nat.le_of_ble_eq_true rfl, Nat.le_of_ble_eq_true rfl⟩ (s_R_must  e_12) rfl ⟨rfl, rfl⟩ (ci := 12) rfl (fun v hv => by cases hv) (Nat.le_of_ble_eq_true rfl) (by decide +kernel) rfl ?_
      refine q_goto (off := 9) (tgt := 81) (by decide) (by decide +kernel) ?_
      refine sl_ok ok_R_line [.aload_n 0, .iconst 4] (pc1 := 83) (ls1 := [some (.ref 79)]) (st1 := [.int 4, .ref 79]) (h1 := v_11) (P := True) (by decide +kernel) rfl trivial ?_
      obtain ⟨v_13, e_14, e⟩ := bi_s e
      refine q_callV ok_R_must (as := [.int 4]) (st := []) ⟨wd_118, wd_119, wd_120, wd_7, ds_R_must, Nat.le_of_ble_eq_true rfl, Nat.le_of_ble_eq_true rfl⟩ (s_R_must  e_14) rfl ⟨rfl, rfl⟩ (ci := 12) rfl (fun v hv => by cases hv) (Nat.le_of_ble_eq_true rfl) (by decide +kernel) rfl ?_
      cases e
      exact q_vret rfl k.1 k.2 (by decide +kernel)
  · have e := it_f c_3 e
    refine sl_ok ok_R_line [.aload_n 0, .getfield 158, .bipush 12] (pc1 := 15) (ls1 := [some (.ref 79)]) (st1 := [.int 12, .int (hI h 79 21)]) (h1 := h) (P := (ak 79 = 0 ∧ cx 79 = 12) ∧ True) (by decide +kernel) rfl ⟨⟨rfl, rfl⟩, trivial⟩ ?_
    refine q_icmp_ne (off := 9) (tgt := 24) (by decide +kernel) (by decide) (fun c_15 => ?_) (fun c_15 => ?_)
    · have e := it_f c_15 e
      refine sl_ok ok_R_line [.aload_n 0, .dup, .getfield 158, .iconst 1, .iadd, .putfield 158, .aload_n 0] (pc1 := 35) (ls1 := [some (.ref 79)]) (st1 := [.ref 79]) (h1 := (sI h 79 21 ((hI h 79 21) + 1))) (P := (ak 79 = 0 ∧ cx 79 = 12) ∧ (ak 79 = 0 ∧ cx 79 = 12) ∧ True) (by decide +kernel) rfl ⟨⟨rfl, rfl⟩, ⟨rfl, rfl⟩, trivial⟩ ?_
      obtain ⟨v_16, e_17, e⟩ := bi_s e
      refine q_callV ok_R_passes (as := []) (st := []) ⟨wd_115, wd_116, wd_117, wd_7, ds_R_passes, Nat.le_of_ble_eq_true rfl, Nat.le_of_ble_eq_true rfl⟩ (s_R_passes  e_17) rfl ⟨rfl, rfl⟩ (ci := 12) rfl (fun v hv => by cases hv) (Nat.le_of_ble_eq_true rfl) (by decide +kernel) rfl ?_
      refine sl_ok ok_R_line [.aload_n 0, .iconst 1] (pc1 := 40) (ls1 := [some (.ref 79)]) (st1 := [.int 1, .ref 79]) (h1 := v_16) (P := True) (by decide +kernel) rfl trivial ?_
      obtain ⟨v_18, e_19, e⟩ := bi_s e
      refine q_callV ok_R_must (as := [.int 1]) (st := []) ⟨wd_118, wd_119, wd_120, wd_7, ds_R_must, Nat.le_of_ble_eq_true rfl, Nat.le_of_ble_eq_true rfl⟩ (s_R_must  e_19) rfl ⟨rfl, rfl⟩ (ci := 12) rfl (fun v hv => by cases hv) (Nat.le_of_ble_eq_true rfl) (by decide +kernel) rfl ?_
      refine sl_ok ok_R_line [.aload_n 0] (pc1 := 44) (ls1 := [some (.ref 79)]) (st1 := [.ref 79]) (h1 := v_18) (P := True) (by decide +kernel) rfl trivial ?_
      obtain ⟨v_20, e_21, e⟩ := bi_s e
      refine q_callV ok_R_signed (as := []) (st := []) ⟨wd_121, wd_122, wd_123, wd_7, ds_R_signed, Nat.le_of_ble_eq_true rfl, Nat.le_of_ble_eq_true rfl⟩ (s_R_signed  e_21) rfl ⟨rfl, rfl⟩ (ci := 12) rfl (fun v hv => by cases hv) (Nat.le_of_ble_eq_true rfl) (by decide +kernel) rfl ?_
      refine sl_ok ok_R_line [.aload_n 0] (pc1 := 48) (ls1 := [some (.ref 79)]) (st1 := [.ref 79]) (h1 := v_20) (P := True) (by decide +kernel) rfl trivial ?_
      obtain ⟨v_22, e_23, e⟩ := bi_s e
      refine q_callV ok_R_signed (as := []) (st := []) ⟨wd_121, wd_122, wd_123, wd_7, ds_R_signed, Nat.le_of_ble_eq_true rfl, Nat.le_of_ble_eq_true rfl⟩ (s_R_signed  e_23) rfl ⟨rfl, rfl⟩ (ci := 12) rfl (fun v hv => by cases hv) (Nat.le_of_ble_eq_true rfl) (by decide +kernel) rfl ?_
      refine q_goto (off := 30) (tgt := 81) (by decide) (by decide +kernel) ?_
      refine sl_ok ok_R_line [.aload_n 0, .iconst 4] (pc1 := 83) (ls1 := [some (.ref 79)]) (st1 := [.int 4, .ref 79]) (h1 := v_22) (P := True) (by decide +kernel) rfl trivial ?_
      obtain ⟨v_24, e_25, e⟩ := bi_s e
      refine q_callV ok_R_must (as := [.int 4]) (st := []) ⟨wd_118, wd_119, wd_120, wd_7, ds_R_must, Nat.le_of_ble_eq_true rfl, Nat.le_of_ble_eq_true rfl⟩ (s_R_must  e_25) rfl ⟨rfl, rfl⟩ (ci := 12) rfl (fun v hv => by cases hv) (Nat.le_of_ble_eq_true rfl) (by decide +kernel) rfl ?_
      cases e
      exact q_vret rfl k.1 k.2 (by decide +kernel)
    · have e := it_t c_15 e
      refine sl_ok ok_R_line [.aload_n 0, .iconst 2] (pc1 := 20) (ls1 := [some (.ref 79)]) (st1 := [.int 2, .ref 79]) (h1 := h) (P := True) (by decide +kernel) rfl trivial ?_
      obtain ⟨v_26, e_27, e⟩ := bi_s e
      refine q_callV ok_R_fail (as := [.int 2]) (st := []) ⟨wd_109, wd_110, wd_111, wd_7, ds_R_fail, Nat.le_of_ble_eq_true rfl, Nat.le_of_ble_eq_true rfl⟩ (s_R_fail  e_27) rfl ⟨rfl, rfl⟩ (ci := 12) rfl (fun v hv => by cases hv) (Nat.le_of_ble_eq_true rfl) (by decide +kernel) rfl ?_
      cases e
      exact q_vret rfl k.1 k.2 (by decide +kernel)
theorem s_R_line {E : pE} {h : pH}  {v : pH} (e : f_R_line h = some v) : Ct E M_R_line [.ref 79] h none v :=
  Ct_of ok_R_line [some (.ref 79)] (Nat.le_of_ble_eq_true rfl) rfl (b_R_line  e ⟨rfl, rfl⟩)
