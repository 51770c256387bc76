def f_C_fresh (x1 : Int32) (x2 : Int32) (x3 : Int32) (h : pH) : Option (Int32 × pH) :=
  if x3 < 0 then
    some ((-1), h)
  else
    if 2 < x3 then
      some ((-1), h)
    else
      if 12 ≤ (hI h 8 2) then
        some ((-1), h)
      else
        (f_Cloud_isFree 8 x1 x2 h).bind fun v_4 =>
        if v_4 = 0 then
          some ((-1), h)
        else
          (f_Cloud_takeFrom 11 8 h).bind fun v_7 =>
          (f_Cloud_append 11 x1 x2 v_7).bind fun v_9 =>
          if x3 = 0 then
            (f_Hulls_peel 11 v_9).bind fun v_17 =>
            some ((hI v_17 14 2), v_17)
          else
            if x3 = 1 then
              (f_Depths_greatestOf 11 v_9).bind fun v_15 =>
              some (v_15.1, v_15.2)
            else
              (f_Hulls_cornersOf 11 (f_Cloud_everyone 11 v_9) v_9).bind fun v_13 =>
              some ((f_J_bitCount v_13), v_9)
set_option maxHeartbeats 4000000 in
theorem b_C_fresh {E : pE} {r : Option Value} {hr : pH} {x1 : Int32} {x2 : Int32} {x3 : Int32} {h : pH}  {b : (Int32 × pH)} (e : f_C_fresh x1 x2 x3 h = some b) (k : (fun v : (Int32 × pH) => r = some (.int v.1) ∧ hr = v.2) b) : Go E M_C_fresh 0 [some (.ref 0), some (.int x1), some (.int x2), some (.int x3)] [] h r hr := by
  unfold f_C_fresh at e
  refine sl_ok ok_C_fresh [.iload_n 3] (pc1 := 1) (ls1 := [some (.ref 0), some (.int x1), some (.int x2), some (.int x3)]) (st1 := [.int x3]) (h1 := h) (P := True) (by decide +kernel) rfl trivial ?_
  refine q_if_lt (off := 32) (tgt := 33) (by decide +kernel) (by decide) (fun c_1 => ?_) (fun c_1 => ?_)
  · have e := it_t c_1 e
    refine sl_ok ok_C_fresh [.iconst (-1)] (pc1 := 34) (ls1 := [some (.ref 0), some (.int x1), some (.int x2), some (.int x3)]) (st1 := [.int (-1)]) (h1 := h) (P := True) (by decide +kernel) rfl trivial ?_
    cases e
    exact q_iret rfl k.1 k.2 (by decide +kernel)
  · have e := it_f c_1 e
    refine sl_ok ok_C_fresh [.iload_n 3, .iconst 2] (pc1 := 6) (ls1 := [some (.ref 0), some (.int x1), some (.int x2), some (.int x3)]) (st1 := [.int 2, .int x3]) (h1 := h) (P := True) (by decide +kernel) rfl trivial ?_
    refine q_icmp_gt (off := 27) (tgt := 33) (by decide +kernel) (by decide) (fun c_2 => ?_) (fun c_2 => ?_)
    · have e := it_t c_2 e
      refine sl_ok ok_C_fresh [.iconst (-1)] (pc1 := 34) (ls1 := [some (.ref 0), some (.int x1), some (.int x2), some (.int x3)]) (st1 := [.int (-1)]) (h1 := h) (P := True) (by decide +kernel) rfl trivial ?_
      cases e
      exact q_iret rfl k.1 k.2 (by decide +kernel)
    · have e := it_f c_2 e
      refine sl_ok ok_C_fresh [.aload_n 0, .getfield 28, .getfield 120, .bipush 12] (pc1 := 18) (ls1 := [some (.ref 0), some (.int x1), some (.int x2), some (.int x3)]) (st1 := [.int 12, .int (hI h 8 2)]) (h1 := h) (P := (ak 0 = 0 ∧ cx 0 = 11) ∧ (ak 8 = 0 ∧ cx 8 = 0) ∧ True) (by decide +kernel) rfl ⟨⟨rfl, rfl⟩, ⟨rfl, rfl⟩, trivial⟩ ?_
      refine q_icmp_ge (off := 15) (tgt := 33) (by decide +kernel) (by decide) (fun c_3 => ?_) (fun c_3 => ?_)
      · have e := it_t c_3 e
        refine sl_ok ok_C_fresh [.iconst (-1)] (pc1 := 34) (ls1 := [some (.ref 0), some (.int x1), some (.int x2), some (.int x3)]) (st1 := [.int (-1)]) (h1 := h) (P := True) (by decide +kernel) rfl trivial ?_
        cases e
        exact q_iret rfl k.1 k.2 (by decide +kernel)
      · have e := it_f c_3 e
        refine sl_ok ok_C_fresh [.aload_n 0, .getfield 28, .iload_n 1, .iload_n 2] (pc1 := 27) (ls1 := [some (.ref 0), some (.int x1), some (.int x2), some (.int x3)]) (st1 := [.int x2, .int x1, .ref 8]) (h1 := h) (P := (ak 0 = 0 ∧ cx 0 = 11) ∧ True) (by decide +kernel) rfl ⟨⟨rfl, rfl⟩, trivial⟩ ?_
        obtain ⟨v_4, e_5, e⟩ := bi_s e
        refine q_callV ok_Cloud_isFree (as := [.int x1, .int x2]) (st := []) ⟨wd_146, wd_53, wd_54, wd_14, ds_Cloud_isFree, Nat.le_of_ble_eq_true rfl, Nat.le_of_ble_eq_true rfl⟩ (s_Cloud_isFree ⟨rfl, rfl⟩ e_5) rfl ⟨rfl, rfl⟩ (ci := 0) rfl (fun v hv => by cases hv; rfl) (Nat.le_of_ble_eq_true rfl) (by decide +kernel) rfl ?_
        refine q_if_ne (off := 5) (tgt := 35) (by decide +kernel) (by decide) (fun c_6 => ?_) (fun c_6 => ?_)
        · have e := it_f c_6 e
          refine sl_ok ok_C_fresh [.aload_n 0, .getfield 32, .aload_n 0, .getfield 28] (pc1 := 43) (ls1 := [some (.ref 0), some (.int x1), some (.int x2), some (.int x3)]) (st1 := [.ref 8, .ref 11]) (h1 := h) (P := (ak 0 = 0 ∧ cx 0 = 11) ∧ (ak 0 = 0 ∧ cx 0 = 11) ∧ True) (by decide +kernel) rfl ⟨⟨rfl, rfl⟩, ⟨rfl, rfl⟩, trivial⟩ ?_
          obtain ⟨v_7, e_8, e⟩ := bi_s e
          refine q_callV ok_Cloud_takeFrom (as := [.ref 8]) (st := []) ⟨wd_84, wd_85, wd_86, wd_14, ds_Cloud_takeFrom, Nat.le_of_ble_eq_true rfl, Nat.le_of_ble_eq_true rfl⟩ (s_Cloud_takeFrom ⟨rfl, rfl⟩ ⟨rfl, rfl⟩ e_8) rfl ⟨rfl, rfl⟩ (ci := 0) rfl (fun v hv => by cases hv) (Nat.le_of_ble_eq_true rfl) (by decide +kernel) rfl ?_
          refine sl_ok ok_C_fresh [.aload_n 0, .getfield 32, .iload_n 1, .iload_n 2] (pc1 := 52) (ls1 := [some (.ref 0), some (.int x1), some (.int x2), some (.int x3)]) (st1 := [.int x2, .int x1, .ref 11]) (h1 := v_7) (P := (ak 0 = 0 ∧ cx 0 = 11) ∧ True) (by decide +kernel) rfl ⟨⟨rfl, rfl⟩, trivial⟩ ?_
          obtain ⟨v_9, e_10, e⟩ := bi_s e
          refine q_callV ok_Cloud_append (as := [.int x1, .int x2]) (st := []) ⟨wd_150, wd_56, wd_57, wd_14, ds_Cloud_append, Nat.le_of_ble_eq_true rfl, Nat.le_of_ble_eq_true rfl⟩ (s_Cloud_append ⟨rfl, rfl⟩ e_10) rfl ⟨rfl, rfl⟩ (ci := 0) rfl (fun v hv => by cases hv) (Nat.le_of_ble_eq_true rfl) (by decide +kernel) rfl ?_
          refine sl_ok ok_C_fresh [.iload_n 3] (pc1 := 56) (ls1 := [some (.ref 0), some (.int x1), some (.int x2), some (.int x3)]) (st1 := [.int x3]) (h1 := v_9) (P := True) (by decide +kernel) rfl trivial ?_
          refine q_if_ne (off := 22) (tgt := 78) (by decide +kernel) (by decide) (fun c_11 => ?_) (fun c_11 => ?_)
          · have e := it_f c_11 e
            refine sl_ok ok_C_fresh [.iload_n 3, .iconst 1] (pc1 := 80) (ls1 := [some (.ref 0), some (.int x1), some (.int x2), some (.int x3)]) (st1 := [.int 1, .int x3]) (h1 := v_9) (P := True) (by decide +kernel) rfl trivial ?_
            refine q_icmp_ne (off := 15) (tgt := 95) (by decide +kernel) (by decide) (fun c_12 => ?_) (fun c_12 => ?_)
            · have e := it_f c_12 e
              refine sl_ok ok_C_fresh [.aload_n 0, .getfield 32, .aload_n 0, .getfield 32] (pc1 := 103) (ls1 := [some (.ref 0), some (.int x1), some (.int x2), some (.int x3)]) (st1 := [.ref 11, .ref 11]) (h1 := v_9) (P := (ak 0 = 0 ∧ cx 0 = 11) ∧ (ak 0 = 0 ∧ cx 0 = 11) ∧ True) (by decide +kernel) rfl ⟨⟨rfl, rfl⟩, ⟨rfl, rfl⟩, trivial⟩ ?_
              refine q_callV ok_Cloud_everyone (as := []) (st := [.ref 11]) ⟨wd_323, wd_209, wd_210, wd_14, ds_Cloud_everyone, Nat.le_of_ble_eq_true rfl, Nat.le_of_ble_eq_true rfl⟩ (s_Cloud_everyone ⟨rfl, rfl⟩) rfl ⟨rfl, rfl⟩ (ci := 0) rfl (fun v hv => by cases hv; rfl) (Nat.le_of_ble_eq_true rfl) (by decide +kernel) rfl ?_
              obtain ⟨v_13, e_14, e⟩ := bi_s e
              refine q_callS ok_Hulls_cornersOf (as := [.ref 11, .int (f_Cloud_everyone 11 v_9)]) (st := []) ⟨wd_246, wd_247, wd_207, ds_Hulls_cornersOf, Nat.le_of_ble_eq_true rfl, Nat.le_of_ble_eq_true rfl⟩ (s_Hulls_cornersOf ⟨rfl, rfl⟩ e_14) rfl (fun v hv => by cases hv; rfl) (Nat.le_of_ble_eq_true rfl) (by decide +kernel) rfl ?_
              refine q_callS ok_J_bitCount (as := [.int v_13]) (st := []) ⟨wd_301, wd_302, wd_303, ds_J_bitCount, Nat.le_of_ble_eq_true rfl, Nat.le_of_ble_eq_true rfl⟩ (s_J_bitCount ) rfl (fun v hv => by cases hv; rfl) (Nat.le_of_ble_eq_true rfl) (by decide +kernel) rfl ?_
              cases e
              exact q_iret rfl k.1 k.2 (by decide +kernel)
            · have e := it_t c_12 e
              refine sl_ok ok_C_fresh [.aload_n 0, .getfield 45, .aload_n 0, .getfield 32] (pc1 := 91) (ls1 := [some (.ref 0), some (.int x1), some (.int x2), some (.int x3)]) (st1 := [.ref 11, .ref 17]) (h1 := v_9) (P := (ak 0 = 0 ∧ cx 0 = 11) ∧ (ak 0 = 0 ∧ cx 0 = 11) ∧ True) (by decide +kernel) rfl ⟨⟨rfl, rfl⟩, ⟨rfl, rfl⟩, trivial⟩ ?_
              obtain ⟨v_15, e_16, e⟩ := bi_s e
              refine q_callV ok_Depths_greatestOf (as := [.ref 11]) (st := []) ⟨wd_509, wd_510, wd_511, wd_217, ds_Depths_greatestOf, Nat.le_of_ble_eq_true rfl, Nat.le_of_ble_eq_true rfl⟩ (s_Depths_greatestOf ⟨rfl, rfl⟩ e_16) rfl ⟨rfl, rfl⟩ (ci := 2) rfl (fun v hv => by cases hv; rfl) (Nat.le_of_ble_eq_true rfl) (by decide +kernel) rfl ?_
              cases e
              exact q_iret rfl k.1 k.2 (by decide +kernel)
          · have e := it_t c_11 e
            refine sl_ok ok_C_fresh [.aload_n 0, .getfield 38, .aload_n 0, .getfield 32] (pc1 := 67) (ls1 := [some (.ref 0), some (.int x1), some (.int x2), some (.int x3)]) (st1 := [.ref 11, .ref 14]) (h1 := v_9) (P := (ak 0 = 0 ∧ cx 0 = 11) ∧ (ak 0 = 0 ∧ cx 0 = 11) ∧ True) (by decide +kernel) rfl ⟨⟨rfl, rfl⟩, ⟨rfl, rfl⟩, trivial⟩ ?_
            obtain ⟨v_17, e_18, e⟩ := bi_s e
            refine q_callV ok_Hulls_peel (as := [.ref 11]) (st := []) ⟨wd_237, wd_238, wd_239, wd_207, ds_Hulls_peel, Nat.le_of_ble_eq_true rfl, Nat.le_of_ble_eq_true rfl⟩ (s_Hulls_peel ⟨rfl, rfl⟩ e_18) rfl ⟨rfl, rfl⟩ (ci := 4) rfl (fun v hv => by cases hv) (Nat.le_of_ble_eq_true rfl) (by decide +kernel) rfl ?_
            refine sl_ok ok_C_fresh [.aload_n 0, .getfield 38, .getfield 226] (pc1 := 77) (ls1 := [some (.ref 0), some (.int x1), some (.int x2), some (.int x3)]) (st1 := [.int (hI v_17 14 2)]) (h1 := v_17) (P := (ak 0 = 0 ∧ cx 0 = 11) ∧ (ak 14 = 0 ∧ cx 14 = 4) ∧ True) (by decide +kernel) rfl ⟨⟨rfl, rfl⟩, ⟨rfl, rfl⟩, trivial⟩ ?_
            cases e
            exact q_iret rfl k.1 k.2 (by decide +kernel)
        · have e := it_t c_6 e
          refine sl_ok ok_C_fresh [.iconst (-1)] (pc1 := 34) (ls1 := [some (.ref 0), some (.int x1), some (.int x2), some (.int x3)]) (st1 := [.int (-1)]) (h1 := h) (P := True) (by decide +kernel) rfl trivial ?_
          cases e
          exact q_iret rfl k.1 k.2 (by decide +kernel)
theorem s_C_fresh {E : pE} {x1 : Int32} {x2 : Int32} {x3 : Int32} {h : pH}  {v : (Int32 × pH)} (e : f_C_fresh x1 x2 x3 h = some v) : Ct E M_C_fresh [.ref 0, .int x1, .int x2, .int x3] h (some (.int v.1)) v.2 :=
  Ct_of ok_C_fresh [some (.ref 0), some (.int x1), some (.int x2), some (.int x3)] (Nat.le_of_ble_eq_true rfl) rfl (b_C_fresh  e ⟨rfl, rfl⟩)
def f_R_fresh (x1 : Int32) (x2 : Int32) (x3 : Int32) (h : pH) : Option (Int32 × pH) :=
  if (f_R_in x3 (0 : Int32) (2 : Int32)) = 0 then
    some ((-1), h)
  else
    if (f_R_all h) = 12 then
      some ((-1), h)
    else
      (f_R_canBe x1 x2 h).bind fun v_3 =>
      if v_3 = 0 then
        some ((-1), h)
      else
        (f_R_lays3 (f_R_all h) x1 x2 h).bind fun v_6 =>
        if x3 = 0 then
          (f_R_laysLayers (sI v_6 87 0 ((hI v_6 87 0) + 1))).bind fun v_16 =>
          some (v_16.1, (sI v_16.2 87 0 ((hI v_16.2 87 0) - 1)))
        else
          if x3 = 1 then
            (f_R_deepestOf (sI v_6 87 0 ((hI v_6 87 0) + 1))).bind fun v_14 =>
            some (v_14.1, (sI v_14.2 87 0 ((hI v_14.2 87 0) - 1)))
          else
            (f_R_cornersOf (f_R_full (sI v_6 87 0 ((hI v_6 87 0) + 1))) (sI v_6 87 0 ((hI v_6 87 0) + 1))).bind fun v_10 =>
            (f_R_bitsOf v_10).bind fun v_12 =>
            some (v_12, (sI (sI v_6 87 0 ((hI v_6 87 0) + 1)) 87 0 ((hI (sI v_6 87 0 ((hI v_6 87 0) + 1)) 87 0) - 1)))
set_option maxHeartbeats 4000000 in
theorem b_R_fresh {E : pE} {r : Option Value} {hr : pH} {x1 : Int32} {x2 : Int32} {x3 : Int32} {h : pH}  {b : (Int32 × pH)} (e : f_R_fresh x1 x2 x3 h = some b) (k : (fun v : (Int32 × pH) => r = some (.int v.1) ∧ hr = v.2) b) : Go E M_R_fresh 0 [some (.ref 79), some (.int x1), some (.int x2), some (.int x3), none] [] h r hr := by
  unfold f_R_fresh at e
  refine sl_ok ok_R_fresh [.iload_n 3, .iconst 0, .iconst 2] (pc1 := 3) (ls1 := [some (.ref 79), some (.int x1), some (.int x2), some (.int x3), none]) (st1 := [.int 2, .int 0, .int x3]) (h1 := h) (P := True) (by decide +kernel) rfl trivial ?_
  refine q_callS ok_R_in (as := [.int x3, .int 0, .int 2]) (st := []) ⟨wd_127, wd_128, wd_7, ds_R_in, Nat.le_of_ble_eq_true rfl, Nat.le_of_ble_eq_true rfl⟩ (s_R_in ) rfl (fun v hv => by cases hv; rfl) (Nat.le_of_ble_eq_true rfl) (by decide +kernel) rfl ?_
  refine q_if_eq (off := 21) (tgt := 27) (by decide +kernel) (by decide) (fun c_1 => ?_) (fun c_1 => ?_)
  · have e := it_t c_1 e
    refine sl_ok ok_R_fresh [.iconst (-1)] (pc1 := 28) (ls1 := [some (.ref 79), some (.int x1), some (.int x2), some (.int x3), none]) (st1 := [.int (-1)]) (h1 := h) (P := True) (by decide +kernel) rfl trivial ?_
    cases e
    exact q_iret rfl k.1 k.2 (by decide +kernel)
  · have e := it_f c_1 e
    refine sl_ok ok_R_fresh [.aload_n 0] (pc1 := 10) (ls1 := [some (.ref 79), some (.int x1), some (.int x2), some (.int x3), none]) (st1 := [.ref 79]) (h1 := h) (P := True) (by decide +kernel) rfl trivial ?_
    refine q_callV ok_R_all (as := []) (st := []) ⟨wd_151, wd_152, wd_153, wd_7, ds_R_all, Nat.le_of_ble_eq_true rfl, Nat.le_of_ble_eq_true rfl⟩ (s_R_all ) rfl ⟨rfl, rfl⟩ (ci := 12) rfl (fun v hv => by cases hv; rfl) (Nat.le_of_ble_eq_true rfl) (by decide +kernel) rfl ?_
    refine sl_ok ok_R_fresh [.bipush 12] (pc1 := 15) (ls1 := [some (.ref 79), some (.int x1), some (.int x2), some (.int x3), none]) (st1 := [.int 12, .int (f_R_all h)]) (h1 := h) (P := True) (by decide +kernel) rfl trivial ?_
    refine q_icmp_eq (off := 12) (tgt := 27) (by decide +kernel) (by decide) (fun c_2 => ?_) (fun c_2 => ?_)
    · have e := it_t c_2 e
      refine sl_ok ok_R_fresh [.iconst (-1)] (pc1 := 28) (ls1 := [some (.ref 79), some (.int x1), some (.int x2), some (.int x3), none]) (st1 := [.int (-1)]) (h1 := h) (P := True) (by decide +kernel) rfl trivial ?_
      cases e
      exact q_iret rfl k.1 k.2 (by decide +kernel)
    · have e := it_f c_2 e
      refine sl_ok ok_R_fresh [.aload_n 0, .iload_n 1, .iload_n 2] (pc1 := 21) (ls1 := [some (.ref 79), some (.int x1), some (.int x2), some (.int x3), none]) (st1 := [.int x2, .int x1, .ref 79]) (h1 := h) (P := True) (by decide +kernel) rfl trivial ?_
      obtain ⟨v_3, e_4, e⟩ := bi_s e
      refine q_callV ok_R_canBe (as := [.int x1, .int x2]) (st := []) ⟨wd_163, wd_164, wd_165, wd_7, ds_R_canBe, Nat.le_of_ble_eq_true rfl, Nat.le_of_ble_eq_true rfl⟩ (s_R_canBe  e_4) rfl ⟨rfl, rfl⟩ (ci := 12) rfl (fun v hv => by cases hv; rfl) (Nat.le_of_ble_eq_true rfl) (by decide +kernel) rfl ?_
      refine q_if_ne (off := 5) (tgt := 29) (by decide +kernel) (by decide) (fun c_5 => ?_) (fun c_5 => ?_)
      · have e := it_f c_5 e
        refine sl_ok ok_R_fresh [.aload_n 0, .aload_n 0] (pc1 := 31) (ls1 := [some (.ref 79), some (.int x1), some (.int x2), some (.int x3), none]) (st1 := [.ref 79, .ref 79]) (h1 := h) (P := True) (by decide +kernel) rfl trivial ?_
        refine q_callV ok_R_all (as := []) (st := [.ref 79]) ⟨wd_151, wd_152, wd_153, wd_7, ds_R_all, Nat.le_of_ble_eq_true rfl, Nat.le_of_ble_eq_true rfl⟩ (s_R_all ) rfl ⟨rfl, rfl⟩ (ci := 12) rfl (fun v hv => by cases hv; rfl) (Nat.le_of_ble_eq_true rfl) (by decide +kernel) rfl ?_
        refine sl_ok ok_R_fresh [.iload_n 1, .iload_n 2] (pc1 := 36) (ls1 := [some (.ref 79), some (.int x1), some (.int x2), some (.int x3), none]) (st1 := [.int x2, .int x1, .int (f_R_all h), .ref 79]) (h1 := h) (P := True) (by decide +kernel) rfl trivial ?_
        obtain ⟨v_6, e_7, e⟩ := bi_s e
        refine q_callV ok_R_lays3 (as := [.int (f_R_all h), .int x1, .int x2]) (st := []) ⟨wd_169, wd_170, wd_171, wd_7, ds_R_lays3, Nat.le_of_ble_eq_true rfl, Nat.le_of_ble_eq_true rfl⟩ (s_R_lays3  e_7) rfl ⟨rfl, rfl⟩ (ci := 12) rfl (fun v hv => by cases hv) (Nat.le_of_ble_eq_true rfl) (by decide +kernel) rfl ?_
        refine sl_ok ok_R_fresh [.aload_n 0, .getfield 40, .iconst 0, .dup2, .iaload, .iconst 1, .iadd, .iastore, .iload_n 3] (pc1 := 50) (ls1 := [some (.ref 79), some (.int x1), some (.int x2), some (.int x3), none]) (st1 := [.int x3]) (h1 := (sI v_6 87 0 ((hI v_6 87 0) + 1))) (P := (ak 79 = 0 ∧ cx 79 = 12) ∧ (ak 87 = 1 ∧ ¬ ((0 : Int32) < 0 ∨ cx 87 ≤ (0 : Int32).toNatClampNeg)) ∧ (ak 87 = 1 ∧ ¬ ((0 : Int32) < 0 ∨ cx 87 ≤ (0 : Int32).toNatClampNeg)) ∧ True) (by decide +kernel) rfl ⟨⟨rfl, rfl⟩, ⟨rfl, (by decide)⟩, ⟨rfl, (by decide)⟩, trivial⟩ ?_
        refine q_if_ne (off := 10) (tgt := 60) (by decide +kernel) (by decide) (fun c_8 => ?_) (fun c_8 => ?_)
        · have e := it_f c_8 e
          refine sl_ok ok_R_fresh [.iload_n 3, .iconst 1] (pc1 := 62) (ls1 := [some (.ref 79), some (.int x1), some (.int x2), some (.int x3), none]) (st1 := [.int 1, .int x3]) (h1 := (sI v_6 87 0 ((hI v_6 87 0) + 1))) (P := True) (by decide +kernel) rfl trivial ?_
          refine q_icmp_ne (off := 10) (tgt := 72) (by decide +kernel) (by decide) (fun c_9 => ?_) (fun c_9 => ?_)
          · have e := it_f c_9 e
            refine sl_ok ok_R_fresh [.aload_n 0, .aload_n 0] (pc1 := 74) (ls1 := [some (.ref 79), some (.int x1), some (.int x2), some (.int x3), none]) (st1 := [.ref 79, .ref 79]) (h1 := (sI v_6 87 0 ((hI v_6 87 0) + 1))) (P := True) (by decide +kernel) rfl trivial ?_
            refine q_callV ok_R_full (as := []) (st := [.ref 79]) ⟨wd_266, wd_267, wd_268, wd_7, ds_R_full, Nat.le_of_ble_eq_true rfl, Nat.le_of_ble_eq_true rfl⟩ (s_R_full ) rfl ⟨rfl, rfl⟩ (ci := 12) rfl (fun v hv => by cases hv; rfl) (Nat.le_of_ble_eq_true rfl) (by decide +kernel) rfl ?_
            obtain ⟨v_10, e_11, e⟩ := bi_s e
            refine q_callV ok_R_cornersOf (as := [.int (f_R_full (sI v_6 87 0 ((hI v_6 87 0) + 1)))]) (st := []) ⟨wd_283, wd_284, wd_285, wd_7, ds_R_cornersOf, Nat.le_of_ble_eq_true rfl, Nat.le_of_ble_eq_true rfl⟩ (s_R_cornersOf  e_11) rfl ⟨rfl, rfl⟩ (ci := 12) rfl (fun v hv => by cases hv; rfl) (Nat.le_of_ble_eq_true rfl) (by decide +kernel) rfl ?_
            obtain ⟨v_12, e_13, e⟩ := bi_s e
            refine q_callS ok_R_bitsOf (as := [.int v_10]) (st := []) ⟨wd_304, wd_305, wd_7, ds_R_bitsOf, Nat.le_of_ble_eq_true rfl, Nat.le_of_ble_eq_true rfl⟩ (s_R_bitsOf  e_13) rfl (fun v hv => by cases hv; rfl) (Nat.le_of_ble_eq_true rfl) (by decide +kernel) rfl ?_
            refine sl_ok ok_R_fresh [.istore 4, .aload_n 0, .getfield 40, .iconst 0, .dup2, .iaload, .iconst 1, .isub, .iastore, .iload 4] (pc1 := 97) (ls1 := [some (.ref 79), some (.int x1), some (.int x2), some (.int x3), some (.int v_12)]) (st1 := [.int v_12]) (h1 := (sI (sI v_6 87 0 ((hI v_6 87 0) + 1)) 87 0 ((hI (sI v_6 87 0 ((hI v_6 87 0) + 1)) 87 0) - 1))) (P := (ak 79 = 0 ∧ cx 79 = 12) ∧ (ak 87 = 1 ∧ ¬ ((0 : Int32) < 0 ∨ cx 87 ≤ (0 : Int32).toNatClampNeg)) ∧ (ak 87 = 1 ∧ ¬ ((0 : Int32) < 0 ∨ cx 87 ≤ (0 : Int32).toNatClampNeg)) ∧ True) (by decide +kernel) rfl ⟨⟨rfl, rfl⟩, ⟨rfl, (by decide)⟩, ⟨rfl, (by decide)⟩, trivial⟩ ?_
            cases e
            exact q_iret rfl k.1 k.2 (by decide +kernel)
          · have e := it_t c_9 e
            refine sl_ok ok_R_fresh [.aload_n 0] (pc1 := 66) (ls1 := [some (.ref 79), some (.int x1), some (.int x2), some (.int x3), none]) (st1 := [.ref 79]) (h1 := (sI v_6 87 0 ((hI v_6 87 0) + 1))) (P := True) (by decide +kernel) rfl trivial ?_
            obtain ⟨v_14, e_15, e⟩ := bi_s e
            refine q_callV ok_R_deepestOf (as := []) (st := []) ⟨wd_391, wd_392, wd_393, wd_7, ds_R_deepestOf, Nat.le_of_ble_eq_true rfl, Nat.le_of_ble_eq_true rfl⟩ (s_R_deepestOf  e_15) rfl ⟨rfl, rfl⟩ (ci := 12) rfl (fun v hv => by cases hv; rfl) (Nat.le_of_ble_eq_true rfl) (by decide +kernel) rfl ?_
            refine q_goto (off := 14) (tgt := 83) (by decide) (by decide +kernel) ?_
            refine sl_ok ok_R_fresh [.istore 4, .aload_n 0, .getfield 40, .iconst 0, .dup2, .iaload, .iconst 1, .isub, .iastore, .iload 4] (pc1 := 97) (ls1 := [some (.ref 79), some (.int x1), some (.int x2), some (.int x3), some (.int v_14.1)]) (st1 := [.int v_14.1]) (h1 := (sI v_14.2 87 0 ((hI v_14.2 87 0) - 1))) (P := (ak 79 = 0 ∧ cx 79 = 12) ∧ (ak 87 = 1 ∧ ¬ ((0 : Int32) < 0 ∨ cx 87 ≤ (0 : Int32).toNatClampNeg)) ∧ (ak 87 = 1 ∧ ¬ ((0 : Int32) < 0 ∨ cx 87 ≤ (0 : Int32).toNatClampNeg)) ∧ True) (by decide +kernel) rfl ⟨⟨rfl, rfl⟩, ⟨rfl, (by decide)⟩, ⟨rfl, (by decide)⟩, trivial⟩ ?_
            cases e
            exact q_iret rfl k.1 k.2 (by decide +kernel)
        · have e := it_t c_8 e
          refine sl_ok ok_R_fresh [.aload_n 0] (pc1 := 54) (ls1 := [some (.ref 79), some (.int x1), some (.int x2), some (.int x3), none]) (st1 := [.ref 79]) (h1 := (sI v_6 87 0 ((hI v_6 87 0) + 1))) (P := True) (by decide +kernel) rfl trivial ?_
          obtain ⟨v_16, e_17, e⟩ := bi_s e
          refine q_callV ok_R_laysLayers (as := []) (st := []) ⟨wd_272, wd_273, wd_274, wd_7, ds_R_laysLayers, Nat.le_of_ble_eq_true rfl, Nat.le_of_ble_eq_true rfl⟩ (s_R_laysLayers  e_17) rfl ⟨rfl, rfl⟩ (ci := 12) rfl (fun v hv => by cases hv; rfl) (Nat.le_of_ble_eq_true rfl) (by decide +kernel) rfl ?_
          refine q_goto (off := 26) (tgt := 83) (by decide) (by decide +kernel) ?_
          refine sl_ok ok_R_fresh [.istore 4, .aload_n 0, .getfield 40, .iconst 0, .dup2, .iaload, .iconst 1, .isub, .iastore, .iload 4] (pc1 := 97) (ls1 := [some (.ref 79), some (.int x1), some (.int x2), some (.int x3), some (.int v_16.1)]) (st1 := [.int v_16.1]) (h1 := (sI v_16.2 87 0 ((hI v_16.2 87 0) - 1))) (P := (ak 79 = 0 ∧ cx 79 = 12) ∧ (ak 87 = 1 ∧ ¬ ((0 : Int32) < 0 ∨ cx 87 ≤ (0 : Int32).toNatClampNeg)) ∧ (ak 87 = 1 ∧ ¬ ((0 : Int32) < 0 ∨ cx 87 ≤ (0 : Int32).toNatClampNeg)) ∧ True) (by decide +kernel) rfl ⟨⟨rfl, rfl⟩, ⟨rfl, (by decide)⟩, ⟨rfl, (by decide)⟩, trivial⟩ ?_
          cases e
          exact q_iret rfl k.1 k.2 (by decide +kernel)
      · have e := it_t c_5 e
        refine sl_ok ok_R_fresh [.iconst (-1)] (pc1 := 28) (ls1 := [some (.ref 79), some (.int x1), some (.int x2), some (.int x3), none]) (st1 := [.int (-1)]) (h1 := h) (P := True) (by decide +kernel) rfl trivial ?_
        cases e
        exact q_iret rfl k.1 k.2 (by decide +kernel)
theorem s_R_fresh {E : pE} {x1 : Int32} {x2 : Int32} {x3 : Int32} {h : pH}  {v : (Int32 × pH)} (e : f_R_fresh x1 x2 x3 h = some v) : Ct E M_R_fresh [.ref 79, .int x1, .int x2, .int x3] h (some (.int v.1)) v.2 :=
  Ct_of ok_R_fresh [some (.ref 79), some (.int x1), some (.int x2), some (.int x3), none] (Nat.le_of_ble_eq_true rfl) rfl (b_R_fresh  e ⟨rfl, rfl⟩)
def f_C_hold (x1 : Int32) (h : pH) : Option (Int32 × pH) :=
  if x1 < 0 then
    some (0, h)
  else
    if x1 < 3 then
      (f_Shelf_keep 73 x1 8 h).bind fun v_3 =>
      if x1 < 0 ∨ 3 ≤ x1.toNatClampNeg then none else
      some (1, (sI v_3 78 x1.toNatClampNeg (vp_nar .boolean 1)))
    else
      some (0, h)
set_option maxHeartbeats 4000000 in
theorem b_C_hold {E : pE} {r : Option Value} {hr : pH} {x1 : Int32} {h : pH}  {b : (Int32 × pH)} (e : f_C_hold x1 h = some b) (k : (fun v : (Int32 × pH) => r = some (.int v.1) ∧ hr = v.2) b) : Go E M_C_hold 0 [some (.ref 0), some (.int x1)] [] h r hr := by
  unfold f_C_hold at e
  refine sl_ok ok_C_hold [.iload_n 1] (pc1 := 1) (ls1 := [some (.ref 0), some (.int x1)]) (st1 := [.int x1]) (h1 := h) (P := True) (by decide +kernel) rfl trivial ?_
  refine q_if_lt (off := 8) (tgt := 9) (by decide +kernel) (by decide) (fun c_1 => ?_) (fun c_1 => ?_)
  · have e := it_t c_1 e
    refine sl_ok ok_C_hold [.iconst 0] (pc1 := 10) (ls1 := [some (.ref 0), some (.int x1)]) (st1 := [.int 0]) (h1 := h) (P := True) (by decide +kernel) rfl trivial ?_
    cases e
    exact q_zret rfl (Or.inl rfl) k.1 k.2 (by decide +kernel)
  · have e := it_f c_1 e
    refine sl_ok ok_C_hold [.iload_n 1, .iconst 3] (pc1 := 6) (ls1 := [some (.ref 0), some (.int x1)]) (st1 := [.int 3, .int x1]) (h1 := h) (P := True) (by decide +kernel) rfl trivial ?_
    refine q_icmp_lt (off := 5) (tgt := 11) (by decide +kernel) (by decide) (fun c_2 => ?_) (fun c_2 => ?_)
    · have e := it_t c_2 e
      refine sl_ok ok_C_hold [.aload_n 0, .getfield 86, .iload_n 1, .aload_n 0, .getfield 28] (pc1 := 20) (ls1 := [some (.ref 0), some (.int x1)]) (st1 := [.ref 8, .int x1, .ref 73]) (h1 := h) (P := (ak 0 = 0 ∧ cx 0 = 11) ∧ (ak 0 = 0 ∧ cx 0 = 11) ∧ True) (by decide +kernel) rfl ⟨⟨rfl, rfl⟩, ⟨rfl, rfl⟩, trivial⟩ ?_
      obtain ⟨v_3, e_4, e⟩ := bi_s e
      refine q_callV ok_Shelf_keep (as := [.int x1, .ref 8]) (st := []) ⟨wd_141, wd_142, wd_143, wd_144, ds_Shelf_keep, Nat.le_of_ble_eq_true rfl, Nat.le_of_ble_eq_true rfl⟩ (s_Shelf_keep ⟨rfl, rfl⟩ ⟨rfl, rfl⟩ e_4) rfl ⟨rfl, rfl⟩ (ci := 8) rfl (fun v hv => by cases hv) (Nat.le_of_ble_eq_true rfl) (by decide +kernel) rfl ?_
      obtain ⟨g_5, e⟩ := it_g e
      refine sl_ok ok_C_hold [.aload_n 0, .getfield 89, .iload_n 1, .iconst 1, .bastore, .iconst 1] (pc1 := 31) (ls1 := [some (.ref 0), some (.int x1)]) (st1 := [.int 1]) (h1 := (sI v_3 78 x1.toNatClampNeg (vp_nar .boolean 1))) (P := (ak 0 = 0 ∧ cx 0 = 11) ∧ (¬ (x1 < 0 ∨ cx 78 ≤ x1.toNatClampNeg)) ∧ True) (by decide +kernel) rfl ⟨⟨rfl, rfl⟩, g_5, trivial⟩ ?_
      cases e
      exact q_zret rfl (Or.inr rfl) k.1 k.2 (by decide +kernel)
    · have e := it_f c_2 e
      refine sl_ok ok_C_hold [.iconst 0] (pc1 := 10) (ls1 := [some (.ref 0), some (.int x1)]) (st1 := [.int 0]) (h1 := h) (P := True) (by decide +kernel) rfl trivial ?_
      cases e
      exact q_zret rfl (Or.inl rfl) k.1 k.2 (by decide +kernel)
theorem s_C_hold {E : pE} {x1 : Int32} {h : pH}  {v : (Int32 × pH)} (e : f_C_hold x1 h = some v) : Ct E M_C_hold [.ref 0, .int x1] h (some (.int v.1)) v.2 :=
  Ct_of ok_C_hold [some (.ref 0), some (.int x1)] (Nat.le_of_ble_eq_true rfl) rfl (b_C_hold  e ⟨rfl, rfl⟩)
def f_R_hold_L1 (x1 : Int32) (x2 : Int32) (h : pH) : Option ((Int32 × pH) ⊕ (Int32 × pH)) :=
  if 26 ≤ x2 then
    if x1 < 0 ∨ 3 ≤ x1.toNatClampNeg then none else
    some (.inr (1, (sI h 93 x1.toNatClampNeg (vp_nar .boolean 1))))
  else
    if x2 < 0 ∨ 28 ≤ x2.toNatClampNeg then none else
    if ((26 * x1) + x2) < 0 ∨ 78 ≤ ((26 * x1) + x2).toNatClampNeg then none else
    some (.inl ((x2 + 1), (sI h 92 ((26 * x1) + x2).toNatClampNeg (hI h 87 x2.toNatClampNeg))))
set_option maxHeartbeats 4000000 in
theorem b_R_hold_L1 {E : pE} {r : Option Value} {hr : pH} {x1 : Int32} {x2 : Int32} {h : pH}  {b : ((Int32 × pH) ⊕ (Int32 × pH))} (e : f_R_hold_L1 x1 x2 h = some b) (k : (Sum.elim (fun s : (Int32 × pH) => Go E M_R_hold 13 [some (.ref 79), some (.int x1), some (.int s.1)] [] s.2 r hr) (fun v : (Int32 × pH) => r = some (.int v.1) ∧ hr = v.2)) b) : Go E M_R_hold 13 [some (.ref 79), some (.int x1), some (.int x2)] [] h r hr := by
  unfold f_R_hold_L1 at e
  refine sl_ok ok_R_hold [.iload_n 2, .bipush 26] (pc1 := 16) (ls1 := [some (.ref 79), some (.int x1), some (.int x2)]) (st1 := [.int 26, .int x2]) (h1 := h) (P := True) (by decide +kernel) rfl trivial ?_
  refine q_icmp_ge (off := 26) (tgt := 42) (by decide +kernel) (by decide) (fun c_1 => ?_) (fun c_1 => ?_)
  · have e := it_t c_1 e
    obtain ⟨g_2, e⟩ := it_g e
    refine sl_ok ok_R_hold [.aload_n 0, .getfield 59, .iload_n 1, .iconst 1, .bastore, .iconst 1] (pc1 := 50) (ls1 := [some (.ref 79), some (.int x1), some (.int x2)]) (st1 := [.int 1]) (h1 := (sI h 93 x1.toNatClampNeg (vp_nar .boolean 1))) (P := (ak 79 = 0 ∧ cx 79 = 12) ∧ (¬ (x1 < 0 ∨ cx 93 ≤ x1.toNatClampNeg)) ∧ True) (by decide +kernel) rfl ⟨⟨rfl, rfl⟩, g_2, trivial⟩ ?_
    cases e
    exact q_zret rfl (Or.inr rfl) k.1 k.2 (by decide +kernel)
  · have e := it_f c_1 e
    obtain ⟨g_3, e⟩ := it_g e
    obtain ⟨g_4, e⟩ := it_g e
    refine sl_ok ok_R_hold [.aload_n 0, .getfield 56, .bipush 26, .iload_n 1, .imul, .iload_n 2, .iadd, .aload_n 0, .getfield 40, .iload_n 2, .iaload, .iastore, .iinc 2 1] (pc1 := 39) (ls1 := [some (.ref 79), some (.int x1), some (.int (x2 + 1))]) (st1 := []) (h1 := (sI h 92 ((26 * x1) + x2).toNatClampNeg (hI h 87 x2.toNatClampNeg))) (P := (ak 79 = 0 ∧ cx 79 = 12) ∧ (ak 79 = 0 ∧ cx 79 = 12) ∧ (ak 87 = 1 ∧ ¬ (x2 < 0 ∨ cx 87 ≤ x2.toNatClampNeg)) ∧ (ak 92 = 1 ∧ ¬ (((26 * x1) + x2) < 0 ∨ cx 92 ≤ ((26 * x1) + x2).toNatClampNeg)) ∧ True) (by decide +kernel) rfl ⟨⟨rfl, rfl⟩, ⟨rfl, rfl⟩, ⟨rfl, g_3⟩, ⟨rfl, g_4⟩, trivial⟩ ?_
    refine q_goto (off := -26) (tgt := 13) (by decide) (by decide +kernel) ?_
    cases e
    exact k
def f_R_hold (x1 : Int32) (h : pH) : Option (Int32 × pH) :=
  if (f_R_in x1 (0 : Int32) (2 : Int32)) = 0 then
    some (0, h)
  else
    lp (fun s => f_R_hold_L1 x1 s.1 s.2) lpN (0, h)
set_option maxHeartbeats 4000000 in
theorem b_R_hold {E : pE} {r : Option Value} {hr : pH} {x1 : Int32} {h : pH}  {b : (Int32 × pH)} (e : f_R_hold x1 h = some b) (k : (fun v : (Int32 × pH) => r = some (.int v.1) ∧ hr = v.2) b) : Go E M_R_hold 0 [some (.ref 79), some (.int x1), none] [] h r hr := by
  unfold f_R_hold at e
  refine sl_ok ok_R_hold [.iload_n 1, .iconst 0, .iconst 2] (pc1 := 3) (ls1 := [some (.ref 79), some (.int x1), none]) (st1 := [.int 2, .int 0, .int x1]) (h1 := h) (P := True) (by decide +kernel) rfl trivial ?_
  refine q_callS ok_R_in (as := [.int x1, .int 0, .int 2]) (st := []) ⟨wd_127, wd_128, wd_7, ds_R_in, Nat.le_of_ble_eq_true rfl, Nat.le_of_ble_eq_true rfl⟩ (s_R_in ) rfl (fun v hv => by cases hv; rfl) (Nat.le_of_ble_eq_true rfl) (by decide +kernel) rfl ?_
  refine q_if_ne (off := 5) (tgt := 11) (by decide +kernel) (by decide) (fun c_1 => ?_) (fun c_1 => ?_)
  · have e := it_f c_1 e
    refine sl_ok ok_R_hold [.iconst 0, .istore_n 2] (pc1 := 13) (ls1 := [some (.ref 79), some (.int x1), some (.int 0)]) (st1 := []) (h1 := h) (P := True) (by decide +kernel) rfl trivial ?_
    exact lp_in e (fun s => Go E M_R_hold 13 [some (.ref 79), some (.int x1), some (.int s.1)] [] s.2 r hr) (fun v : (Int32 × pH) => r = some (.int v.1) ∧ hr = v.2) (fun _ _ e k => b_R_hold_L1  e k) k
  · have e := it_t c_1 e
    refine sl_ok ok_R_hold [.iconst 0] (pc1 := 10) (ls1 := [some (.ref 79), some (.int x1), none]) (st1 := [.int 0]) (h1 := h) (P := True) (by decide +kernel) rfl trivial ?_
    cases e
    exact q_zret rfl (Or.inl rfl) k.1 k.2 (by decide +kernel)
theorem s_R_hold {E : pE} {x1 : Int32} {h : pH}  {v : (Int32 × pH)} (e : f_R_hold x1 h = some v) : Ct E M_R_hold [.ref 79, .int x1] h (some (.int v.1)) v.2 :=
  Ct_of ok_R_hold [some (.ref 79), some (.int x1), none] (Nat.le_of_ble_eq_true rfl) rfl (b_R_hold  e ⟨rfl, rfl⟩)
def f_C_restore (x1 : Int32) (h : pH) : Option (Int32 × pH) :=
  if x1 < 0 then
    some (0, h)
  else
    if 3 ≤ x1 then
      some (0, h)
    else
      if x1 < 0 ∨ 3 ≤ x1.toNatClampNeg then none else
      if (hI h 78 x1.toNatClampNeg) = 0 then
        some (0, h)
      else
        (f_Shelf_give 73 x1 8 h).bind fun v_5 =>
        some (1, (f_C_forgetPast v_5))
set_option maxHeartbeats 4000000 in
theorem b_C_restore {E : pE} {r : Option Value} {hr : pH} {x1 : Int32} {h : pH}  {b : (Int32 × pH)} (e : f_C_restore x1 h = some b) (k : (fun v : (Int32 × pH) => r = some (.int v.1) ∧ hr = v.2) b) : Go E M_C_restore 0 [some (.ref 0), some (.int x1)] [] h r hr := by
  unfold f_C_restore at e
  refine sl_ok ok_C_restore [.iload_n 1] (pc1 := 1) (ls1 := [some (.ref 0), some (.int x1)]) (st1 := [.int x1]) (h1 := h) (P := True) (by decide +kernel) rfl trivial ?_
  refine q_if_lt (off := 17) (tgt := 18) (by decide +kernel) (by decide) (fun c_1 => ?_) (fun c_1 => ?_)
  · have e := it_t c_1 e
    refine sl_ok ok_C_restore [.iconst 0] (pc1 := 19) (ls1 := [some (.ref 0), some (.int x1)]) (st1 := [.int 0]) (h1 := h) (P := True) (by decide +kernel) rfl trivial ?_
    cases e
    exact q_zret rfl (Or.inl rfl) k.1 k.2 (by decide +kernel)
  · have e := it_f c_1 e
    refine sl_ok ok_C_restore [.iload_n 1, .iconst 3] (pc1 := 6) (ls1 := [some (.ref 0), some (.int x1)]) (st1 := [.int 3, .int x1]) (h1 := h) (P := True) (by decide +kernel) rfl trivial ?_
    refine q_icmp_ge (off := 12) (tgt := 18) (by decide +kernel) (by decide) (fun c_2 => ?_) (fun c_2 => ?_)
    · have e := it_t c_2 e
      refine sl_ok ok_C_restore [.iconst 0] (pc1 := 19) (ls1 := [some (.ref 0), some (.int x1)]) (st1 := [.int 0]) (h1 := h) (P := True) (by decide +kernel) rfl trivial ?_
      cases e
      exact q_zret rfl (Or.inl rfl) k.1 k.2 (by decide +kernel)
    · have e := it_f c_2 e
      obtain ⟨g_3, e⟩ := it_g e
      refine sl_ok ok_C_restore [.aload_n 0, .getfield 89, .iload_n 1, .baload] (pc1 := 15) (ls1 := [some (.ref 0), some (.int x1)]) (st1 := [.int (hI h 78 x1.toNatClampNeg)]) (h1 := h) (P := (ak 0 = 0 ∧ cx 0 = 11) ∧ ((ak 78 = 2 ∨ ak 78 = 3) ∧ ¬ (x1 < 0 ∨ cx 78 ≤ x1.toNatClampNeg)) ∧ True) (by decide +kernel) rfl ⟨⟨rfl, rfl⟩, ⟨Or.inr rfl, g_3⟩, trivial⟩ ?_
      refine q_if_ne (off := 5) (tgt := 20) (by decide +kernel) (by decide) (fun c_4 => ?_) (fun c_4 => ?_)
      · have e := it_f c_4 e
        refine sl_ok ok_C_restore [.aload_n 0, .getfield 86, .iload_n 1, .aload_n 0, .getfield 28] (pc1 := 29) (ls1 := [some (.ref 0), some (.int x1)]) (st1 := [.ref 8, .int x1, .ref 73]) (h1 := h) (P := (ak 0 = 0 ∧ cx 0 = 11) ∧ (ak 0 = 0 ∧ cx 0 = 11) ∧ True) (by decide +kernel) rfl ⟨⟨rfl, rfl⟩, ⟨rfl, rfl⟩, trivial⟩ ?_
        obtain ⟨v_5, e_6, e⟩ := bi_s e
        refine q_callV ok_Shelf_give (as := [.int x1, .ref 8]) (st := []) ⟨wd_194, wd_195, wd_196, wd_144, ds_Shelf_give, Nat.le_of_ble_eq_true rfl, Nat.le_of_ble_eq_true rfl⟩ (s_Shelf_give ⟨rfl, rfl⟩ ⟨rfl, rfl⟩ e_6) rfl ⟨rfl, rfl⟩ (ci := 8) rfl (fun v hv => by cases hv) (Nat.le_of_ble_eq_true rfl) (by decide +kernel) rfl ?_
        refine sl_ok ok_C_restore [.aload_n 0] (pc1 := 33) (ls1 := [some (.ref 0), some (.int x1)]) (st1 := [.ref 0]) (h1 := v_5) (P := True) (by decide +kernel) rfl trivial ?_
        refine q_callV ok_C_forgetPast (as := []) (st := []) ⟨wd_87, wd_88, wd_89, wd_48, ds_C_forgetPast, Nat.le_of_ble_eq_true rfl, Nat.le_of_ble_eq_true rfl⟩ (s_C_forgetPast ) rfl ⟨rfl, rfl⟩ (ci := 11) rfl (fun v hv => by cases hv) (Nat.le_of_ble_eq_true rfl) (by decide +kernel) rfl ?_
        refine sl_ok ok_C_restore [.iconst 1] (pc1 := 37) (ls1 := [some (.ref 0), some (.int x1)]) (st1 := [.int 1]) (h1 := (f_C_forgetPast v_5)) (P := True) (by decide +kernel) rfl trivial ?_
        cases e
        exact q_zret rfl (Or.inr rfl) k.1 k.2 (by decide +kernel)
      · have e := it_t c_4 e
        refine sl_ok ok_C_restore [.iconst 0] (pc1 := 19) (ls1 := [some (.ref 0), some (.int x1)]) (st1 := [.int 0]) (h1 := h) (P := True) (by decide +kernel) rfl trivial ?_
        cases e
        exact q_zret rfl (Or.inl rfl) k.1 k.2 (by decide +kernel)
theorem s_C_restore {E : pE} {x1 : Int32} {h : pH}  {v : (Int32 × pH)} (e : f_C_restore x1 h = some v) : Ct E M_C_restore [.ref 0, .int x1] h (some (.int v.1)) v.2 :=
  Ct_of ok_C_restore [some (.ref 0), some (.int x1)] (Nat.le_of_ble_eq_true rfl) rfl (b_C_restore  e ⟨rfl, rfl⟩)
def f_R_restore_L1 (x1 : Int32) (x2 : Int32) (h : pH) : Option ((Int32 × pH) ⊕ (Int32 × pH)) :=
  if 26 ≤ x2 then
    some (.inr (1, (sI h 79 24 0)))
  else
    if ((26 * x1) + x2) < 0 ∨ 78 ≤ ((26 * x1) + x2).toNatClampNeg then none else
    if x2 < 0 ∨ 28 ≤ x2.toNatClampNeg then none else
    some (.inl ((x2 + 1), (sI h 87 x2.toNatClampNeg (hI h 92 ((26 * x1) + x2).toNatClampNeg))))
set_option maxHeartbeats 4000000 in
theorem b_R_restore_L1 {E : pE} {r : Option Value} {hr : pH} {x1 : Int32} {x2 : Int32} {h : pH}  {b : ((Int32 × pH) ⊕ (Int32 × pH))} (e : f_R_restore_L1 x1 x2 h = some b) (k : (Sum.elim (fun s : (Int32 × pH) => Go E M_R_restore 22 [some (.ref 79), some (.int x1), some (.int s.1)] [] s.2 r hr) (fun v : (Int32 × pH) => r = some (.int v.1) ∧ hr = v.2)) b) : Go E M_R_restore 22 [some (.ref 79), some (.int x1), some (.int x2)] [] h r hr := by
  unfold f_R_restore_L1 at e
  refine sl_ok ok_R_restore [.iload_n 2, .bipush 26] (pc1 := 25) (ls1 := [some (.ref 79), some (.int x1), some (.int x2)]) (st1 := [.int 26, .int x2]) (h1 := h) (P := True) (by decide +kernel) rfl trivial ?_
  refine q_icmp_ge (off := 26) (tgt := 51) (by decide +kernel) (by decide) (fun c_1 => ?_) (fun c_1 => ?_)
  · have e := it_t c_1 e
    refine sl_ok ok_R_restore [.aload_n 0, .iconst 0, .putfield 167, .iconst 1] (pc1 := 57) (ls1 := [some (.ref 79), some (.int x1), some (.int x2)]) (st1 := [.int 1]) (h1 := (sI h 79 24 0)) (P := (ak 79 = 0 ∧ cx 79 = 12) ∧ True) (by decide +kernel) rfl ⟨⟨rfl, rfl⟩, trivial⟩ ?_
    cases e
    exact q_zret rfl (Or.inr rfl) k.1 k.2 (by decide +kernel)
  · have e := it_f c_1 e
    obtain ⟨g_2, e⟩ := it_g e
    obtain ⟨g_3, e⟩ := it_g e
    refine sl_ok ok_R_restore [.aload_n 0, .getfield 40, .iload_n 2, .aload_n 0, .getfield 56, .bipush 26, .iload_n 1, .imul, .iload_n 2, .iadd, .iaload, .iastore, .iinc 2 1] (pc1 := 48) (ls1 := [some (.ref 79), some (.int x1), some (.int (x2 + 1))]) (st1 := []) (h1 := (sI h 87 x2.toNatClampNeg (hI h 92 ((26 * x1) + x2).toNatClampNeg))) (P := (ak 79 = 0 ∧ cx 79 = 12) ∧ (ak 79 = 0 ∧ cx 79 = 12) ∧ (ak 92 = 1 ∧ ¬ (((26 * x1) + x2) < 0 ∨ cx 92 ≤ ((26 * x1) + x2).toNatClampNeg)) ∧ (ak 87 = 1 ∧ ¬ (x2 < 0 ∨ cx 87 ≤ x2.toNatClampNeg)) ∧ True) (by decide +kernel) rfl ⟨⟨rfl, rfl⟩, ⟨rfl, rfl⟩, ⟨rfl, g_2⟩, ⟨rfl, g_3⟩, trivial⟩ ?_
    refine q_goto (off := -26) (tgt := 22) (by decide) (by decide +kernel) ?_
    cases e
    exact k
def f_R_restore (x1 : Int32) (h : pH) : Option (Int32 × pH) :=
  if (f_R_in x1 (0 : Int32) (2 : Int32)) = 0 then
    some (0, h)
  else
    if x1 < 0 ∨ 3 ≤ x1.toNatClampNeg then none else
    if (hI h 93 x1.toNatClampNeg) = 0 then
      some (0, h)
    else
      lp (fun s => f_R_restore_L1 x1 s.1 s.2) lpN (0, h)
set_option maxHeartbeats 4000000 in
theorem b_R_restore {E : pE} {r : Option Value} {hr : pH} {x1 : Int32} {h : pH}  {b : (Int32 × pH)} (e : f_R_restore x1 h = some b) (k : (fun v : (Int32 × pH) => r = some (.int v.1) ∧ hr = v.2) b) : Go E M_R_restore 0 [some (.ref 79), some (.int x1), none] [] h r hr := by
  unfold f_R_restore at e
  refine sl_ok ok_R_restore [.iload_n 1, .iconst 0, .iconst 2] (pc1 := 3) (ls1 := [some (.ref 79), some (.int x1), none]) (st1 := [.int 2, .int 0, .int x1]) (h1 := h) (P := True) (by decide +kernel) rfl trivial ?_
  refine q_callS ok_R_in (as := [.int x1, .int 0, .int 2]) (st := []) ⟨wd_127, wd_128, wd_7, ds_R_in, Nat.le_of_ble_eq_true rfl, Nat.le_of_ble_eq_true rfl⟩ (s_R_in ) rfl (fun v hv => by cases hv; rfl) (Nat.le_of_ble_eq_true rfl) (by decide +kernel) rfl ?_
  refine q_if_eq (off := 12) (tgt := 18) (by decide +kernel) (by decide) (fun c_1 => ?_) (fun c_1 => ?_)
  · have e := it_t c_1 e
    refine sl_ok ok_R_restore [.iconst 0] (pc1 := 19) (ls1 := [some (.ref 79), some (.int x1), none]) (st1 := [.int 0]) (h1 := h) (P := True) (by decide +kernel) rfl trivial ?_
    cases e
    exact q_zret rfl (Or.inl rfl) k.1 k.2 (by decide +kernel)
  · have e := it_f c_1 e
    obtain ⟨g_2, e⟩ := it_g e
    refine sl_ok ok_R_restore [.aload_n 0, .getfield 59, .iload_n 1, .baload] (pc1 := 15) (ls1 := [some (.ref 79), some (.int x1), none]) (st1 := [.int (hI h 93 x1.toNatClampNeg)]) (h1 := h) (P := (ak 79 = 0 ∧ cx 79 = 12) ∧ ((ak 93 = 2 ∨ ak 93 = 3) ∧ ¬ (x1 < 0 ∨ cx 93 ≤ x1.toNatClampNeg)) ∧ True) (by decide +kernel) rfl ⟨⟨rfl, rfl⟩, ⟨Or.inr rfl, g_2⟩, trivial⟩ ?_
    refine q_if_ne (off := 5) (tgt := 20) (by decide +kernel) (by decide) (fun c_3 => ?_) (fun c_3 => ?_)
    · have e := it_f c_3 e
      refine sl_ok ok_R_restore [.iconst 0, .istore_n 2] (pc1 := 22) (ls1 := [some (.ref 79), some (.int x1), some (.int 0)]) (st1 := []) (h1 := h) (P := True) (by decide +kernel) rfl trivial ?_
      exact lp_in e (fun s => Go E M_R_restore 22 [some (.ref 79), some (.int x1), some (.int s.1)] [] s.2 r hr) (fun v : (Int32 × pH) => r = some (.int v.1) ∧ hr = v.2) (fun _ _ e k => b_R_restore_L1  e k) k
    · have e := it_t c_3 e
      refine sl_ok ok_R_restore [.iconst 0] (pc1 := 19) (ls1 := [some (.ref 79), some (.int x1), none]) (st1 := [.int 0]) (h1 := h) (P := True) (by decide +kernel) rfl trivial ?_
      cases e
      exact q_zret rfl (Or.inl rfl) k.1 k.2 (by decide +kernel)
theorem s_R_restore {E : pE} {x1 : Int32} {h : pH}  {v : (Int32 × pH)} (e : f_R_restore x1 h = some v) : Ct E M_R_restore [.ref 79, .int x1] h (some (.int v.1)) v.2 :=
  Ct_of ok_R_restore [some (.ref 79), some (.int x1), none] (Nat.le_of_ble_eq_true rfl) rfl (b_R_restore  e ⟨rfl, rfl⟩)
def f_Hulls_areaTwice_L1 (o1 : Nat) (h : pH) (x2 : Int32) (x3 : Int32) : Option ((Int32 × Int32) ⊕ Int32) :=
  if (hI h 14 3) ≤ x3 then
    some (.inr x2)
  else
    if (x3 - 1) < 0 ∨ 12 ≤ (x3 - 1).toNatClampNeg then none else
    if x3 < 0 ∨ 12 ≤ x3.toNatClampNeg then none else
    (f_Cloud_turnOf o1 (hI h 16 0) (hI h 16 (x3 - 1).toNatClampNeg) (hI h 16 x3.toNatClampNeg) h).bind fun v_4 =>
    some (.inl ((x2 + v_4), (x3 + 1)))
set_option maxHeartbeats 4000000 in
theorem b_Hulls_areaTwice_L1 {E : pE} {r : Option Value} {hr : pH} {o1 : Nat} {h : pH} {x2 : Int32} {x3 : Int32} (ho1 : ak o1 = 0 ∧ cx o1 = 0) {b : ((Int32 × Int32) ⊕ Int32)} (e : f_Hulls_areaTwice_L1 o1 h x2 x3 = some b) (k : (Sum.elim (fun s : (Int32 × Int32) => Go E M_Hulls_areaTwice 4 [some (.ref 14), some (.ref o1), some (.int s.1), some (.int s.2)] [] h r hr) (fun v : Int32 => r = some (.int v) ∧ hr = h)) b) : Go E M_Hulls_areaTwice 4 [some (.ref 14), some (.ref o1), some (.int x2), some (.int x3)] [] h r hr := by
  unfold f_Hulls_areaTwice_L1 at e
  refine sl_ok ok_Hulls_areaTwice [.iload_n 3, .aload_n 0, .getfield 48] (pc1 := 9) (ls1 := [some (.ref 14), some (.ref o1), some (.int x2), some (.int x3)]) (st1 := [.int (hI h 14 3), .int x3]) (h1 := h) (P := (ak 14 = 0 ∧ cx 14 = 4) ∧ True) (by decide +kernel) rfl ⟨⟨rfl, rfl⟩, trivial⟩ ?_
  refine q_icmp_ge (off := 36) (tgt := 45) (by decide +kernel) (by decide) (fun c_1 => ?_) (fun c_1 => ?_)
  · have e := it_t c_1 e
    refine sl_ok ok_Hulls_areaTwice [.iload_n 2] (pc1 := 46) (ls1 := [some (.ref 14), some (.ref o1), some (.int x2), some (.int x3)]) (st1 := [.int x2]) (h1 := h) (P := True) (by decide +kernel) rfl trivial ?_
    cases e
    exact q_iret rfl k.1 k.2 (by decide +kernel)
  · have e := it_f c_1 e
    obtain ⟨g_2, e⟩ := it_g e
    obtain ⟨g_3, e⟩ := it_g e
    refine sl_ok ok_Hulls_areaTwice [.iload_n 2, .aload_n 1, .aload_n 0, .getfield 15, .iconst 0, .iaload, .aload_n 0, .getfield 15, .iload_n 3, .iconst 1, .isub, .iaload, .aload_n 0, .getfield 15, .iload_n 3, .iaload] (pc1 := 34) (ls1 := [some (.ref 14), some (.ref o1), some (.int x2), some (.int x3)]) (st1 := [.int (hI h 16 x3.toNatClampNeg), .int (hI h 16 (x3 - 1).toNatClampNeg), .int (hI h 16 0), .ref o1, .int x2]) (h1 := h) (P := (ak 14 = 0 ∧ cx 14 = 4) ∧ (ak 16 = 1 ∧ ¬ ((0 : Int32) < 0 ∨ cx 16 ≤ (0 : Int32).toNatClampNeg)) ∧ (ak 14 = 0 ∧ cx 14 = 4) ∧ (ak 16 = 1 ∧ ¬ ((x3 - 1) < 0 ∨ cx 16 ≤ (x3 - 1).toNatClampNeg)) ∧ (ak 14 = 0 ∧ cx 14 = 4) ∧ (ak 16 = 1 ∧ ¬ (x3 < 0 ∨ cx 16 ≤ x3.toNatClampNeg)) ∧ True) (by decide +kernel) rfl ⟨⟨rfl, rfl⟩, ⟨rfl, (by decide)⟩, ⟨rfl, rfl⟩, ⟨rfl, g_2⟩, ⟨rfl, rfl⟩, ⟨rfl, g_3⟩, trivial⟩ ?_
    obtain ⟨v_4, e_5, e⟩ := bi_s e
    refine q_callV ok_Cloud_turnOf (as := [.int (hI h 16 0), .int (hI h 16 (x3 - 1).toNatClampNeg), .int (hI h 16 x3.toNatClampNeg)]) (st := [.int x2]) ⟨wd_221, wd_222, wd_223, wd_14, ds_Cloud_turnOf, Nat.le_of_ble_eq_true rfl, Nat.le_of_ble_eq_true rfl⟩ (s_Cloud_turnOf ho1 e_5) rfl ho1 (ci := 0) rfl (fun v hv => by cases hv; rfl) (Nat.le_of_ble_eq_true rfl) (by decide +kernel) rfl ?_
    refine sl_ok ok_Hulls_areaTwice [.iadd, .istore_n 2, .iinc 3 1] (pc1 := 42) (ls1 := [some (.ref 14), some (.ref o1), some (.int (x2 + v_4)), some (.int (x3 + 1))]) (st1 := []) (h1 := h) (P := True) (by decide +kernel) rfl trivial ?_
    refine q_goto (off := -38) (tgt := 4) (by decide) (by decide +kernel) ?_
    cases e
    exact k
def f_Hulls_areaTwice (o1 : Nat) (h : pH) : Option Int32 :=
  lp (fun s => f_Hulls_areaTwice_L1 o1 h s.1 s.2) lpN (0, 2)
set_option maxHeartbeats 4000000 in
theorem b_Hulls_areaTwice {E : pE} {r : Option Value} {hr : pH} {o1 : Nat} {h : pH} (ho1 : ak o1 = 0 ∧ cx o1 = 0) {b : Int32} (e : f_Hulls_areaTwice o1 h = some b) (k : (fun v : Int32 => r = some (.int v) ∧ hr = h) b) : Go E M_Hulls_areaTwice 0 [some (.ref 14), some (.ref o1), none, none] [] h r hr := by
  unfold f_Hulls_areaTwice at e
  refine sl_ok ok_Hulls_areaTwice [.iconst 0, .istore_n 2, .iconst 2, .istore_n 3] (pc1 := 4) (ls1 := [some (.ref 14), some (.ref o1), some (.int 0), some (.int 2)]) (st1 := []) (h1 := h) (P := True) (by decide +kernel) rfl trivial ?_
  exact lp_in e (fun s => Go E M_Hulls_areaTwice 4 [some (.ref 14), some (.ref o1), some (.int s.1), some (.int s.2)] [] h r hr) (fun v : Int32 => r = some (.int v) ∧ hr = h) (fun _ _ e k => b_Hulls_areaTwice_L1 ho1 e k) k
theorem s_Hulls_areaTwice {E : pE} {o1 : Nat} {h : pH} (ho1 : ak o1 = 0 ∧ cx o1 = 0) {v : Int32} (e : f_Hulls_areaTwice o1 h = some v) : Ct E M_Hulls_areaTwice [.ref 14, .ref o1] h (some (.int v)) h :=
  Ct_of ok_Hulls_areaTwice [some (.ref 14), some (.ref o1), none, none] (Nat.le_of_ble_eq_true rfl) rfl (b_Hulls_areaTwice ho1 e ⟨rfl, rfl⟩)
def f_Shapes_triplesOnOneLine_L3 (o1 : Nat) (x3 : Int32) (x4 : Int32) (h : pH) (x2 : Int32) (x5 : Int32) : Option ((Int32 × Int32) ⊕ ((Int32 × Int32) ⊕ ((Int32 × Int32) ⊕ Int32))) :=
  if (hI h o1 2) ≤ x5 then
    some (.inr (.inl (x2, (x4 + 1))))
  else
    (f_Cloud_turnOf o1 x3 x4 x5 h).bind fun v_2 =>
    if v_2 = 0 then
      some (.inl ((x2 + 1), (x5 + 1)))
    else
      some (.inl (x2, (x5 + 1)))
set_option maxHeartbeats 4000000 in
theorem b_Shapes_triplesOnOneLine_L3 {E : pE} {r : Option Value} {hr : pH} {o1 : Nat} {x3 : Int32} {x4 : Int32} {h : pH} {x2 : Int32} {x5 : Int32} (ho1 : ak o1 = 0 ∧ cx o1 = 0) {b : ((Int32 × Int32) ⊕ ((Int32 × Int32) ⊕ ((Int32 × Int32) ⊕ Int32)))} (e : f_Shapes_triplesOnOneLine_L3 o1 x3 x4 h x2 x5 = some b) (k : (Sum.elim (fun s : (Int32 × Int32) => Go E M_Shapes_triplesOnOneLine 32 [some (.ref 28), some (.ref o1), some (.int s.1), some (.int x3), some (.int x4), some (.int s.2)] [] h r hr) (Sum.elim (fun s : (Int32 × Int32) => Go E M_Shapes_triplesOnOneLine 17 [some (.ref 28), some (.ref o1), some (.int s.1), some (.int x3), some (.int s.2), none] [] h r hr) (Sum.elim (fun s : (Int32 × Int32) => Go E M_Shapes_triplesOnOneLine 4 [some (.ref 28), some (.ref o1), some (.int s.1), some (.int s.2), none, none] [] h r hr) (fun v : Int32 => r = some (.int v) ∧ hr = h)))) b) : Go E M_Shapes_triplesOnOneLine 32 [some (.ref 28), some (.ref o1), some (.int x2), some (.int x3), some (.int x4), some (.int x5)] [] h r hr := by
  unfold f_Shapes_triplesOnOneLine_L3 at e
  refine sl_ok ok_Shapes_triplesOnOneLine [.iload 5, .aload_n 1, .getfield 18] (pc1 := 38) (ls1 := [some (.ref 28), some (.ref o1), some (.int x2), some (.int x3), some (.int x4), some (.int x5)]) (st1 := [.int (hI h o1 2), .int x5]) (h1 := h) (P := (ak o1 = 0 ∧ cx o1 = 0) ∧ True) (by decide +kernel) rfl ⟨ho1, trivial⟩ ?_
  refine q_icmp_ge (off := 24) (tgt := 62) (by decide +kernel) (by decide) (fun c_1 => ?_) (fun c_1 => ?_)
  · have e := it_t c_1 e
    refine sl_ok ok_Shapes_triplesOnOneLine [.iinc 4 1] (pc1 := 65) (ls1 := [some (.ref 28), some (.ref o1), some (.int x2), some (.int x3), some (.int (x4 + 1)), some (.int x5)]) (st1 := []) (h1 := h) (P := True) (by decide +kernel) rfl trivial ?_
    refine q_goto (off := -48) (tgt := 17) (by decide) (by decide +kernel) ?_
    cases e
    refine Go.sb [some (.ref 28), some (.ref o1), some (.int x2), some (.int x3), some (.int (x4 + 1)), none] (And.intro rfl (And.intro rfl (And.intro rfl (And.intro rfl (And.intro rfl trivial))))) ?_
    exact k
  · have e := it_f c_1 e
    refine sl_ok ok_Shapes_triplesOnOneLine [.aload_n 1, .iload_n 3, .iload 4, .iload 5] (pc1 := 47) (ls1 := [some (.ref 28), some (.ref o1), some (.int x2), some (.int x3), some (.int x4), some (.int x5)]) (st1 := [.int x5, .int x4, .int x3, .ref o1]) (h1 := h) (P := True) (by decide +kernel) rfl trivial ?_
    obtain ⟨v_2, e_3, e⟩ := bi_s e
    refine q_callV ok_Cloud_turnOf (as := [.int x3, .int x4, .int x5]) (st := []) ⟨wd_403, wd_222, wd_223, wd_14, ds_Cloud_turnOf, Nat.le_of_ble_eq_true rfl, Nat.le_of_ble_eq_true rfl⟩ (s_Cloud_turnOf ho1 e_3) rfl ho1 (ci := 0) rfl (fun v hv => by cases hv; rfl) (Nat.le_of_ble_eq_true rfl) (by decide +kernel) rfl ?_
    refine q_if_ne (off := 6) (tgt := 56) (by decide +kernel) (by decide) (fun c_4 => ?_) (fun c_4 => ?_)
    · have e := it_f c_4 e
      refine sl_ok ok_Shapes_triplesOnOneLine [.iinc 5 1] (pc1 := 59) (ls1 := [some (.ref 28), some (.ref o1), some (.int x2), some (.int x3), some (.int x4), some (.int (x5 + 1))]) (st1 := []) (h1 := h) (P := True) (by decide +kernel) rfl trivial ?_
      refine q_goto (off := -27) (tgt := 32) (by decide) (by decide +kernel) ?_
      cases e
      exact k
    · have e := it_t c_4 e
      refine sl_ok ok_Shapes_triplesOnOneLine [.iinc 2 1, .iinc 5 1] (pc1 := 59) (ls1 := [some (.ref 28), some (.ref o1), some (.int (x2 + 1)), some (.int x3), some (.int x4), some (.int (x5 + 1))]) (st1 := []) (h1 := h) (P := True) (by decide +kernel) rfl trivial ?_
      refine q_goto (off := -27) (tgt := 32) (by decide) (by decide +kernel) ?_
      cases e
      exact k
def f_Shapes_triplesOnOneLine_L2 (o1 : Nat) (x3 : Int32) (h : pH) (x2 : Int32) (x4 : Int32) : Option ((Int32 × Int32) ⊕ ((Int32 × Int32) ⊕ Int32)) :=
  if (hI h o1 2) ≤ x4 then
    some (.inr (.inl (x2, (x3 + 1))))
  else
    lp (fun s => f_Shapes_triplesOnOneLine_L3 o1 x3 x4 h s.1 s.2) lpN (x2, (x4 + 1))
set_option maxHeartbeats 4000000 in
theorem b_Shapes_triplesOnOneLine_L2 {E : pE} {r : Option Value} {hr : pH} {o1 : Nat} {x3 : Int32} {h : pH} {x2 : Int32} {x4 : Int32} (ho1 : ak o1 = 0 ∧ cx o1 = 0) {b : ((Int32 × Int32) ⊕ ((Int32 × Int32) ⊕ Int32))} (e : f_Shapes_triplesOnOneLine_L2 o1 x3 h x2 x4 = some b) (k : (Sum.elim (fun s : (Int32 × Int32) => Go E M_Shapes_triplesOnOneLine 17 [some (.ref 28), some (.ref o1), some (.int s.1), some (.int x3), some (.int s.2), none] [] h r hr) (Sum.elim (fun s : (Int32 × Int32) => Go E M_Shapes_triplesOnOneLine 4 [some (.ref 28), some (.ref o1), some (.int s.1), some (.int s.2), none, none] [] h r hr) (fun v : Int32 => r = some (.int v) ∧ hr = h))) b) : Go E M_Shapes_triplesOnOneLine 17 [some (.ref 28), some (.ref o1), some (.int x2), some (.int x3), some (.int x4), none] [] h r hr := by
  unfold f_Shapes_triplesOnOneLine_L2 at e
  refine sl_ok ok_Shapes_triplesOnOneLine [.iload 4, .aload_n 1, .getfield 18] (pc1 := 23) (ls1 := [some (.ref 28), some (.ref o1), some (.int x2), some (.int x3), some (.int x4), none]) (st1 := [.int (hI h o1 2), .int x4]) (h1 := h) (P := (ak o1 = 0 ∧ cx o1 = 0) ∧ True) (by decide +kernel) rfl ⟨ho1, trivial⟩ ?_
  refine q_icmp_ge (off := 45) (tgt := 68) (by decide +kernel) (by decide) (fun c_1 => ?_) (fun c_1 => ?_)
  · have e := it_t c_1 e
    refine sl_ok ok_Shapes_triplesOnOneLine [.iinc 3 1] (pc1 := 71) (ls1 := [some (.ref 28), some (.ref o1), some (.int x2), some (.int (x3 + 1)), some (.int x4), none]) (st1 := []) (h1 := h) (P := True) (by decide +kernel) rfl trivial ?_
    refine q_goto (off := -67) (tgt := 4) (by decide) (by decide +kernel) ?_
    cases e
    refine Go.sb [some (.ref 28), some (.ref o1), some (.int x2), some (.int (x3 + 1)), none, none] (And.intro rfl (And.intro rfl (And.intro rfl (And.intro rfl trivial)))) ?_
    exact k
  · have e := it_f c_1 e
    refine sl_ok ok_Shapes_triplesOnOneLine [.iload 4, .iconst 1, .iadd, .istore 5] (pc1 := 32) (ls1 := [some (.ref 28), some (.ref o1), some (.int x2), some (.int x3), some (.int x4), some (.int (x4 + 1))]) (st1 := []) (h1 := h) (P := True) (by decide +kernel) rfl trivial ?_
    exact lp_in e (fun s => Go E M_Shapes_triplesOnOneLine 32 [some (.ref 28), some (.ref o1), some (.int s.1), some (.int x3), some (.int x4), some (.int s.2)] [] h r hr) (Sum.elim (fun s : (Int32 × Int32) => Go E M_Shapes_triplesOnOneLine 17 [some (.ref 28), some (.ref o1), some (.int s.1), some (.int x3), some (.int s.2), none] [] h r hr) (Sum.elim (fun s : (Int32 × Int32) => Go E M_Shapes_triplesOnOneLine 4 [some (.ref 28), some (.ref o1), some (.int s.1), some (.int s.2), none, none] [] h r hr) (fun v : Int32 => r = some (.int v) ∧ hr = h))) (fun _ _ e k => b_Shapes_triplesOnOneLine_L3 ho1 e k) k
def f_Shapes_triplesOnOneLine_L1 (o1 : Nat) (h : pH) (x2 : Int32) (x3 : Int32) : Option ((Int32 × Int32) ⊕ Int32) :=
  if (hI h o1 2) ≤ x3 then
    some (.inr x2)
  else
    lp (fun s => f_Shapes_triplesOnOneLine_L2 o1 x3 h s.1 s.2) lpN (x2, (x3 + 1))
set_option maxHeartbeats 4000000 in
theorem b_Shapes_triplesOnOneLine_L1 {E : pE} {r : Option Value} {hr : pH} {o1 : Nat} {h : pH} {x2 : Int32} {x3 : Int32} (ho1 : ak o1 = 0 ∧ cx o1 = 0) {b : ((Int32 × Int32) ⊕ Int32)} (e : f_Shapes_triplesOnOneLine_L1 o1 h x2 x3 = some b) (k : (Sum.elim (fun s : (Int32 × Int32) => Go E M_Shapes_triplesOnOneLine 4 [some (.ref 28), some (.ref o1), some (.int s.1), some (.int s.2), none, none] [] h r hr) (fun v : Int32 => r = some (.int v) ∧ hr = h)) b) : Go E M_Shapes_triplesOnOneLine 4 [some (.ref 28), some (.ref o1), some (.int x2), some (.int x3), none, none] [] h r hr := by
  unfold f_Shapes_triplesOnOneLine_L1 at e
  refine sl_ok ok_Shapes_triplesOnOneLine [.iload_n 3, .aload_n 1, .getfield 18] (pc1 := 9) (ls1 := [some (.ref 28), some (.ref o1), some (.int x2), some (.int x3), none, none]) (st1 := [.int (hI h o1 2), .int x3]) (h1 := h) (P := (ak o1 = 0 ∧ cx o1 = 0) ∧ True) (by decide +kernel) rfl ⟨ho1, trivial⟩ ?_
  refine q_icmp_ge (off := 65) (tgt := 74) (by decide +kernel) (by decide) (fun c_1 => ?_) (fun c_1 => ?_)
  · have e := it_t c_1 e
    refine sl_ok ok_Shapes_triplesOnOneLine [.iload_n 2] (pc1 := 75) (ls1 := [some (.ref 28), some (.ref o1), some (.int x2), some (.int x3), none, none]) (st1 := [.int x2]) (h1 := h) (P := True) (by decide +kernel) rfl trivial ?_
    cases e
    exact q_iret rfl k.1 k.2 (by decide +kernel)
  · have e := it_f c_1 e
    refine sl_ok ok_Shapes_triplesOnOneLine [.iload_n 3, .iconst 1, .iadd, .istore 4] (pc1 := 17) (ls1 := [some (.ref 28), some (.ref o1), some (.int x2), some (.int x3), some (.int (x3 + 1)), none]) (st1 := []) (h1 := h) (P := True) (by decide +kernel) rfl trivial ?_
    exact lp_in e (fun s => Go E M_Shapes_triplesOnOneLine 17 [some (.ref 28), some (.ref o1), some (.int s.1), some (.int x3), some (.int s.2), none] [] h r hr) (Sum.elim (fun s : (Int32 × Int32) => Go E M_Shapes_triplesOnOneLine 4 [some (.ref 28), some (.ref o1), some (.int s.1), some (.int s.2), none, none] [] h r hr) (fun v : Int32 => r = some (.int v) ∧ hr = h)) (fun _ _ e k => b_Shapes_triplesOnOneLine_L2 ho1 e k) k
def f_Shapes_triplesOnOneLine (o1 : Nat) (h : pH) : Option Int32 :=
  lp (fun s => f_Shapes_triplesOnOneLine_L1 o1 h s.1 s.2) lpN (0, 0)
set_option maxHeartbeats 4000000 in
theorem b_Shapes_triplesOnOneLine {E : pE} {r : Option Value} {hr : pH} {o1 : Nat} {h : pH} (ho1 : ak o1 = 0 ∧ cx o1 = 0) {b : Int32} (e : f_Shapes_triplesOnOneLine o1 h = some b) (k : (fun v : Int32 => r = some (.int v) ∧ hr = h) b) : Go E M_Shapes_triplesOnOneLine 0 [some (.ref 28), some (.ref o1), none, none, none, none] [] h r hr := by
  unfold f_Shapes_triplesOnOneLine at e
  refine sl_ok ok_Shapes_triplesOnOneLine [.iconst 0, .istore_n 2, .iconst 0, .istore_n 3] (pc1 := 4) (ls1 := [some (.ref 28), some (.ref o1), some (.int 0), some (.int 0), none, none]) (st1 := []) (h1 := h) (P := True) (by decide +kernel) rfl trivial ?_
  exact lp_in e (fun s => Go E M_Shapes_triplesOnOneLine 4 [some (.ref 28), some (.ref o1), some (.int s.1), some (.int s.2), none, none] [] h r hr) (fun v : Int32 => r = some (.int v) ∧ hr = h) (fun _ _ e k => b_Shapes_triplesOnOneLine_L1 ho1 e k) k
theorem s_Shapes_triplesOnOneLine {E : pE} {o1 : Nat} {h : pH} (ho1 : ak o1 = 0 ∧ cx o1 = 0) {v : Int32} (e : f_Shapes_triplesOnOneLine o1 h = some v) : Ct E M_Shapes_triplesOnOneLine [.ref 28, .ref o1] h (some (.int v)) h :=
  Ct_of ok_Shapes_triplesOnOneLine [some (.ref 28), some (.ref o1), none, none, none, none] (Nat.le_of_ble_eq_true rfl) rfl (b_Shapes_triplesOnOneLine ho1 e ⟨rfl, rfl⟩)
def f_C_greatestPointDepth_L1 (x1 : Int32) (x2 : Int32) (h : pH) : Option ((Int32 × Int32 × pH) ⊕ (Int32 × pH)) :=
  if (hI h 8 2) ≤ x2 then
    some (.inr (x1, h))
  else
    if x2 < 0 ∨ 12 ≤ x2.toNatClampNeg then none else
    (f_Depths_depthAt 8 (hI h 9 x2.toNatClampNeg) (hI h 10 x2.toNatClampNeg) h).bind fun v_3 =>
    some (.inl ((jmax x1 v_3.1), (x2 + 1), v_3.2))
set_option maxHeartbeats 4000000 in
theorem b_C_greatestPointDepth_L1 {E : pE} {r : Option Value} {hr : pH} {x1 : Int32} {x2 : Int32} {h : pH}  {b : ((Int32 × Int32 × pH) ⊕ (Int32 × pH))} (e : f_C_greatestPointDepth_L1 x1 x2 h = some b) (k : (Sum.elim (fun s : (Int32 × Int32 × pH) => Go E M_C_greatestPointDepth 4 [some (.ref 0), some (.int s.1), some (.int s.2.1)] [] s.2.2 r hr) (fun v : (Int32 × pH) => r = some (.int v.1) ∧ hr = v.2)) b) : Go E M_C_greatestPointDepth 4 [some (.ref 0), some (.int x1), some (.int x2)] [] h r hr := by
  unfold f_C_greatestPointDepth_L1 at e
  refine sl_ok ok_C_greatestPointDepth [.iload_n 2, .aload_n 0, .getfield 28, .getfield 120] (pc1 := 12) (ls1 := [some (.ref 0), some (.int x1), some (.int x2)]) (st1 := [.int (hI h 8 2), .int x2]) (h1 := h) (P := (ak 0 = 0 ∧ cx 0 = 11) ∧ (ak 8 = 0 ∧ cx 8 = 0) ∧ True) (by decide +kernel) rfl ⟨⟨rfl, rfl⟩, ⟨rfl, rfl⟩, trivial⟩ ?_
  refine q_icmp_ge (off := 43) (tgt := 55) (by decide +kernel) (by decide) (fun c_1 => ?_) (fun c_1 => ?_)
  · have e := it_t c_1 e
    refine sl_ok ok_C_greatestPointDepth [.iload_n 1] (pc1 := 56) (ls1 := [some (.ref 0), some (.int x1), some (.int x2)]) (st1 := [.int x1]) (h1 := h) (P := True) (by decide +kernel) rfl trivial ?_
    cases e
    exact q_iret rfl k.1 k.2 (by decide +kernel)
  · have e := it_f c_1 e
    obtain ⟨g_2, e⟩ := it_g e
    refine sl_ok ok_C_greatestPointDepth [.iload_n 1, .aload_n 0, .getfield 45, .aload_n 0, .getfield 28, .aload_n 0, .getfield 28, .getfield 171, .iload_n 2, .iaload, .aload_n 0, .getfield 28, .getfield 175, .iload_n 2, .iaload] (pc1 := 42) (ls1 := [some (.ref 0), some (.int x1), some (.int x2)]) (st1 := [.int (hI h 10 x2.toNatClampNeg), .int (hI h 9 x2.toNatClampNeg), .ref 8, .ref 17, .int x1]) (h1 := h) (P := (ak 0 = 0 ∧ cx 0 = 11) ∧ (ak 0 = 0 ∧ cx 0 = 11) ∧ (ak 0 = 0 ∧ cx 0 = 11) ∧ (ak 8 = 0 ∧ cx 8 = 0) ∧ (ak 9 = 1 ∧ ¬ (x2 < 0 ∨ cx 9 ≤ x2.toNatClampNeg)) ∧ (ak 0 = 0 ∧ cx 0 = 11) ∧ (ak 8 = 0 ∧ cx 8 = 0) ∧ (ak 10 = 1 ∧ ¬ (x2 < 0 ∨ cx 10 ≤ x2.toNatClampNeg)) ∧ True) (by decide +kernel) rfl ⟨⟨rfl, rfl⟩, ⟨rfl, rfl⟩, ⟨rfl, rfl⟩, ⟨rfl, rfl⟩, ⟨rfl, g_2⟩, ⟨rfl, rfl⟩, ⟨rfl, rfl⟩, ⟨rfl, g_2⟩, trivial⟩ ?_
    obtain ⟨v_3, e_4, e⟩ := bi_s e
    refine q_callV ok_Depths_depthAt (as := [.ref 8, .int (hI h 9 x2.toNatClampNeg), .int (hI h 10 x2.toNatClampNeg)]) (st := [.int x1]) ⟨wd_249, wd_250, wd_251, wd_217, ds_Depths_depthAt, Nat.le_of_ble_eq_true rfl, Nat.le_of_ble_eq_true rfl⟩ (s_Depths_depthAt ⟨rfl, rfl⟩ e_4) rfl ⟨rfl, rfl⟩ (ci := 2) rfl (fun v hv => by cases hv; rfl) (Nat.le_of_ble_eq_true rfl) (by decide +kernel) rfl ?_
    refine q_mmax wd_512 (Nat.le_of_ble_eq_true rfl) (Nat.le_of_ble_eq_true rfl) (by decide +kernel) ?_
    refine sl_ok ok_C_greatestPointDepth [.istore_n 1, .iinc 2 1] (pc1 := 52) (ls1 := [some (.ref 0), some (.int (jmax x1 v_3.1)), some (.int (x2 + 1))]) (st1 := []) (h1 := v_3.2) (P := True) (by decide +kernel) rfl trivial ?_
    refine q_goto (off := -48) (tgt := 4) (by decide) (by decide +kernel) ?_
    cases e
    exact k
def f_C_greatestPointDepth (h : pH) : Option (Int32 × pH) :=
  lp (fun s => f_C_greatestPointDepth_L1 s.1 s.2.1 s.2.2) lpN (0, 0, h)
set_option maxHeartbeats 4000000 in
theorem b_C_greatestPointDepth {E : pE} {r : Option Value} {hr : pH} {h : pH}  {b : (Int32 × pH)} (e : f_C_greatestPointDepth h = some b) (k : (fun v : (Int32 × pH) => r = some (.int v.1) ∧ hr = v.2) b) : Go E M_C_greatestPointDepth 0 [some (.ref 0), none, none] [] h r hr := by
  unfold f_C_greatestPointDepth at e
  refine sl_ok ok_C_greatestPointDepth [.iconst 0, .istore_n 1, .iconst 0, .istore_n 2] (pc1 := 4) (ls1 := [some (.ref 0), some (.int 0), some (.int 0)]) (st1 := []) (h1 := h) (P := True) (by decide +kernel) rfl trivial ?_
  exact lp_in e (fun s => Go E M_C_greatestPointDepth 4 [some (.ref 0), some (.int s.1), some (.int s.2.1)] [] s.2.2 r hr) (fun v : (Int32 × pH) => r = some (.int v.1) ∧ hr = v.2) (fun _ _ e k => b_C_greatestPointDepth_L1  e k) k
theorem s_C_greatestPointDepth {E : pE} {h : pH}  {v : (Int32 × pH)} (e : f_C_greatestPointDepth h = some v) : Ct E M_C_greatestPointDepth [.ref 0] h (some (.int v.1)) v.2 :=
  Ct_of ok_C_greatestPointDepth [some (.ref 0), none, none] (Nat.le_of_ble_eq_true rfl) rfl (b_C_greatestPointDepth  e ⟨rfl, rfl⟩)
def f_C_pointsOfDepth_L1 (x1 : Int32) (x2 : Int32) (x3 : Int32) (h : pH) : Option ((Int32 × Int32 × pH) ⊕ (Int32 × pH)) :=
  if (hI h 8 2) ≤ x3 then
    some (.inr (x2, h))
  else
    if x3 < 0 ∨ 12 ≤ x3.toNatClampNeg then none else
    (f_Depths_depthAt 8 (hI h 9 x3.toNatClampNeg) (hI h 10 x3.toNatClampNeg) h).bind fun v_3 =>
    if v_3.1 = x1 then
      some (.inl ((x2 ||| (jshl 1 x3)), (x3 + 1), v_3.2))
    else
      some (.inl (x2, (x3 + 1), v_3.2))
set_option maxHeartbeats 4000000 in
theorem b_C_pointsOfDepth_L1 {E : pE} {r : Option Value} {hr : pH} {x1 : Int32} {x2 : Int32} {x3 : Int32} {h : pH}  {b : ((Int32 × Int32 × pH) ⊕ (Int32 × pH))} (e : f_C_pointsOfDepth_L1 x1 x2 x3 h = some b) (k : (Sum.elim (fun s : (Int32 × Int32 × pH) => Go E M_C_pointsOfDepth 4 [some (.ref 0), some (.int x1), some (.int s.1), some (.int s.2.1)] [] s.2.2 r hr) (fun v : (Int32 × pH) => r = some (.int v.1) ∧ hr = v.2)) b) : Go E M_C_pointsOfDepth 4 [some (.ref 0), some (.int x1), some (.int x2), some (.int x3)] [] h r hr := by
  unfold f_C_pointsOfDepth_L1 at e
  refine sl_ok ok_C_pointsOfDepth [.iload_n 3, .aload_n 0, .getfield 28, .getfield 120] (pc1 := 12) (ls1 := [some (.ref 0), some (.int x1), some (.int x2), some (.int x3)]) (st1 := [.int (hI h 8 2), .int x3]) (h1 := h) (P := (ak 0 = 0 ∧ cx 0 = 11) ∧ (ak 8 = 0 ∧ cx 8 = 0) ∧ True) (by decide +kernel) rfl ⟨⟨rfl, rfl⟩, ⟨rfl, rfl⟩, trivial⟩ ?_
  refine q_icmp_ge (off := 48) (tgt := 60) (by decide +kernel) (by decide) (fun c_1 => ?_) (fun c_1 => ?_)
  · have e := it_t c_1 e
    refine sl_ok ok_C_pointsOfDepth [.iload_n 2] (pc1 := 61) (ls1 := [some (.ref 0), some (.int x1), some (.int x2), some (.int x3)]) (st1 := [.int x2]) (h1 := h) (P := True) (by decide +kernel) rfl trivial ?_
    cases e
    exact q_iret rfl k.1 k.2 (by decide +kernel)
  · have e := it_f c_1 e
    obtain ⟨g_2, e⟩ := it_g e
    refine sl_ok ok_C_pointsOfDepth [.aload_n 0, .getfield 45, .aload_n 0, .getfield 28, .aload_n 0, .getfield 28, .getfield 171, .iload_n 3, .iaload, .aload_n 0, .getfield 28, .getfield 175, .iload_n 3, .iaload] (pc1 := 41) (ls1 := [some (.ref 0), some (.int x1), some (.int x2), some (.int x3)]) (st1 := [.int (hI h 10 x3.toNatClampNeg), .int (hI h 9 x3.toNatClampNeg), .ref 8, .ref 17]) (h1 := h) (P := (ak 0 = 0 ∧ cx 0 = 11) ∧ (ak 0 = 0 ∧ cx 0 = 11) ∧ (ak 0 = 0 ∧ cx 0 = 11) ∧ (ak 8 = 0 ∧ cx 8 = 0) ∧ (ak 9 = 1 ∧ ¬ (x3 < 0 ∨ cx 9 ≤ x3.toNatClampNeg)) ∧ (ak 0 = 0 ∧ cx 0 = 11) ∧ (ak 8 = 0 ∧ cx 8 = 0) ∧ (ak 10 = 1 ∧ ¬ (x3 < 0 ∨ cx 10 ≤ x3.toNatClampNeg)) ∧ True) (by decide +kernel) rfl ⟨⟨rfl, rfl⟩, ⟨rfl, rfl⟩, ⟨rfl, rfl⟩, ⟨rfl, rfl⟩, ⟨rfl, g_2⟩, ⟨rfl, rfl⟩, ⟨rfl, rfl⟩, ⟨rfl, g_2⟩, trivial⟩ ?_
    obtain ⟨v_3, e_4, e⟩ := bi_s e
    refine q_callV ok_Depths_depthAt (as := [.ref 8, .int (hI h 9 x3.toNatClampNeg), .int (hI h 10 x3.toNatClampNeg)]) (st := []) ⟨wd_249, wd_250, wd_251, wd_217, ds_Depths_depthAt, Nat.le_of_ble_eq_true rfl, Nat.le_of_ble_eq_true rfl⟩ (s_Depths_depthAt ⟨rfl, rfl⟩ e_4) rfl ⟨rfl, rfl⟩ (ci := 2) rfl (fun v hv => by cases hv; rfl) (Nat.le_of_ble_eq_true rfl) (by decide +kernel) rfl ?_
    refine sl_ok ok_C_pointsOfDepth [.iload_n 1] (pc1 := 45) (ls1 := [some (.ref 0), some (.int x1), some (.int x2), some (.int x3)]) (st1 := [.int x1, .int v_3.1]) (h1 := v_3.2) (P := True) (by decide +kernel) rfl trivial ?_
    refine q_icmp_ne (off := 9) (tgt := 54) (by decide +kernel) (by decide) (fun c_5 => ?_) (fun c_5 => ?_)
    · have e := it_f c_5 e
      refine sl_ok ok_C_pointsOfDepth [.iinc 3 1] (pc1 := 57) (ls1 := [some (.ref 0), some (.int x1), some (.int x2), some (.int (x3 + 1))]) (st1 := []) (h1 := v_3.2) (P := True) (by decide +kernel) rfl trivial ?_
      refine q_goto (off := -53) (tgt := 4) (by decide) (by decide +kernel) ?_
      cases e
      exact k
    · have e := it_t c_5 e
      refine sl_ok ok_C_pointsOfDepth [.iload_n 2, .iconst 1, .iload_n 3, .ishl, .ior, .istore_n 2, .iinc 3 1] (pc1 := 57) (ls1 := [some (.ref 0), some (.int x1), some (.int (x2 ||| (jshl 1 x3))), some (.int (x3 + 1))]) (st1 := []) (h1 := v_3.2) (P := True) (by decide +kernel) rfl trivial ?_
      refine q_goto (off := -53) (tgt := 4) (by decide) (by decide +kernel) ?_
      cases e
      exact k
def f_C_pointsOfDepth (x1 : Int32) (h : pH) : Option (Int32 × pH) :=
  lp (fun s => f_C_pointsOfDepth_L1 x1 s.1 s.2.1 s.2.2) lpN (0, 0, h)
set_option maxHeartbeats 4000000 in
theorem b_C_pointsOfDepth {E : pE} {r : Option Value} {hr : pH} {x1 : Int32} {h : pH}  {b : (Int32 × pH)} (e : f_C_pointsOfDepth x1 h = some b) (k : (fun v : (Int32 × pH) => r = some (.int v.1) ∧ hr = v.2) b) : Go E M_C_pointsOfDepth 0 [some (.ref 0), some (.int x1), none, none] [] h r hr := by
  unfold f_C_pointsOfDepth at e
  refine sl_ok ok_C_pointsOfDepth [.iconst 0, .istore_n 2, .iconst 0, .istore_n 3] (pc1 := 4) (ls1 := [some (.ref 0), some (.int x1), some (.int 0), some (.int 0)]) (st1 := []) (h1 := h) (P := True) (by decide +kernel) rfl trivial ?_
  exact lp_in e (fun s => Go E M_C_pointsOfDepth 4 [some (.ref 0), some (.int x1), some (.int s.1), some (.int s.2.1)] [] s.2.2 r hr) (fun v : (Int32 × pH) => r = some (.int v.1) ∧ hr = v.2) (fun _ _ e k => b_C_pointsOfDepth_L1  e k) k
theorem s_C_pointsOfDepth {E : pE} {x1 : Int32} {h : pH}  {v : (Int32 × pH)} (e : f_C_pointsOfDepth x1 h = some v) : Ct E M_C_pointsOfDepth [.ref 0, .int x1] h (some (.int v.1)) v.2 :=
  Ct_of ok_C_pointsOfDepth [some (.ref 0), some (.int x1), none, none] (Nat.le_of_ble_eq_true rfl) rfl (b_C_pointsOfDepth  e ⟨rfl, rfl⟩)
def f_C_slotsInUse_L1 (h : pH) (x1 : Int32) (x2 : Int32) : Option ((Int32 × Int32) ⊕ Int32) :=
  if 3 ≤ x2 then
    some (.inr x1)
  else
    if x2 < 0 ∨ 3 ≤ x2.toNatClampNeg then none else
    if (hI h 78 x2.toNatClampNeg) = 0 then
      some (.inl (x1, (x2 + 1)))
    else
      some (.inl ((x1 + 1), (x2 + 1)))
set_option maxHeartbeats 4000000 in
theorem b_C_slotsInUse_L1 {E : pE} {r : Option Value} {hr : pH} {h : pH} {x1 : Int32} {x2 : Int32}  {b : ((Int32 × Int32) ⊕ Int32)} (e : f_C_slotsInUse_L1 h x1 x2 = some b) (k : (Sum.elim (fun s : (Int32 × Int32) => Go E M_C_slotsInUse 4 [some (.ref 0), some (.int s.1), some (.int s.2)] [] h r hr) (fun v : Int32 => r = some (.int v) ∧ hr = h)) b) : Go E M_C_slotsInUse 4 [some (.ref 0), some (.int x1), some (.int x2)] [] h r hr := by
  unfold f_C_slotsInUse_L1 at e
  refine sl_ok ok_C_slotsInUse [.iload_n 2, .iconst 3] (pc1 := 6) (ls1 := [some (.ref 0), some (.int x1), some (.int x2)]) (st1 := [.int 3, .int x2]) (h1 := h) (P := True) (by decide +kernel) rfl trivial ?_
  refine q_icmp_ge (off := 21) (tgt := 27) (by decide +kernel) (by decide) (fun c_1 => ?_) (fun c_1 => ?_)
  · have e := it_t c_1 e
    refine sl_ok ok_C_slotsInUse [.iload_n 1] (pc1 := 28) (ls1 := [some (.ref 0), some (.int x1), some (.int x2)]) (st1 := [.int x1]) (h1 := h) (P := True) (by decide +kernel) rfl trivial ?_
    cases e
    exact q_iret rfl k.1 k.2 (by decide +kernel)
  · have e := it_f c_1 e
    obtain ⟨g_2, e⟩ := it_g e
    refine sl_ok ok_C_slotsInUse [.aload_n 0, .getfield 89, .iload_n 2, .baload] (pc1 := 15) (ls1 := [some (.ref 0), some (.int x1), some (.int x2)]) (st1 := [.int (hI h 78 x2.toNatClampNeg)]) (h1 := h) (P := (ak 0 = 0 ∧ cx 0 = 11) ∧ ((ak 78 = 2 ∨ ak 78 = 3) ∧ ¬ (x2 < 0 ∨ cx 78 ≤ x2.toNatClampNeg)) ∧ True) (by decide +kernel) rfl ⟨⟨rfl, rfl⟩, ⟨Or.inr rfl, g_2⟩, trivial⟩ ?_
    refine q_if_eq (off := 6) (tgt := 21) (by decide +kernel) (by decide) (fun c_3 => ?_) (fun c_3 => ?_)
    · have e := it_t c_3 e
      refine sl_ok ok_C_slotsInUse [.iinc 2 1] (pc1 := 24) (ls1 := [some (.ref 0), some (.int x1), some (.int (x2 + 1))]) (st1 := []) (h1 := h) (P := True) (by decide +kernel) rfl trivial ?_
      refine q_goto (off := -20) (tgt := 4) (by decide) (by decide +kernel) ?_
      cases e
      exact k
    · have e := it_f c_3 e
      refine sl_ok ok_C_slotsInUse [.iinc 1 1, .iinc 2 1] (pc1 := 24) (ls1 := [some (.ref 0), some (.int (x1 + 1)), some (.int (x2 + 1))]) (st1 := []) (h1 := h) (P := True) (by decide +kernel) rfl trivial ?_
      refine q_goto (off := -20) (tgt := 4) (by decide) (by decide +kernel) ?_
      cases e
      exact k
def f_C_slotsInUse (h : pH) : Option Int32 :=
  lp (fun s => f_C_slotsInUse_L1 h s.1 s.2) lpN (0, 0)
set_option maxHeartbeats 4000000 in
theorem b_C_slotsInUse {E : pE} {r : Option Value} {hr : pH} {h : pH}  {b : Int32} (e : f_C_slotsInUse h = some b) (k : (fun v : Int32 => r = some (.int v) ∧ hr = h) b) : Go E M_C_slotsInUse 0 [some (.ref 0), none, none] [] h r hr := by
  unfold f_C_slotsInUse at e
  refine sl_ok ok_C_slotsInUse [.iconst 0, .istore_n 1, .iconst 0, .istore_n 2] (pc1 := 4) (ls1 := [some (.ref 0), some (.int 0), some (.int 0)]) (st1 := []) (h1 := h) (P := True) (by decide +kernel) rfl trivial ?_
  exact lp_in e (fun s => Go E M_C_slotsInUse 4 [some (.ref 0), some (.int s.1), some (.int s.2)] [] h r hr) (fun v : Int32 => r = some (.int v) ∧ hr = h) (fun _ _ e k => b_C_slotsInUse_L1  e k) k
theorem s_C_slotsInUse {E : pE} {h : pH}  {v : Int32} (e : f_C_slotsInUse h = some v) : Ct E M_C_slotsInUse [.ref 0] h (some (.int v)) h :=
  Ct_of ok_C_slotsInUse [some (.ref 0), none, none] (Nat.le_of_ble_eq_true rfl) rfl (b_C_slotsInUse  e ⟨rfl, rfl⟩)
def f_C_thirdPart (h : pH) : Int32 :=
  (((hI h 8 2) + 2) / 3)
set_option maxHeartbeats 4000000 in
theorem b_C_thirdPart {E : pE} {r : Option Value} {hr : pH} {h : pH}  {b : Int32} (e : f_C_thirdPart h = b) (k : (fun v : Int32 => r = some (.int v) ∧ hr = h) b) : Go E M_C_thirdPart 0 [some (.ref 0)] [] h r hr := by
  unfold f_C_thirdPart at e
  refine sl_ok ok_C_thirdPart [.aload_n 0, .getfield 28, .getfield 120, .iconst 2, .iadd, .iconst 3, .idiv] (pc1 := 11) (ls1 := [some (.ref 0)]) (st1 := [.int (((hI h 8 2) + 2) / 3)]) (h1 := h) (P := (ak 0 = 0 ∧ cx 0 = 11) ∧ (ak 8 = 0 ∧ cx 8 = 0) ∧ (¬ (3 : Int32) = 0) ∧ True) (by decide +kernel) rfl ⟨⟨rfl, rfl⟩, ⟨rfl, rfl⟩, (by decide), trivial⟩ ?_
  cases e
  exact q_iret rfl k.1 k.2 (by decide +kernel)
theorem s_C_thirdPart {E : pE} {h : pH}  : Ct E M_C_thirdPart [.ref 0] h (some (.int (f_C_thirdPart h))) h :=
  Ct_of ok_C_thirdPart [some (.ref 0)] (Nat.le_of_ble_eq_true rfl) rfl (b_C_thirdPart  rfl ⟨rfl, rfl⟩)
def f_Shapes_isConvex_L1 (o1 : Nat) (x2 : Int32) (x3 : Int32) (h : pH) (x4 : Int32) : Option (Int32 ⊕ Int32) :=
  if (hI h o1 2) ≤ x4 then
    if 4 < x3 then
      some (.inr 1)
    else
      (f_Shapes_innerOf o1 x2 h).bind fun v_3 =>
      if v_3 = (-1) then
        some (.inr 1)
      else
        some (.inr 0)
  else
    if (f_C_bit x2 x4) = 1 then
      (f_SetMarks_isMarked 29 (x2 &&& ((jshl 1 x4) ^^^ (-1))) h).bind fun v_7 =>
      if v_7 = 0 then
        some (.inr 0)
      else
        some (.inl (x4 + 1))
    else
      some (.inl (x4 + 1))
set_option maxHeartbeats 4000000 in
theorem b_Shapes_isConvex_L1 {E : pE} {r : Option Value} {hr : pH} {o1 : Nat} {x2 : Int32} {x3 : Int32} {h : pH} {x4 : Int32} (ho1 : ak o1 = 0 ∧ cx o1 = 0) {b : (Int32 ⊕ Int32)} (e : f_Shapes_isConvex_L1 o1 x2 x3 h x4 = some b) (k : (Sum.elim (fun s : Int32 => Go E M_Shapes_isConvex 34 [some (.ref 28), some (.ref o1), some (.int x2), some (.int x3), some (.int s)] [] h r hr) (fun v : Int32 => r = some (.int v) ∧ hr = h)) b) : Go E M_Shapes_isConvex 34 [some (.ref 28), some (.ref o1), some (.int x2), some (.int x3), some (.int x4)] [] h r hr := by
  unfold f_Shapes_isConvex_L1 at e
  refine sl_ok ok_Shapes_isConvex [.iload 4, .aload_n 1, .getfield 18] (pc1 := 40) (ls1 := [some (.ref 28), some (.ref o1), some (.int x2), some (.int x3), some (.int x4)]) (st1 := [.int (hI h o1 2), .int x4]) (h1 := h) (P := (ak o1 = 0 ∧ cx o1 = 0) ∧ True) (by decide +kernel) rfl ⟨ho1, trivial⟩ ?_
  refine q_icmp_ge (off := 39) (tgt := 79) (by decide +kernel) (by decide) (fun c_1 => ?_) (fun c_1 => ?_)
  · have e := it_t c_1 e
    refine sl_ok ok_Shapes_isConvex [.iload_n 3, .iconst 4] (pc1 := 81) (ls1 := [some (.ref 28), some (.ref o1), some (.int x2), some (.int x3), some (.int x4)]) (st1 := [.int 4, .int x3]) (h1 := h) (P := True) (by decide +kernel) rfl trivial ?_
    refine q_icmp_gt (off := 12) (tgt := 93) (by decide +kernel) (by decide) (fun c_2 => ?_) (fun c_2 => ?_)
    · have e := it_t c_2 e
      refine sl_ok ok_Shapes_isConvex [.iconst 1] (pc1 := 94) (ls1 := [some (.ref 28), some (.ref o1), some (.int x2), some (.int x3), some (.int x4)]) (st1 := [.int 1]) (h1 := h) (P := True) (by decide +kernel) rfl trivial ?_
      refine q_goto (off := 4) (tgt := 98) (by decide) (by decide +kernel) ?_
      cases e
      exact q_zret rfl (Or.inr rfl) k.1 k.2 (by decide +kernel)
    · have e := it_f c_2 e
      refine sl_ok ok_Shapes_isConvex [.aload_n 1, .iload_n 2] (pc1 := 86) (ls1 := [some (.ref 28), some (.ref o1), some (.int x2), some (.int x3), some (.int x4)]) (st1 := [.int x2, .ref o1]) (h1 := h) (P := True) (by decide +kernel) rfl trivial ?_
      obtain ⟨v_3, e_4, e⟩ := bi_s e
      refine q_callS ok_Shapes_innerOf (as := [.ref o1, .int x2]) (st := []) ⟨wd_488, wd_489, wd_231, ds_Shapes_innerOf, Nat.le_of_ble_eq_true rfl, Nat.le_of_ble_eq_true rfl⟩ (s_Shapes_innerOf ho1 e_4) rfl (fun v hv => by cases hv; rfl) (Nat.le_of_ble_eq_true rfl) (by decide +kernel) rfl ?_
      refine sl_ok ok_Shapes_isConvex [.iconst (-1)] (pc1 := 90) (ls1 := [some (.ref 28), some (.ref o1), some (.int x2), some (.int x3), some (.int x4)]) (st1 := [.int (-1), .int v_3]) (h1 := h) (P := True) (by decide +kernel) rfl trivial ?_
      refine q_icmp_ne (off := 7) (tgt := 97) (by decide +kernel) (by decide) (fun c_5 => ?_) (fun c_5 => ?_)
      · have e := it_f c_5 e
        refine sl_ok ok_Shapes_isConvex [.iconst 0] (pc1 := 98) (ls1 := [some (.ref 28), some (.ref o1), some (.int x2), some (.int x3), some (.int x4)]) (st1 := [.int 0]) (h1 := h) (P := True) (by decide +kernel) rfl trivial ?_
        cases e
        exact q_zret rfl (Or.inl rfl) k.1 k.2 (by decide +kernel)
      · have e := it_t c_5 e
        refine sl_ok ok_Shapes_isConvex [.iconst 1] (pc1 := 94) (ls1 := [some (.ref 28), some (.ref o1), some (.int x2), some (.int x3), some (.int x4)]) (st1 := [.int 1]) (h1 := h) (P := True) (by decide +kernel) rfl trivial ?_
        refine q_goto (off := 4) (tgt := 98) (by decide) (by decide +kernel) ?_
        cases e
        exact q_zret rfl (Or.inr rfl) k.1 k.2 (by decide +kernel)
  · have e := it_f c_1 e
    refine sl_ok ok_Shapes_isConvex [.iload_n 2, .iload 4] (pc1 := 46) (ls1 := [some (.ref 28), some (.ref o1), some (.int x2), some (.int x3), some (.int x4)]) (st1 := [.int x4, .int x2]) (h1 := h) (P := True) (by decide +kernel) rfl trivial ?_
    refine q_callSN ok_C_bit (as := [.int x2, .int x4]) (st := []) ⟨(List.mem_of_getElem? (i := 16) rfl), wd_201, wd_48, ds_C_bit, Nat.le_of_ble_eq_true rfl, Nat.le_of_ble_eq_true rfl⟩ (s_C_bit ) rfl (fun v hv => by cases hv; rfl) (Nat.le_of_ble_eq_true rfl) (by decide +kernel) rfl ?_
    refine sl_ok ok_Shapes_isConvex [.iconst 1] (pc1 := 50) (ls1 := [some (.ref 28), some (.ref o1), some (.int x2), some (.int x3), some (.int x4)]) (st1 := [.int 1, .int (f_C_bit x2 x4)]) (h1 := h) (P := True) (by decide +kernel) rfl trivial ?_
    refine q_icmp_ne (off := 23) (tgt := 73) (by decide +kernel) (by decide) (fun c_6 => ?_) (fun c_6 => ?_)
    · have e := it_f c_6 e
      refine sl_ok ok_Shapes_isConvex [.iinc 4 1] (pc1 := 76) (ls1 := [some (.ref 28), some (.ref o1), some (.int x2), some (.int x3), some (.int (x4 + 1))]) (st1 := []) (h1 := h) (P := True) (by decide +kernel) rfl trivial ?_
      refine q_goto (off := -42) (tgt := 34) (by decide) (by decide +kernel) ?_
      cases e
      exact k
    · have e := it_t c_6 e
      refine sl_ok ok_Shapes_isConvex [.aload_n 0, .getfield 12, .iload_n 2, .iconst 1, .iload 4, .ishl, .iconst (-1), .ixor, .iand] (pc1 := 65) (ls1 := [some (.ref 28), some (.ref o1), some (.int x2), some (.int x3), some (.int x4)]) (st1 := [.int (x2 &&& ((jshl 1 x4) ^^^ (-1))), .ref 29]) (h1 := h) (P := (ak 28 = 0 ∧ cx 28 = 7) ∧ True) (by decide +kernel) rfl ⟨⟨rfl, rfl⟩, trivial⟩ ?_
      obtain ⟨v_7, e_8, e⟩ := bi_s e
      refine q_callV ok_SetMarks_isMarked (as := [.int (x2 &&& ((jshl 1 x4) ^^^ (-1)))]) (st := []) ⟨wd_513, wd_354, wd_355, wd_336, ds_SetMarks_isMarked, Nat.le_of_ble_eq_true rfl, Nat.le_of_ble_eq_true rfl⟩ (s_SetMarks_isMarked ⟨rfl, rfl⟩ e_8) rfl ⟨rfl, rfl⟩ (ci := 6) rfl (fun v hv => by cases hv; rfl) (Nat.le_of_ble_eq_true rfl) (by decide +kernel) rfl ?_
      refine q_if_ne (off := 5) (tgt := 73) (by decide +kernel) (by decide) (fun c_9 => ?_) (fun c_9 => ?_)
      · have e := it_f c_9 e
        refine sl_ok ok_Shapes_isConvex [.iinc 4 1] (pc1 := 76) (ls1 := [some (.ref 28), some (.ref o1), some (.int x2), some (.int x3), some (.int (x4 + 1))]) (st1 := []) (h1 := h) (P := True) (by decide +kernel) rfl trivial ?_
        refine q_goto (off := -42) (tgt := 34) (by decide) (by decide +kernel) ?_
        cases e
        exact k
      · have e := it_t c_9 e
        refine sl_ok ok_Shapes_isConvex [.iconst 0] (pc1 := 72) (ls1 := [some (.ref 28), some (.ref o1), some (.int x2), some (.int x3), some (.int x4)]) (st1 := [.int 0]) (h1 := h) (P := True) (by decide +kernel) rfl trivial ?_
        cases e
        exact q_zret rfl (Or.inl rfl) k.1 k.2 (by decide +kernel)
def f_Shapes_isConvex (o1 : Nat) (x2 : Int32) (h : pH) : Option Int32 :=
  if 2 < (f_J_bitCount x2) then
    if (f_J_bitCount x2) = 3 then
      (f_Shapes_hasThreeOnOneLine o1 x2 h).bind fun v_3 =>
      if v_3 = 0 then
        some 1
      else
        some 0
    else
      lp (fun s => f_Shapes_isConvex_L1 o1 x2 (f_J_bitCount x2) h s) lpN 0
  else
    some 1
set_option maxHeartbeats 4000000 in
theorem b_Shapes_isConvex {E : pE} {r : Option Value} {hr : pH} {o1 : Nat} {x2 : Int32} {h : pH} (ho1 : ak o1 = 0 ∧ cx o1 = 0) {b : Int32} (e : f_Shapes_isConvex o1 x2 h = some b) (k : (fun v : Int32 => r = some (.int v) ∧ hr = h) b) : Go E M_Shapes_isConvex 0 [some (.ref 28), some (.ref o1), some (.int x2), none, none] [] h r hr := by
  unfold f_Shapes_isConvex at e
  refine sl_ok ok_Shapes_isConvex [.iload_n 2] (pc1 := 1) (ls1 := [some (.ref 28), some (.ref o1), some (.int x2), none, none]) (st1 := [.int x2]) (h1 := h) (P := True) (by decide +kernel) rfl trivial ?_
  refine q_callS ok_J_bitCount (as := [.int x2]) (st := []) ⟨wd_398, wd_302, wd_303, ds_J_bitCount, Nat.le_of_ble_eq_true rfl, Nat.le_of_ble_eq_true rfl⟩ (s_J_bitCount ) rfl (fun v hv => by cases hv; rfl) (Nat.le_of_ble_eq_true rfl) (by decide +kernel) rfl ?_
  refine sl_ok ok_Shapes_isConvex [.istore_n 3, .iload_n 3, .iconst 2] (pc1 := 7) (ls1 := [some (.ref 28), some (.ref o1), some (.int x2), some (.int (f_J_bitCount x2)), none]) (st1 := [.int 2, .int (f_J_bitCount x2)]) (h1 := h) (P := True) (by decide +kernel) rfl trivial ?_
  refine q_icmp_gt (off := 5) (tgt := 12) (by decide +kernel) (by decide) (fun c_1 => ?_) (fun c_1 => ?_)
  · have e := it_t c_1 e
    refine sl_ok ok_Shapes_isConvex [.iload_n 3, .iconst 3] (pc1 := 14) (ls1 := [some (.ref 28), some (.ref o1), some (.int x2), some (.int (f_J_bitCount x2)), none]) (st1 := [.int 3, .int (f_J_bitCount x2)]) (h1 := h) (P := True) (by decide +kernel) rfl trivial ?_
    refine q_icmp_ne (off := 17) (tgt := 31) (by decide +kernel) (by decide) (fun c_2 => ?_) (fun c_2 => ?_)
    · have e := it_f c_2 e
      refine sl_ok ok_Shapes_isConvex [.iconst 0, .istore 4] (pc1 := 34) (ls1 := [some (.ref 28), some (.ref o1), some (.int x2), some (.int (f_J_bitCount x2)), some (.int 0)]) (st1 := []) (h1 := h) (P := True) (by decide +kernel) rfl trivial ?_
      exact lp_in e (fun s => Go E M_Shapes_isConvex 34 [some (.ref 28), some (.ref o1), some (.int x2), some (.int (f_J_bitCount x2)), some (.int s)] [] h r hr) (fun v : Int32 => r = some (.int v) ∧ hr = h) (fun _ _ e k => b_Shapes_isConvex_L1 ho1 e k) k
    · have e := it_t c_2 e
      refine sl_ok ok_Shapes_isConvex [.aload_n 1, .iload_n 2] (pc1 := 19) (ls1 := [some (.ref 28), some (.ref o1), some (.int x2), some (.int (f_J_bitCount x2)), none]) (st1 := [.int x2, .ref o1]) (h1 := h) (P := True) (by decide +kernel) rfl trivial ?_
      obtain ⟨v_3, e_4, e⟩ := bi_s e
      refine q_callS ok_Shapes_hasThreeOnOneLine (as := [.ref o1, .int x2]) (st := []) ⟨wd_486, wd_487, wd_231, ds_Shapes_hasThreeOnOneLine, Nat.le_of_ble_eq_true rfl, Nat.le_of_ble_eq_true rfl⟩ (s_Shapes_hasThreeOnOneLine ho1 e_4) rfl (fun v hv => by cases hv; rfl) (Nat.le_of_ble_eq_true rfl) (by decide +kernel) rfl ?_
      refine q_if_ne (off := 7) (tgt := 29) (by decide +kernel) (by decide) (fun c_5 => ?_) (fun c_5 => ?_)
      · have e := it_f c_5 e
        refine sl_ok ok_Shapes_isConvex [.iconst 0] (pc1 := 30) (ls1 := [some (.ref 28), some (.ref o1), some (.int x2), some (.int (f_J_bitCount x2)), none]) (st1 := [.int 0]) (h1 := h) (P := True) (by decide +kernel) rfl trivial ?_
        cases e
        exact q_zret rfl (Or.inl rfl) k.1 k.2 (by decide +kernel)
      · have e := it_t c_5 e
        refine sl_ok ok_Shapes_isConvex [.iconst 1] (pc1 := 26) (ls1 := [some (.ref 28), some (.ref o1), some (.int x2), some (.int (f_J_bitCount x2)), none]) (st1 := [.int 1]) (h1 := h) (P := True) (by decide +kernel) rfl trivial ?_
        refine q_goto (off := 4) (tgt := 30) (by decide) (by decide +kernel) ?_
        cases e
        exact q_zret rfl (Or.inr rfl) k.1 k.2 (by decide +kernel)
  · have e := it_f c_1 e
    refine sl_ok ok_Shapes_isConvex [.iconst 1] (pc1 := 11) (ls1 := [some (.ref 28), some (.ref o1), some (.int x2), some (.int (f_J_bitCount x2)), none]) (st1 := [.int 1]) (h1 := h) (P := True) (by decide +kernel) rfl trivial ?_
    cases e
    exact q_zret rfl (Or.inr rfl) k.1 k.2 (by decide +kernel)
theorem s_Shapes_isConvex {E : pE} {o1 : Nat} {x2 : Int32} {h : pH} (ho1 : ak o1 = 0 ∧ cx o1 = 0) {v : Int32} (e : f_Shapes_isConvex o1 x2 h = some v) : Ct E M_Shapes_isConvex [.ref 28, .ref o1, .int x2] h (some (.int v)) h :=
  Ct_of ok_Shapes_isConvex [some (.ref 28), some (.ref o1), some (.int x2), none, none] (Nat.le_of_ble_eq_true rfl) rfl (b_Shapes_isConvex ho1 e ⟨rfl, rfl⟩)
def f_Shapes_greatestConvex_L1 (o1 : Nat) (x2 : Int32) (x3 : Int32) (h : pH) : Option ((Int32 × Int32 × pH) ⊕ (Int32 × pH)) :=
  if (f_Cloud_everyone o1 h) < x3 then
    some (.inr (x2, h))
  else
    (f_Shapes_isConvex o1 x3 h).bind fun v_2 =>
    if v_2 = 0 then
      some (.inl (x2, (x3 + 1), h))
    else
      (f_SetMarks_mark 29 x3 h).bind fun v_5 =>
      some (.inl ((jmax x2 (f_J_bitCount x3)), (x3 + 1), v_5))
set_option maxHeartbeats 4000000 in
theorem b_Shapes_greatestConvex_L1 {E : pE} {r : Option Value} {hr : pH} {o1 : Nat} {x2 : Int32} {x3 : Int32} {h : pH} (ho1 : ak o1 = 0 ∧ cx o1 = 0) {b : ((Int32 × Int32 × pH) ⊕ (Int32 × pH))} (e : f_Shapes_greatestConvex_L1 o1 x2 x3 h = some b) (k : (Sum.elim (fun s : (Int32 × Int32 × pH) => Go E M_Shapes_greatestConvex 11 [some (.ref 28), some (.ref o1), some (.int s.1), some (.int s.2.1)] [] s.2.2 r hr) (fun v : (Int32 × pH) => r = some (.int v.1) ∧ hr = v.2)) b) : Go E M_Shapes_greatestConvex 11 [some (.ref 28), some (.ref o1), some (.int x2), some (.int x3)] [] h r hr := by
  unfold f_Shapes_greatestConvex_L1 at e
  refine sl_ok ok_Shapes_greatestConvex [.iload_n 3, .aload_n 1] (pc1 := 13) (ls1 := [some (.ref 28), some (.ref o1), some (.int x2), some (.int x3)]) (st1 := [.ref o1, .int x3]) (h1 := h) (P := True) (by decide +kernel) rfl trivial ?_
  refine q_callV ok_Cloud_everyone (as := []) (st := [.int x3]) ⟨wd_515, wd_209, wd_210, wd_14, ds_Cloud_everyone, Nat.le_of_ble_eq_true rfl, Nat.le_of_ble_eq_true rfl⟩ (s_Cloud_everyone ho1) rfl ho1 (ci := 0) rfl (fun v hv => by cases hv; rfl) (Nat.le_of_ble_eq_true rfl) (by decide +kernel) rfl ?_
  refine q_icmp_gt (off := 35) (tgt := 51) (by decide +kernel) (by decide) (fun c_1 => ?_) (fun c_1 => ?_)
  · have e := it_t c_1 e
    refine sl_ok ok_Shapes_greatestConvex [.iload_n 2] (pc1 := 52) (ls1 := [some (.ref 28), some (.ref o1), some (.int x2), some (.int x3)]) (st1 := [.int x2]) (h1 := h) (P := True) (by decide +kernel) rfl trivial ?_
    cases e
    exact q_iret rfl k.1 k.2 (by decide +kernel)
  · have e := it_f c_1 e
    refine sl_ok ok_Shapes_greatestConvex [.aload_n 0, .aload_n 1, .iload_n 3] (pc1 := 22) (ls1 := [some (.ref 28), some (.ref o1), some (.int x2), some (.int x3)]) (st1 := [.int x3, .ref o1, .ref 28]) (h1 := h) (P := True) (by decide +kernel) rfl trivial ?_
    obtain ⟨v_2, e_3, e⟩ := bi_s e
    refine q_callV ok_Shapes_isConvex (as := [.ref o1, .int x3]) (st := []) ⟨wd_516, wd_517, wd_518, wd_231, ds_Shapes_isConvex, Nat.le_of_ble_eq_true rfl, Nat.le_of_ble_eq_true rfl⟩ (s_Shapes_isConvex ho1 e_3) rfl ⟨rfl, rfl⟩ (ci := 7) rfl (fun v hv => by cases hv; rfl) (Nat.le_of_ble_eq_true rfl) (by decide +kernel) rfl ?_
    refine q_if_eq (off := 20) (tgt := 45) (by decide +kernel) (by decide) (fun c_4 => ?_) (fun c_4 => ?_)
    · have e := it_t c_4 e
      refine sl_ok ok_Shapes_greatestConvex [.iinc 3 1] (pc1 := 48) (ls1 := [some (.ref 28), some (.ref o1), some (.int x2), some (.int (x3 + 1))]) (st1 := []) (h1 := h) (P := True) (by decide +kernel) rfl trivial ?_
      refine q_goto (off := -37) (tgt := 11) (by decide) (by decide +kernel) ?_
      cases e
      exact k
    · have e := it_f c_4 e
      refine sl_ok ok_Shapes_greatestConvex [.aload_n 0, .getfield 12, .iload_n 3] (pc1 := 33) (ls1 := [some (.ref 28), some (.ref o1), some (.int x2), some (.int x3)]) (st1 := [.int x3, .ref 29]) (h1 := h) (P := (ak 28 = 0 ∧ cx 28 = 7) ∧ True) (by decide +kernel) rfl ⟨⟨rfl, rfl⟩, trivial⟩ ?_
      obtain ⟨v_5, e_6, e⟩ := bi_s e
      refine q_callV ok_SetMarks_mark (as := [.int x3]) (st := []) ⟨wd_519, wd_334, wd_335, wd_336, ds_SetMarks_mark, Nat.le_of_ble_eq_true rfl, Nat.le_of_ble_eq_true rfl⟩ (s_SetMarks_mark ⟨rfl, rfl⟩ e_6) rfl ⟨rfl, rfl⟩ (ci := 6) rfl (fun v hv => by cases hv) (Nat.le_of_ble_eq_true rfl) (by decide +kernel) rfl ?_
      refine sl_ok ok_Shapes_greatestConvex [.iload_n 2, .iload_n 3] (pc1 := 38) (ls1 := [some (.ref 28), some (.ref o1), some (.int x2), some (.int x3)]) (st1 := [.int x3, .int x2]) (h1 := v_5) (P := True) (by decide +kernel) rfl trivial ?_
      refine q_callS ok_J_bitCount (as := [.int x3]) (st := [.int x2]) ⟨wd_398, wd_302, wd_303, ds_J_bitCount, Nat.le_of_ble_eq_true rfl, Nat.le_of_ble_eq_true rfl⟩ (s_J_bitCount ) rfl (fun v hv => by cases hv; rfl) (Nat.le_of_ble_eq_true rfl) (by decide +kernel) rfl ?_
      refine q_mmax wd_520 (Nat.le_of_ble_eq_true rfl) (Nat.le_of_ble_eq_true rfl) (by decide +kernel) ?_
      refine sl_ok ok_Shapes_greatestConvex [.istore_n 2, .iinc 3 1] (pc1 := 48) (ls1 := [some (.ref 28), some (.ref o1), some (.int (jmax x2 (f_J_bitCount x3))), some (.int (x3 + 1))]) (st1 := []) (h1 := v_5) (P := True) (by decide +kernel) rfl trivial ?_
      refine q_goto (off := -37) (tgt := 11) (by decide) (by decide +kernel) ?_
      cases e
      exact k
def f_Shapes_greatestConvex (o1 : Nat) (h : pH) : Option (Int32 × pH) :=
  (f_SetMarks_clear 29 h).bind fun v_1 =>
  lp (fun s => f_Shapes_greatestConvex_L1 o1 s.1 s.2.1 s.2.2) lpN (0, 0, v_1)
set_option maxHeartbeats 4000000 in
theorem b_Shapes_greatestConvex {E : pE} {r : Option Value} {hr : pH} {o1 : Nat} {h : pH} (ho1 : ak o1 = 0 ∧ cx o1 = 0) {b : (Int32 × pH)} (e : f_Shapes_greatestConvex o1 h = some b) (k : (fun v : (Int32 × pH) => r = some (.int v.1) ∧ hr = v.2) b) : Go E M_Shapes_greatestConvex 0 [some (.ref 28), some (.ref o1), none, none] [] h r hr := by
  unfold f_Shapes_greatestConvex at e
  refine sl_ok ok_Shapes_greatestConvex [.iconst 0, .istore_n 2, .aload_n 0, .getfield 12] (pc1 := 6) (ls1 := [some (.ref 28), some (.ref o1), some (.int 0), none]) (st1 := [.ref 29]) (h1 := h) (P := (ak 28 = 0 ∧ cx 28 = 7) ∧ True) (by decide +kernel) rfl ⟨⟨rfl, rfl⟩, trivial⟩ ?_
  obtain ⟨v_1, e_2, e⟩ := bi_s e
  refine q_callV ok_SetMarks_clear (as := []) (st := []) ⟨wd_514, wd_346, wd_347, wd_336, ds_SetMarks_clear, Nat.le_of_ble_eq_true rfl, Nat.le_of_ble_eq_true rfl⟩ (s_SetMarks_clear ⟨rfl, rfl⟩ e_2) rfl ⟨rfl, rfl⟩ (ci := 6) rfl (fun v hv => by cases hv) (Nat.le_of_ble_eq_true rfl) (by decide +kernel) rfl ?_
  refine sl_ok ok_Shapes_greatestConvex [.iconst 0, .istore_n 3] (pc1 := 11) (ls1 := [some (.ref 28), some (.ref o1), some (.int 0), some (.int 0)]) (st1 := []) (h1 := v_1) (P := True) (by decide +kernel) rfl trivial ?_
  exact lp_in e (fun s => Go E M_Shapes_greatestConvex 11 [some (.ref 28), some (.ref o1), some (.int s.1), some (.int s.2.1)] [] s.2.2 r hr) (fun v : (Int32 × pH) => r = some (.int v.1) ∧ hr = v.2) (fun _ _ e k => b_Shapes_greatestConvex_L1 ho1 e k) k
theorem s_Shapes_greatestConvex {E : pE} {o1 : Nat} {h : pH} (ho1 : ak o1 = 0 ∧ cx o1 = 0) {v : (Int32 × pH)} (e : f_Shapes_greatestConvex o1 h = some v) : Ct E M_Shapes_greatestConvex [.ref 28, .ref o1] h (some (.int v.1)) v.2 :=
  Ct_of ok_Shapes_greatestConvex [some (.ref 28), some (.ref o1), none, none] (Nat.le_of_ble_eq_true rfl) rfl (b_Shapes_greatestConvex ho1 e ⟨rfl, rfl⟩)
def f_Shapes_isEmpty_L1 (o0 : Nat) (x1 : Int32) (h : pH) (x2 : Int32) : Option (Int32 ⊕ Int32) :=
  if (hI h o0 2) ≤ x2 then
    some (.inr 1)
  else
    if (f_C_bit x1 x2) = 0 then
      if x2 < 0 ∨ 12 ≤ x2.toNatClampNeg then none else
      (f_Shapes_covers o0 x1 (hI h (rf o0 0) x2.toNatClampNeg) (hI h (rf o0 1) x2.toNatClampNeg) h).bind fun v_4 =>
      if v_4 = 0 then
        some (.inl (x2 + 1))
      else
        some (.inr 0)
    else
      some (.inl (x2 + 1))
set_option maxHeartbeats 4000000 in
theorem b_Shapes_isEmpty_L1 {E : pE} {r : Option Value} {hr : pH} {o0 : Nat} {x1 : Int32} {h : pH} {x2 : Int32} (ho0 : ak o0 = 0 ∧ cx o0 = 0) {b : (Int32 ⊕ Int32)} (e : f_Shapes_isEmpty_L1 o0 x1 h x2 = some b) (k : (Sum.elim (fun s : Int32 => Go E M_Shapes_isEmpty 2 [some (.ref o0), some (.int x1), some (.int s)] [] h r hr) (fun v : Int32 => r = some (.int v) ∧ hr = h)) b) : Go E M_Shapes_isEmpty 2 [some (.ref o0), some (.int x1), some (.int x2)] [] h r hr := by
  unfold f_Shapes_isEmpty_L1 at e
  refine sl_ok ok_Shapes_isEmpty [.iload_n 2, .aload_n 0, .getfield 18] (pc1 := 7) (ls1 := [some (.ref o0), some (.int x1), some (.int x2)]) (st1 := [.int (hI h o0 2), .int x2]) (h1 := h) (P := (ak o0 = 0 ∧ cx o0 = 0) ∧ True) (by decide +kernel) rfl ⟨ho0, trivial⟩ ?_
  refine q_icmp_ge (off := 39) (tgt := 46) (by decide +kernel) (by decide) (fun c_1 => ?_) (fun c_1 => ?_)
  · have e := it_t c_1 e
    refine sl_ok ok_Shapes_isEmpty [.iconst 1] (pc1 := 47) (ls1 := [some (.ref o0), some (.int x1), some (.int x2)]) (st1 := [.int 1]) (h1 := h) (P := True) (by decide +kernel) rfl trivial ?_
    cases e
    exact q_zret rfl (Or.inr rfl) k.1 k.2 (by decide +kernel)
  · have e := it_f c_1 e
    refine sl_ok ok_Shapes_isEmpty [.iload_n 1, .iload_n 2] (pc1 := 12) (ls1 := [some (.ref o0), some (.int x1), some (.int x2)]) (st1 := [.int x2, .int x1]) (h1 := h) (P := True) (by decide +kernel) rfl trivial ?_
    refine q_callSN ok_C_bit (as := [.int x1, .int x2]) (st := []) ⟨(List.mem_of_getElem? (i := 16) rfl), wd_201, wd_48, ds_C_bit, Nat.le_of_ble_eq_true rfl, Nat.le_of_ble_eq_true rfl⟩ (s_C_bit ) rfl (fun v hv => by cases hv; rfl) (Nat.le_of_ble_eq_true rfl) (by decide +kernel) rfl ?_
    refine q_if_ne (off := 25) (tgt := 40) (by decide +kernel) (by decide) (fun c_2 => ?_) (fun c_2 => ?_)
    · have e := it_f c_2 e
      refine sl_ok ok_Shapes_isEmpty [.iinc 2 1] (pc1 := 43) (ls1 := [some (.ref o0), some (.int x1), some (.int (x2 + 1))]) (st1 := []) (h1 := h) (P := True) (by decide +kernel) rfl trivial ?_
      refine q_goto (off := -41) (tgt := 2) (by decide) (by decide +kernel) ?_
      cases e
      exact k
    · have e := it_t c_2 e
      obtain ⟨g_3, e⟩ := it_g e
      refine sl_ok ok_Shapes_isEmpty [.aload_n 0, .iload_n 1, .aload_n 0, .getfield 40, .iload_n 2, .iaload, .aload_n 0, .getfield 44, .iload_n 2, .iaload] (pc1 := 32) (ls1 := [some (.ref o0), some (.int x1), some (.int x2)]) (st1 := [.int (hI h (rf o0 1) x2.toNatClampNeg), .int (hI h (rf o0 0) x2.toNatClampNeg), .int x1, .ref o0]) (h1 := h) (P := (ak o0 = 0 ∧ cx o0 = 0) ∧ (ak (rf o0 0) = 1 ∧ ¬ (x2 < 0 ∨ cx (rf o0 0) ≤ x2.toNatClampNeg)) ∧ (ak o0 = 0 ∧ cx o0 = 0) ∧ (ak (rf o0 1) = 1 ∧ ¬ (x2 < 0 ∨ cx (rf o0 1) ≤ x2.toNatClampNeg)) ∧ True) (by decide +kernel) rfl ⟨ho0, ⟨(st_0_0 ho0).1, (by rw [(st_0_0 ho0).2]; exact g_3)⟩, ho0, ⟨(st_0_1 ho0).1, (by rw [(st_0_1 ho0).2]; exact g_3)⟩, trivial⟩ ?_
      obtain ⟨v_4, e_5, e⟩ := bi_s e
      refine q_callS ok_Shapes_covers (as := [.ref o0, .int x1, .int (hI h (rf o0 0) x2.toNatClampNeg), .int (hI h (rf o0 1) x2.toNatClampNeg)]) (st := []) ⟨wd_404, wd_405, wd_231, ds_Shapes_covers, Nat.le_of_ble_eq_true rfl, Nat.le_of_ble_eq_true rfl⟩ (s_Shapes_covers ho0 e_5) rfl (fun v hv => by cases hv; rfl) (Nat.le_of_ble_eq_true rfl) (by decide +kernel) rfl ?_
      refine q_if_eq (off := 5) (tgt := 40) (by decide +kernel) (by decide) (fun c_6 => ?_) (fun c_6 => ?_)
      · have e := it_t c_6 e
        refine sl_ok ok_Shapes_isEmpty [.iinc 2 1] (pc1 := 43) (ls1 := [some (.ref o0), some (.int x1), some (.int (x2 + 1))]) (st1 := []) (h1 := h) (P := True) (by decide +kernel) rfl trivial ?_
        refine q_goto (off := -41) (tgt := 2) (by decide) (by decide +kernel) ?_
        cases e
        exact k
      · have e := it_f c_6 e
        refine sl_ok ok_Shapes_isEmpty [.iconst 0] (pc1 := 39) (ls1 := [some (.ref o0), some (.int x1), some (.int x2)]) (st1 := [.int 0]) (h1 := h) (P := True) (by decide +kernel) rfl trivial ?_
        cases e
        exact q_zret rfl (Or.inl rfl) k.1 k.2 (by decide +kernel)
def f_Shapes_isEmpty (o0 : Nat) (x1 : Int32) (h : pH) : Option Int32 :=
  lp (fun s => f_Shapes_isEmpty_L1 o0 x1 h s) lpN 0
set_option maxHeartbeats 4000000 in
theorem b_Shapes_isEmpty {E : pE} {r : Option Value} {hr : pH} {o0 : Nat} {x1 : Int32} {h : pH} (ho0 : ak o0 = 0 ∧ cx o0 = 0) {b : Int32} (e : f_Shapes_isEmpty o0 x1 h = some b) (k : (fun v : Int32 => r = some (.int v) ∧ hr = h) b) : Go E M_Shapes_isEmpty 0 [some (.ref o0), some (.int x1), none] [] h r hr := by
  unfold f_Shapes_isEmpty at e
  refine sl_ok ok_Shapes_isEmpty [.iconst 0, .istore_n 2] (pc1 := 2) (ls1 := [some (.ref o0), some (.int x1), some (.int 0)]) (st1 := []) (h1 := h) (P := True) (by decide +kernel) rfl trivial ?_
  exact lp_in e (fun s => Go E M_Shapes_isEmpty 2 [some (.ref o0), some (.int x1), some (.int s)] [] h r hr) (fun v : Int32 => r = some (.int v) ∧ hr = h) (fun _ _ e k => b_Shapes_isEmpty_L1 ho0 e k) k
theorem s_Shapes_isEmpty {E : pE} {o0 : Nat} {x1 : Int32} {h : pH} (ho0 : ak o0 = 0 ∧ cx o0 = 0) {v : Int32} (e : f_Shapes_isEmpty o0 x1 h = some v) : Ct E M_Shapes_isEmpty [.ref o0, .int x1] h (some (.int v)) h :=
  Ct_of ok_Shapes_isEmpty [some (.ref o0), some (.int x1), none] (Nat.le_of_ble_eq_true rfl) rfl (b_Shapes_isEmpty ho0 e ⟨rfl, rfl⟩)
