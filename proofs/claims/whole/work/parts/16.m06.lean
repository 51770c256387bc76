def f_R_isBetween (x1 : Int32) (x2 : Int32) (x3 : Int32) (h : pH) : Option Int32 :=
  if x1 = x2 then
    some 0
  else
    if x1 = x3 then
      some 0
    else
      if x2 = x3 then
        some 0
      else
        (f_R_sideOf x2 x3 x1 h).bind fun v_4 =>
        if v_4 = 0 then
          (f_R_x x1 h).bind fun v_7 =>
          (f_R_x x2 h).bind fun v_9 =>
          (f_R_x x1 h).bind fun v_11 =>
          (f_R_x x3 h).bind fun v_13 =>
          (f_R_y x1 h).bind fun v_15 =>
          (f_R_y x2 h).bind fun v_17 =>
          (f_R_y x1 h).bind fun v_19 =>
          (f_R_y x3 h).bind fun v_21 =>
          if 0 ≤ (((v_7 - v_9) * (v_11 - v_13)) + ((v_15 - v_17) * (v_19 - v_21))) then
            some 0
          else
            some 1
        else
          some 0
set_option maxHeartbeats 4000000 in
theorem b_R_isBetween {E : pE} {r : Option Value} {hr : pH} {x1 : Int32} {x2 : Int32} {x3 : Int32} {h : pH}  {b : Int32} (e : f_R_isBetween x1 x2 x3 h = some b) (k : (fun v : Int32 => r = some (.int v) ∧ hr = h) b) : Go E M_R_isBetween 0 [some (.ref 79), some (.int x1), some (.int x2), some (.int x3)] [] h r hr := by
  unfold f_R_isBetween at e
  refine sl_ok ok_R_isBetween [.iload_n 1, .iload_n 2] (pc1 := 2) (ls1 := [some (.ref 79), some (.int x1), some (.int x2), some (.int x3)]) (st1 := [.int x2, .int x1]) (h1 := h) (P := True) (by decide +kernel) rfl trivial ?_
  refine q_icmp_eq (off := 23) (tgt := 25) (by decide +kernel) (by decide) (fun c_1 => ?_) (fun c_1 => ?_)
  · have e := it_t c_1 e
    refine sl_ok ok_R_isBetween [.iconst 0] (pc1 := 26) (ls1 := [some (.ref 79), some (.int x1), some (.int x2), some (.int x3)]) (st1 := [.int 0]) (h1 := h) (P := True) (by decide +kernel) rfl trivial ?_
    cases e
    exact q_zret rfl (Or.inl rfl) k.1 k.2 (by decide +kernel)
  · have e := it_f c_1 e
    refine sl_ok ok_R_isBetween [.iload_n 1, .iload_n 3] (pc1 := 7) (ls1 := [some (.ref 79), some (.int x1), some (.int x2), some (.int x3)]) (st1 := [.int x3, .int x1]) (h1 := h) (P := True) (by decide +kernel) rfl trivial ?_
    refine q_icmp_eq (off := 18) (tgt := 25) (by decide +kernel) (by decide) (fun c_2 => ?_) (fun c_2 => ?_)
    · have e := it_t c_2 e
      refine sl_ok ok_R_isBetween [.iconst 0] (pc1 := 26) (ls1 := [some (.ref 79), some (.int x1), some (.int x2), some (.int x3)]) (st1 := [.int 0]) (h1 := h) (P := True) (by decide +kernel) rfl trivial ?_
      cases e
      exact q_zret rfl (Or.inl rfl) k.1 k.2 (by decide +kernel)
    · have e := it_f c_2 e
      refine sl_ok ok_R_isBetween [.iload_n 2, .iload_n 3] (pc1 := 12) (ls1 := [some (.ref 79), some (.int x1), some (.int x2), some (.int x3)]) (st1 := [.int x3, .int x2]) (h1 := h) (P := True) (by decide +kernel) rfl trivial ?_
      refine q_icmp_eq (off := 13) (tgt := 25) (by decide +kernel) (by decide) (fun c_3 => ?_) (fun c_3 => ?_)
      · have e := it_t c_3 e
        refine sl_ok ok_R_isBetween [.iconst 0] (pc1 := 26) (ls1 := [some (.ref 79), some (.int x1), some (.int x2), some (.int x3)]) (st1 := [.int 0]) (h1 := h) (P := True) (by decide +kernel) rfl trivial ?_
        cases e
        exact q_zret rfl (Or.inl rfl) k.1 k.2 (by decide +kernel)
      · have e := it_f c_3 e
        refine sl_ok ok_R_isBetween [.aload_n 0, .iload_n 2, .iload_n 3, .iload_n 1] (pc1 := 19) (ls1 := [some (.ref 79), some (.int x1), some (.int x2), some (.int x3)]) (st1 := [.int x1, .int x3, .int x2, .ref 79]) (h1 := h) (P := True) (by decide +kernel) rfl trivial ?_
        obtain ⟨v_4, e_5, e⟩ := bi_s e
        refine q_callV ok_R_sideOf (as := [.int x2, .int x3, .int x1]) (st := []) ⟨wd_257, wd_258, wd_259, wd_7, ds_R_sideOf, Nat.le_of_ble_eq_true rfl, Nat.le_of_ble_eq_true rfl⟩ (s_R_sideOf  e_5) rfl ⟨rfl, rfl⟩ (ci := 12) rfl (fun v hv => by cases hv; rfl) (Nat.le_of_ble_eq_true rfl) (by decide +kernel) rfl ?_
        refine q_if_eq (off := 5) (tgt := 27) (by decide +kernel) (by decide) (fun c_6 => ?_) (fun c_6 => ?_)
        · have e := it_t c_6 e
          refine sl_ok ok_R_isBetween [.aload_n 0, .iload_n 1] (pc1 := 29) (ls1 := [some (.ref 79), some (.int x1), some (.int x2), some (.int x3)]) (st1 := [.int x1, .ref 79]) (h1 := h) (P := True) (by decide +kernel) rfl trivial ?_
          obtain ⟨v_7, e_8, e⟩ := bi_s e
          refine q_callV ok_R_x (as := [.int x1]) (st := []) ⟨wd_154, wd_155, wd_156, wd_7, ds_R_x, Nat.le_of_ble_eq_true rfl, Nat.le_of_ble_eq_true rfl⟩ (s_R_x  e_8) rfl ⟨rfl, rfl⟩ (ci := 12) rfl (fun v hv => by cases hv; rfl) (Nat.le_of_ble_eq_true rfl) (by decide +kernel) rfl ?_
          refine sl_ok ok_R_isBetween [.aload_n 0, .iload_n 2] (pc1 := 34) (ls1 := [some (.ref 79), some (.int x1), some (.int x2), some (.int x3)]) (st1 := [.int x2, .ref 79, .int v_7]) (h1 := h) (P := True) (by decide +kernel) rfl trivial ?_
          obtain ⟨v_9, e_10, e⟩ := bi_s e
          refine q_callV ok_R_x (as := [.int x2]) (st := [.int v_7]) ⟨wd_154, wd_155, wd_156, wd_7, ds_R_x, Nat.le_of_ble_eq_true rfl, Nat.le_of_ble_eq_true rfl⟩ (s_R_x  e_10) rfl ⟨rfl, rfl⟩ (ci := 12) rfl (fun v hv => by cases hv; rfl) (Nat.le_of_ble_eq_true rfl) (by decide +kernel) rfl ?_
          refine sl_ok ok_R_isBetween [.isub, .aload_n 0, .iload_n 1] (pc1 := 40) (ls1 := [some (.ref 79), some (.int x1), some (.int x2), some (.int x3)]) (st1 := [.int x1, .ref 79, .int (v_7 - v_9)]) (h1 := h) (P := True) (by decide +kernel) rfl trivial ?_
          obtain ⟨v_11, e_12, e⟩ := bi_s e
          refine q_callV ok_R_x (as := [.int x1]) (st := [.int (v_7 - v_9)]) ⟨wd_154, wd_155, wd_156, wd_7, ds_R_x, Nat.le_of_ble_eq_true rfl, Nat.le_of_ble_eq_true rfl⟩ (s_R_x  e_12) rfl ⟨rfl, rfl⟩ (ci := 12) rfl (fun v hv => by cases hv; rfl) (Nat.le_of_ble_eq_true rfl) (by decide +kernel) rfl ?_
          refine sl_ok ok_R_isBetween [.aload_n 0, .iload_n 3] (pc1 := 45) (ls1 := [some (.ref 79), some (.int x1), some (.int x2), some (.int x3)]) (st1 := [.int x3, .ref 79, .int v_11, .int (v_7 - v_9)]) (h1 := h) (P := True) (by decide +kernel) rfl trivial ?_
          obtain ⟨v_13, e_14, e⟩ := bi_s e
          refine q_callV ok_R_x (as := [.int x3]) (st := [.int v_11, .int (v_7 - v_9)]) ⟨wd_154, wd_155, wd_156, wd_7, ds_R_x, Nat.le_of_ble_eq_true rfl, Nat.le_of_ble_eq_true rfl⟩ (s_R_x  e_14) rfl ⟨rfl, rfl⟩ (ci := 12) rfl (fun v hv => by cases hv; rfl) (Nat.le_of_ble_eq_true rfl) (by decide +kernel) rfl ?_
          refine sl_ok ok_R_isBetween [.isub, .imul, .aload_n 0, .iload_n 1] (pc1 := 52) (ls1 := [some (.ref 79), some (.int x1), some (.int x2), some (.int x3)]) (st1 := [.int x1, .ref 79, .int ((v_7 - v_9) * (v_11 - v_13))]) (h1 := h) (P := True) (by decide +kernel) rfl trivial ?_
          obtain ⟨v_15, e_16, e⟩ := bi_s e
          refine q_callV ok_R_y (as := [.int x1]) (st := [.int ((v_7 - v_9) * (v_11 - v_13))]) ⟨wd_157, wd_158, wd_159, wd_7, ds_R_y, Nat.le_of_ble_eq_true rfl, Nat.le_of_ble_eq_true rfl⟩ (s_R_y  e_16) rfl ⟨rfl, rfl⟩ (ci := 12) rfl (fun v hv => by cases hv; rfl) (Nat.le_of_ble_eq_true rfl) (by decide +kernel) rfl ?_
          refine sl_ok ok_R_isBetween [.aload_n 0, .iload_n 2] (pc1 := 57) (ls1 := [some (.ref 79), some (.int x1), some (.int x2), some (.int x3)]) (st1 := [.int x2, .ref 79, .int v_15, .int ((v_7 - v_9) * (v_11 - v_13))]) (h1 := h) (P := True) (by decide +kernel) rfl trivial ?_
          obtain ⟨v_17, e_18, e⟩ := bi_s e
          refine q_callV ok_R_y (as := [.int x2]) (st := [.int v_15, .int ((v_7 - v_9) * (v_11 - v_13))]) ⟨wd_157, wd_158, wd_159, wd_7, ds_R_y, Nat.le_of_ble_eq_true rfl, Nat.le_of_ble_eq_true rfl⟩ (s_R_y  e_18) rfl ⟨rfl, rfl⟩ (ci := 12) rfl (fun v hv => by cases hv; rfl) (Nat.le_of_ble_eq_true rfl) (by decide +kernel) rfl ?_
          refine sl_ok ok_R_isBetween [.isub, .aload_n 0, .iload_n 1] (pc1 := 63) (ls1 := [some (.ref 79), some (.int x1), some (.int x2), some (.int x3)]) (st1 := [.int x1, .ref 79, .int (v_15 - v_17), .int ((v_7 - v_9) * (v_11 - v_13))]) (h1 := h) (P := True) (by decide +kernel) rfl trivial ?_
          obtain ⟨v_19, e_20, e⟩ := bi_s e
          refine q_callV ok_R_y (as := [.int x1]) (st := [.int (v_15 - v_17), .int ((v_7 - v_9) * (v_11 - v_13))]) ⟨wd_157, wd_158, wd_159, wd_7, ds_R_y, Nat.le_of_ble_eq_true rfl, Nat.le_of_ble_eq_true rfl⟩ (s_R_y  e_20) rfl ⟨rfl, rfl⟩ (ci := 12) rfl (fun v hv => by cases hv; rfl) (Nat.le_of_ble_eq_true rfl) (by decide +kernel) rfl ?_
          refine sl_ok ok_R_isBetween [.aload_n 0, .iload_n 3] (pc1 := 68) (ls1 := [some (.ref 79), some (.int x1), some (.int x2), some (.int x3)]) (st1 := [.int x3, .ref 79, .int v_19, .int (v_15 - v_17), .int ((v_7 - v_9) * (v_11 - v_13))]) (h1 := h) (P := True) (by decide +kernel) rfl trivial ?_
          obtain ⟨v_21, e_22, e⟩ := bi_s e
          refine q_callV ok_R_y (as := [.int x3]) (st := [.int v_19, .int (v_15 - v_17), .int ((v_7 - v_9) * (v_11 - v_13))]) ⟨wd_157, wd_158, wd_159, wd_7, ds_R_y, Nat.le_of_ble_eq_true rfl, Nat.le_of_ble_eq_true rfl⟩ (s_R_y  e_22) rfl ⟨rfl, rfl⟩ (ci := 12) rfl (fun v hv => by cases hv; rfl) (Nat.le_of_ble_eq_true rfl) (by decide +kernel) rfl ?_
          refine sl_ok ok_R_isBetween [.isub, .imul, .iadd] (pc1 := 74) (ls1 := [some (.ref 79), some (.int x1), some (.int x2), some (.int x3)]) (st1 := [.int (((v_7 - v_9) * (v_11 - v_13)) + ((v_15 - v_17) * (v_19 - v_21)))]) (h1 := h) (P := True) (by decide +kernel) rfl trivial ?_
          refine q_if_ge (off := 7) (tgt := 81) (by decide +kernel) (by decide) (fun c_23 => ?_) (fun c_23 => ?_)
          · have e := it_t c_23 e
            refine sl_ok ok_R_isBetween [.iconst 0] (pc1 := 82) (ls1 := [some (.ref 79), some (.int x1), some (.int x2), some (.int x3)]) (st1 := [.int 0]) (h1 := h) (P := True) (by decide +kernel) rfl trivial ?_
            cases e
            exact q_zret rfl (Or.inl rfl) k.1 k.2 (by decide +kernel)
          · have e := it_f c_23 e
            refine sl_ok ok_R_isBetween [.iconst 1] (pc1 := 78) (ls1 := [some (.ref 79), some (.int x1), some (.int x2), some (.int x3)]) (st1 := [.int 1]) (h1 := h) (P := True) (by decide +kernel) rfl trivial ?_
            refine q_goto (off := 4) (tgt := 82) (by decide) (by decide +kernel) ?_
            cases e
            exact q_zret rfl (Or.inr rfl) k.1 k.2 (by decide +kernel)
        · have e := it_f c_6 e
          refine sl_ok ok_R_isBetween [.iconst 0] (pc1 := 26) (ls1 := [some (.ref 79), some (.int x1), some (.int x2), some (.int x3)]) (st1 := [.int 0]) (h1 := h) (P := True) (by decide +kernel) rfl trivial ?_
          cases e
          exact q_zret rfl (Or.inl rfl) k.1 k.2 (by decide +kernel)
theorem s_R_isBetween {E : pE} {x1 : Int32} {x2 : Int32} {x3 : Int32} {h : pH}  {v : Int32} (e : f_R_isBetween x1 x2 x3 h = some v) : Ct E M_R_isBetween [.ref 79, .int x1, .int x2, .int x3] h (some (.int v)) h :=
  Ct_of ok_R_isBetween [some (.ref 79), some (.int x1), some (.int x2), some (.int x3)] (Nat.le_of_ble_eq_true rfl) rfl (b_R_isBetween  e ⟨rfl, rfl⟩)
def f_R_cornersOf_L3 (x2 : Int32) (x4 : Int32) (x5 : Int32) (h : pH) (x3 : Int32) (x6 : Int32) : Option ((Int32 × Int32) ⊕ ((Int32 × Int32) ⊕ ((Int32 × Int32) ⊕ Int32))) :=
  if x5 ≤ x6 then
    some (.inr (.inl (x3, (x5 + 1))))
  else
    if (f_R_has x2 x5) = 0 then
      some (.inl (x3, (x6 + 1)))
    else
      if (f_R_has x2 x6) = 0 then
        some (.inl (x3, (x6 + 1)))
      else
        (f_R_isBetween x4 x5 x6 h).bind fun v_4 =>
        if v_4 = 0 then
          some (.inl (x3, (x6 + 1)))
        else
          some (.inl ((x3 &&& ((jshl 1 x4) ^^^ (-1))), (x6 + 1)))
set_option maxHeartbeats 4000000 in
theorem b_R_cornersOf_L3 {E : pE} {r : Option Value} {hr : pH} {x2 : Int32} {x4 : Int32} {x5 : Int32} {h : pH} {x3 : Int32} {x6 : Int32}  {b : ((Int32 × Int32) ⊕ ((Int32 × Int32) ⊕ ((Int32 × Int32) ⊕ Int32)))} (e : f_R_cornersOf_L3 x2 x4 x5 h x3 x6 = some b) (k : (Sum.elim (fun s : (Int32 × Int32) => Go E M_R_cornersOf 47 [some (.ref 79), none, some (.int x2), some (.int s.1), some (.int x4), some (.int x5), some (.int s.2)] [] h r hr) (Sum.elim (fun s : (Int32 × Int32) => Go E M_R_cornersOf 35 [some (.ref 79), none, some (.int x2), some (.int s.1), some (.int x4), some (.int s.2), none] [] h r hr) (Sum.elim (fun s : (Int32 × Int32) => Go E M_R_cornersOf 11 [some (.ref 79), none, some (.int x2), some (.int s.1), some (.int s.2), none, none] [] h r hr) (fun v : Int32 => r = some (.int v) ∧ hr = h)))) b) : Go E M_R_cornersOf 47 [some (.ref 79), none, some (.int x2), some (.int x3), some (.int x4), some (.int x5), some (.int x6)] [] h r hr := by
  unfold f_R_cornersOf_L3 at e
  refine sl_ok ok_R_cornersOf [.iload 6, .iload 5] (pc1 := 51) (ls1 := [some (.ref 79), none, some (.int x2), some (.int x3), some (.int x4), some (.int x5), some (.int x6)]) (st1 := [.int x5, .int x6]) (h1 := h) (P := True) (by decide +kernel) rfl trivial ?_
  refine q_icmp_ge (off := 49) (tgt := 100) (by decide +kernel) (by decide) (fun c_1 => ?_) (fun c_1 => ?_)
  · have e := it_t c_1 e
    refine sl_ok ok_R_cornersOf [.iinc 5 1] (pc1 := 103) (ls1 := [some (.ref 79), none, some (.int x2), some (.int x3), some (.int x4), some (.int (x5 + 1)), some (.int x6)]) (st1 := []) (h1 := h) (P := True) (by decide +kernel) rfl trivial ?_
    refine q_goto (off := -68) (tgt := 35) (by decide) (by decide +kernel) ?_
    cases e
    refine Go.sb [some (.ref 79), none, some (.int x2), some (.int x3), some (.int x4), some (.int (x5 + 1)), none] (And.intro rfl (And.intro rfl (And.intro rfl (And.intro rfl (And.intro rfl trivial))))) ?_
    exact k
  · have e := it_f c_1 e
    refine sl_ok ok_R_cornersOf [.iload_n 2, .iload 5] (pc1 := 57) (ls1 := [some (.ref 79), none, some (.int x2), some (.int x3), some (.int x4), some (.int x5), some (.int x6)]) (st1 := [.int x5, .int x2]) (h1 := h) (P := True) (by decide +kernel) rfl trivial ?_
    refine q_callS ok_R_has (as := [.int x2, .int x5]) (st := []) ⟨wd_255, wd_256, wd_7, ds_R_has, Nat.le_of_ble_eq_true rfl, Nat.le_of_ble_eq_true rfl⟩ (s_R_has ) rfl (fun v hv => by cases hv; rfl) (Nat.le_of_ble_eq_true rfl) (by decide +kernel) rfl ?_
    refine q_if_eq (off := 34) (tgt := 94) (by decide +kernel) (by decide) (fun c_2 => ?_) (fun c_2 => ?_)
    · have e := it_t c_2 e
      refine sl_ok ok_R_cornersOf [.iinc 6 1] (pc1 := 97) (ls1 := [some (.ref 79), none, some (.int x2), some (.int x3), some (.int x4), some (.int x5), some (.int (x6 + 1))]) (st1 := []) (h1 := h) (P := True) (by decide +kernel) rfl trivial ?_
      refine q_goto (off := -50) (tgt := 47) (by decide) (by decide +kernel) ?_
      cases e
      exact k
    · have e := it_f c_2 e
      refine sl_ok ok_R_cornersOf [.iload_n 2, .iload 6] (pc1 := 66) (ls1 := [some (.ref 79), none, some (.int x2), some (.int x3), some (.int x4), some (.int x5), some (.int x6)]) (st1 := [.int x6, .int x2]) (h1 := h) (P := True) (by decide +kernel) rfl trivial ?_
      refine q_callS ok_R_has (as := [.int x2, .int x6]) (st := []) ⟨wd_255, wd_256, wd_7, ds_R_has, Nat.le_of_ble_eq_true rfl, Nat.le_of_ble_eq_true rfl⟩ (s_R_has ) rfl (fun v hv => by cases hv; rfl) (Nat.le_of_ble_eq_true rfl) (by decide +kernel) rfl ?_
      refine q_if_eq (off := 25) (tgt := 94) (by decide +kernel) (by decide) (fun c_3 => ?_) (fun c_3 => ?_)
      · have e := it_t c_3 e
        refine sl_ok ok_R_cornersOf [.iinc 6 1] (pc1 := 97) (ls1 := [some (.ref 79), none, some (.int x2), some (.int x3), some (.int x4), some (.int x5), some (.int (x6 + 1))]) (st1 := []) (h1 := h) (P := True) (by decide +kernel) rfl trivial ?_
        refine q_goto (off := -50) (tgt := 47) (by decide) (by decide +kernel) ?_
        cases e
        exact k
      · have e := it_f c_3 e
        refine sl_ok ok_R_cornersOf [.aload_n 0, .iload 4, .iload 5, .iload 6] (pc1 := 79) (ls1 := [some (.ref 79), none, some (.int x2), some (.int x3), some (.int x4), some (.int x5), some (.int x6)]) (st1 := [.int x6, .int x5, .int x4, .ref 79]) (h1 := h) (P := True) (by decide +kernel) rfl trivial ?_
        obtain ⟨v_4, e_5, e⟩ := bi_s e
        refine q_callV ok_R_isBetween (as := [.int x4, .int x5, .int x6]) (st := []) ⟨wd_277, wd_278, wd_279, wd_7, ds_R_isBetween, Nat.le_of_ble_eq_true rfl, Nat.le_of_ble_eq_true rfl⟩ (s_R_isBetween  e_5) rfl ⟨rfl, rfl⟩ (ci := 12) rfl (fun v hv => by cases hv; rfl) (Nat.le_of_ble_eq_true rfl) (by decide +kernel) rfl ?_
        refine q_if_eq (off := 12) (tgt := 94) (by decide +kernel) (by decide) (fun c_6 => ?_) (fun c_6 => ?_)
        · have e := it_t c_6 e
          refine sl_ok ok_R_cornersOf [.iinc 6 1] (pc1 := 97) (ls1 := [some (.ref 79), none, some (.int x2), some (.int x3), some (.int x4), some (.int x5), some (.int (x6 + 1))]) (st1 := []) (h1 := h) (P := True) (by decide +kernel) rfl trivial ?_
          refine q_goto (off := -50) (tgt := 47) (by decide) (by decide +kernel) ?_
          cases e
          exact k
        · have e := it_f c_6 e
          refine sl_ok ok_R_cornersOf [.iload_n 3, .iconst 1, .iload 4, .ishl, .iconst (-1), .ixor, .iand, .istore_n 3, .iinc 6 1] (pc1 := 97) (ls1 := [some (.ref 79), none, some (.int x2), some (.int (x3 &&& ((jshl 1 x4) ^^^ (-1)))), some (.int x4), some (.int x5), some (.int (x6 + 1))]) (st1 := []) (h1 := h) (P := True) (by decide +kernel) rfl trivial ?_
          refine q_goto (off := -50) (tgt := 47) (by decide) (by decide +kernel) ?_
          cases e
          exact k
def f_R_cornersOf_L2 (x2 : Int32) (x4 : Int32) (h : pH) (x3 : Int32) (x5 : Int32) : Option ((Int32 × Int32) ⊕ ((Int32 × Int32) ⊕ Int32)) :=
  if (f_R_all h) ≤ x5 then
    some (.inr (.inl (x3, (x4 + 1))))
  else
    lp (fun s => f_R_cornersOf_L3 x2 x4 x5 h s.1 s.2) lpN (x3, 0)
set_option maxHeartbeats 4000000 in
theorem b_R_cornersOf_L2 {E : pE} {r : Option Value} {hr : pH} {x2 : Int32} {x4 : Int32} {h : pH} {x3 : Int32} {x5 : Int32}  {b : ((Int32 × Int32) ⊕ ((Int32 × Int32) ⊕ Int32))} (e : f_R_cornersOf_L2 x2 x4 h x3 x5 = some b) (k : (Sum.elim (fun s : (Int32 × Int32) => Go E M_R_cornersOf 35 [some (.ref 79), none, some (.int x2), some (.int s.1), some (.int x4), some (.int s.2), none] [] h r hr) (Sum.elim (fun s : (Int32 × Int32) => Go E M_R_cornersOf 11 [some (.ref 79), none, some (.int x2), some (.int s.1), some (.int s.2), none, none] [] h r hr) (fun v : Int32 => r = some (.int v) ∧ hr = h))) b) : Go E M_R_cornersOf 35 [some (.ref 79), none, some (.int x2), some (.int x3), some (.int x4), some (.int x5), none] [] h r hr := by
  unfold f_R_cornersOf_L2 at e
  refine sl_ok ok_R_cornersOf [.iload 5, .aload_n 0] (pc1 := 38) (ls1 := [some (.ref 79), none, some (.int x2), some (.int x3), some (.int x4), some (.int x5), none]) (st1 := [.ref 79, .int x5]) (h1 := h) (P := True) (by decide +kernel) rfl trivial ?_
  refine q_callV ok_R_all (as := []) (st := [.int x5]) ⟨wd_151, wd_152, wd_153, wd_7, ds_R_all, Nat.le_of_ble_eq_true rfl, Nat.le_of_ble_eq_true rfl⟩ (s_R_all ) rfl ⟨rfl, rfl⟩ (ci := 12) rfl (fun v hv => by cases hv; rfl) (Nat.le_of_ble_eq_true rfl) (by decide +kernel) rfl ?_
  refine q_icmp_ge (off := 65) (tgt := 106) (by decide +kernel) (by decide) (fun c_1 => ?_) (fun c_1 => ?_)
  · have e := it_t c_1 e
    refine sl_ok ok_R_cornersOf [.iinc 4 1] (pc1 := 109) (ls1 := [some (.ref 79), none, some (.int x2), some (.int x3), some (.int (x4 + 1)), some (.int x5), none]) (st1 := []) (h1 := h) (P := True) (by decide +kernel) rfl trivial ?_
    refine q_goto (off := -98) (tgt := 11) (by decide) (by decide +kernel) ?_
    cases e
    refine Go.sb [some (.ref 79), none, some (.int x2), some (.int x3), some (.int (x4 + 1)), none, none] (And.intro rfl (And.intro rfl (And.intro rfl (And.intro rfl trivial)))) ?_
    exact k
  · have e := it_f c_1 e
    refine sl_ok ok_R_cornersOf [.iconst 0, .istore 6] (pc1 := 47) (ls1 := [some (.ref 79), none, some (.int x2), some (.int x3), some (.int x4), some (.int x5), some (.int 0)]) (st1 := []) (h1 := h) (P := True) (by decide +kernel) rfl trivial ?_
    exact lp_in e (fun s => Go E M_R_cornersOf 47 [some (.ref 79), none, some (.int x2), some (.int s.1), some (.int x4), some (.int x5), some (.int s.2)] [] h r hr) (Sum.elim (fun s : (Int32 × Int32) => Go E M_R_cornersOf 35 [some (.ref 79), none, some (.int x2), some (.int s.1), some (.int x4), some (.int s.2), none] [] h r hr) (Sum.elim (fun s : (Int32 × Int32) => Go E M_R_cornersOf 11 [some (.ref 79), none, some (.int x2), some (.int s.1), some (.int s.2), none, none] [] h r hr) (fun v : Int32 => r = some (.int v) ∧ hr = h))) (fun _ _ e k => b_R_cornersOf_L3  e k) k
def f_R_cornersOf_L1 (x2 : Int32) (h : pH) (x3 : Int32) (x4 : Int32) : Option ((Int32 × Int32) ⊕ Int32) :=
  if (f_R_all h) ≤ x4 then
    some (.inr x3)
  else
    if (f_R_has x2 x4) = 0 then
      some (.inl (x3, (x4 + 1)))
    else
      lp (fun s => f_R_cornersOf_L2 x2 x4 h s.1 s.2) lpN (x3, 0)
set_option maxHeartbeats 4000000 in
theorem b_R_cornersOf_L1 {E : pE} {r : Option Value} {hr : pH} {x2 : Int32} {h : pH} {x3 : Int32} {x4 : Int32}  {b : ((Int32 × Int32) ⊕ Int32)} (e : f_R_cornersOf_L1 x2 h x3 x4 = some b) (k : (Sum.elim (fun s : (Int32 × Int32) => Go E M_R_cornersOf 11 [some (.ref 79), none, some (.int x2), some (.int s.1), some (.int s.2), none, none] [] h r hr) (fun v : Int32 => r = some (.int v) ∧ hr = h)) b) : Go E M_R_cornersOf 11 [some (.ref 79), none, some (.int x2), some (.int x3), some (.int x4), none, none] [] h r hr := by
  unfold f_R_cornersOf_L1 at e
  refine sl_ok ok_R_cornersOf [.iload 4, .aload_n 0] (pc1 := 14) (ls1 := [some (.ref 79), none, some (.int x2), some (.int x3), some (.int x4), none, none]) (st1 := [.ref 79, .int x4]) (h1 := h) (P := True) (by decide +kernel) rfl trivial ?_
  refine q_callV ok_R_all (as := []) (st := [.int x4]) ⟨wd_151, wd_152, wd_153, wd_7, ds_R_all, Nat.le_of_ble_eq_true rfl, Nat.le_of_ble_eq_true rfl⟩ (s_R_all ) rfl ⟨rfl, rfl⟩ (ci := 12) rfl (fun v hv => by cases hv; rfl) (Nat.le_of_ble_eq_true rfl) (by decide +kernel) rfl ?_
  refine q_icmp_ge (off := 95) (tgt := 112) (by decide +kernel) (by decide) (fun c_1 => ?_) (fun c_1 => ?_)
  · have e := it_t c_1 e
    refine sl_ok ok_R_cornersOf [.iload_n 3] (pc1 := 113) (ls1 := [some (.ref 79), none, some (.int x2), some (.int x3), some (.int x4), none, none]) (st1 := [.int x3]) (h1 := h) (P := True) (by decide +kernel) rfl trivial ?_
    cases e
    exact q_iret rfl k.1 k.2 (by decide +kernel)
  · have e := it_f c_1 e
    refine sl_ok ok_R_cornersOf [.iload_n 2, .iload 4] (pc1 := 23) (ls1 := [some (.ref 79), none, some (.int x2), some (.int x3), some (.int x4), none, none]) (st1 := [.int x4, .int x2]) (h1 := h) (P := True) (by decide +kernel) rfl trivial ?_
    refine q_callS ok_R_has (as := [.int x2, .int x4]) (st := []) ⟨wd_255, wd_256, wd_7, ds_R_has, Nat.le_of_ble_eq_true rfl, Nat.le_of_ble_eq_true rfl⟩ (s_R_has ) rfl (fun v hv => by cases hv; rfl) (Nat.le_of_ble_eq_true rfl) (by decide +kernel) rfl ?_
    refine q_if_ne (off := 6) (tgt := 32) (by decide +kernel) (by decide) (fun c_2 => ?_) (fun c_2 => ?_)
    · have e := it_f c_2 e
      refine sl_ok ok_R_cornersOf [.iconst 0, .istore 5] (pc1 := 35) (ls1 := [some (.ref 79), none, some (.int x2), some (.int x3), some (.int x4), some (.int 0), none]) (st1 := []) (h1 := h) (P := True) (by decide +kernel) rfl trivial ?_
      exact lp_in e (fun s => Go E M_R_cornersOf 35 [some (.ref 79), none, some (.int x2), some (.int s.1), some (.int x4), some (.int s.2), none] [] h r hr) (Sum.elim (fun s : (Int32 × Int32) => Go E M_R_cornersOf 11 [some (.ref 79), none, some (.int x2), some (.int s.1), some (.int s.2), none, none] [] h r hr) (fun v : Int32 => r = some (.int v) ∧ hr = h)) (fun _ _ e k => b_R_cornersOf_L2  e k) k
    · have e := it_t c_2 e
      refine q_goto (off := 77) (tgt := 106) (by decide) (by decide +kernel) ?_
      refine sl_ok ok_R_cornersOf [.iinc 4 1] (pc1 := 109) (ls1 := [some (.ref 79), none, some (.int x2), some (.int x3), some (.int (x4 + 1)), none, none]) (st1 := []) (h1 := h) (P := True) (by decide +kernel) rfl trivial ?_
      refine q_goto (off := -98) (tgt := 11) (by decide) (by decide +kernel) ?_
      cases e
      exact k
def f_R_cornersOf (x1 : Int32) (h : pH) : Option Int32 :=
  (f_R_hullOf x1 h).bind fun v_1 =>
  lp (fun s => f_R_cornersOf_L1 v_1 h s.1 s.2) lpN (v_1, 0)
set_option maxHeartbeats 4000000 in
theorem b_R_cornersOf {E : pE} {r : Option Value} {hr : pH} {x1 : Int32} {h : pH}  {b : Int32} (e : f_R_cornersOf x1 h = some b) (k : (fun v : Int32 => r = some (.int v) ∧ hr = h) b) : Go E M_R_cornersOf 0 [some (.ref 79), some (.int x1), none, none, none, none, none] [] h r hr := by
  unfold f_R_cornersOf at e
  refine sl_ok ok_R_cornersOf [.aload_n 0, .iload_n 1] (pc1 := 2) (ls1 := [some (.ref 79), some (.int x1), none, none, none, none, none]) (st1 := [.int x1, .ref 79]) (h1 := h) (P := True) (by decide +kernel) rfl trivial ?_
  obtain ⟨v_1, e_2, e⟩ := bi_s e
  refine q_callV ok_R_hullOf (as := [.int x1]) (st := []) ⟨wd_269, wd_270, wd_271, wd_7, ds_R_hullOf, Nat.le_of_ble_eq_true rfl, Nat.le_of_ble_eq_true rfl⟩ (s_R_hullOf  e_2) rfl ⟨rfl, rfl⟩ (ci := 12) rfl (fun v hv => by cases hv; rfl) (Nat.le_of_ble_eq_true rfl) (by decide +kernel) rfl ?_
  refine sl_ok ok_R_cornersOf [.istore_n 2, .iload_n 2, .istore_n 3, .iconst 0, .istore 4] (pc1 := 11) (ls1 := [some (.ref 79), some (.int x1), some (.int v_1), some (.int v_1), some (.int 0), none, none]) (st1 := []) (h1 := h) (P := True) (by decide +kernel) rfl trivial ?_
  refine Go.sb [some (.ref 79), none, some (.int v_1), some (.int v_1), some (.int 0), none, none] (And.intro rfl (And.intro rfl (And.intro rfl (And.intro rfl trivial)))) ?_
  exact lp_in e (fun s => Go E M_R_cornersOf 11 [some (.ref 79), none, some (.int v_1), some (.int s.1), some (.int s.2), none, none] [] h r hr) (fun v : Int32 => r = some (.int v) ∧ hr = h) (fun _ _ e k => b_R_cornersOf_L1  e k) k
theorem s_R_cornersOf {E : pE} {x1 : Int32} {h : pH}  {v : Int32} (e : f_R_cornersOf x1 h = some v) : Ct E M_R_cornersOf [.ref 79, .int x1] h (some (.int v)) h :=
  Ct_of ok_R_cornersOf [some (.ref 79), some (.int x1), none, none, none, none, none] (Nat.le_of_ble_eq_true rfl) rfl (b_R_cornersOf  e ⟨rfl, rfl⟩)
def f_R_isLayersCorner (x1 : Int32) (h : pH) : Option (Int32 × pH) :=
  (f_R_layerOf x1 h).bind fun v_1 =>
  if v_1.1 < 0 ∨ 13 ≤ v_1.1.toNatClampNeg then none else
  (f_R_cornersOf (hI v_1.2 94 v_1.1.toNatClampNeg) v_1.2).bind fun v_4 =>
  some ((f_R_has v_4 x1), (v_1.2))
set_option maxHeartbeats 4000000 in
theorem b_R_isLayersCorner {E : pE} {r : Option Value} {hr : pH} {x1 : Int32} {h : pH}  {b : (Int32 × pH)} (e : f_R_isLayersCorner x1 h = some b) (k : (fun v : (Int32 × pH) => r = some (.int v.1) ∧ hr = v.2) b) : Go E M_R_isLayersCorner 0 [some (.ref 79), some (.int x1), none] [] h r hr := by
  unfold f_R_isLayersCorner at e
  refine sl_ok ok_R_isLayersCorner [.aload_n 0, .getfield 62, .aload_n 0, .iload_n 1] (pc1 := 6) (ls1 := [some (.ref 79), some (.int x1), none]) (st1 := [.int x1, .ref 79, .ref 94]) (h1 := h) (P := (ak 79 = 0 ∧ cx 79 = 12) ∧ True) (by decide +kernel) rfl ⟨⟨rfl, rfl⟩, trivial⟩ ?_
  obtain ⟨v_1, e_2, e⟩ := bi_s e
  refine q_callV ok_R_layerOf (as := [.int x1]) (st := [.ref 94]) ⟨wd_280, wd_281, wd_282, wd_7, ds_R_layerOf, Nat.le_of_ble_eq_true rfl, Nat.le_of_ble_eq_true rfl⟩ (s_R_layerOf  e_2) rfl ⟨rfl, rfl⟩ (ci := 12) rfl (fun v hv => by cases hv; rfl) (Nat.le_of_ble_eq_true rfl) (by decide +kernel) rfl ?_
  obtain ⟨g_3, e⟩ := it_g e
  refine sl_ok ok_R_isLayersCorner [.iaload, .istore_n 2, .aload_n 0, .iload_n 2] (pc1 := 13) (ls1 := [some (.ref 79), some (.int x1), some (.int (hI v_1.2 94 v_1.1.toNatClampNeg))]) (st1 := [.int (hI v_1.2 94 v_1.1.toNatClampNeg), .ref 79]) (h1 := v_1.2) (P := (ak 94 = 1 ∧ ¬ (v_1.1 < 0 ∨ cx 94 ≤ v_1.1.toNatClampNeg)) ∧ True) (by decide +kernel) rfl ⟨⟨rfl, g_3⟩, trivial⟩ ?_
  obtain ⟨v_4, e_5, e⟩ := bi_s e
  refine q_callV ok_R_cornersOf (as := [.int (hI v_1.2 94 v_1.1.toNatClampNeg)]) (st := []) ⟨wd_283, wd_284, wd_285, wd_7, ds_R_cornersOf, Nat.le_of_ble_eq_true rfl, Nat.le_of_ble_eq_true rfl⟩ (s_R_cornersOf  e_5) rfl ⟨rfl, rfl⟩ (ci := 12) rfl (fun v hv => by cases hv; rfl) (Nat.le_of_ble_eq_true rfl) (by decide +kernel) rfl ?_
  refine sl_ok ok_R_isLayersCorner [.iload_n 1] (pc1 := 17) (ls1 := [some (.ref 79), some (.int x1), some (.int (hI v_1.2 94 v_1.1.toNatClampNeg))]) (st1 := [.int x1, .int v_4]) (h1 := v_1.2) (P := True) (by decide +kernel) rfl trivial ?_
  refine q_callS ok_R_has (as := [.int v_4, .int x1]) (st := []) ⟨wd_255, wd_256, wd_7, ds_R_has, Nat.le_of_ble_eq_true rfl, Nat.le_of_ble_eq_true rfl⟩ (s_R_has ) rfl (fun v hv => by cases hv; rfl) (Nat.le_of_ble_eq_true rfl) (by decide +kernel) rfl ?_
  cases e
  exact q_zret rfl (z_R_has ) k.1 k.2 (by decide +kernel)
theorem s_R_isLayersCorner {E : pE} {x1 : Int32} {h : pH}  {v : (Int32 × pH)} (e : f_R_isLayersCorner x1 h = some v) : Ct E M_R_isLayersCorner [.ref 79, .int x1] h (some (.int v.1)) v.2 :=
  Ct_of ok_R_isLayersCorner [some (.ref 79), some (.int x1), none] (Nat.le_of_ble_eq_true rfl) rfl (b_R_isLayersCorner  e ⟨rfl, rfl⟩)
def f_R_apart (x1 : Int32) (x2 : Int32) (x3 : Int32) (h : pH) : Option Int32 :=
  (f_R_x x1 h).bind fun v_1 =>
  (f_R_x x1 h).bind fun v_3 =>
  (f_R_y x1 h).bind fun v_5 =>
  (f_R_y x1 h).bind fun v_7 =>
  some (((v_1 - x2) * (v_3 - x2)) + ((v_5 - x3) * (v_7 - x3)))
set_option maxHeartbeats 4000000 in
theorem b_R_apart {E : pE} {r : Option Value} {hr : pH} {x1 : Int32} {x2 : Int32} {x3 : Int32} {h : pH}  {b : Int32} (e : f_R_apart x1 x2 x3 h = some b) (k : (fun v : Int32 => r = some (.int v) ∧ hr = h) b) : Go E M_R_apart 0 [some (.ref 79), some (.int x1), some (.int x2), some (.int x3)] [] h r hr := by
  unfold f_R_apart at e
  refine sl_ok ok_R_apart [.aload_n 0, .iload_n 1] (pc1 := 2) (ls1 := [some (.ref 79), some (.int x1), some (.int x2), some (.int x3)]) (st1 := [.int x1, .ref 79]) (h1 := h) (P := True) (by decide +kernel) rfl trivial ?_
  obtain ⟨v_1, e_2, e⟩ := bi_s e
  refine q_callV ok_R_x (as := [.int x1]) (st := []) ⟨wd_154, wd_155, wd_156, wd_7, ds_R_x, Nat.le_of_ble_eq_true rfl, Nat.le_of_ble_eq_true rfl⟩ (s_R_x  e_2) rfl ⟨rfl, rfl⟩ (ci := 12) rfl (fun v hv => by cases hv; rfl) (Nat.le_of_ble_eq_true rfl) (by decide +kernel) rfl ?_
  refine sl_ok ok_R_apart [.iload_n 2, .isub, .aload_n 0, .iload_n 1] (pc1 := 9) (ls1 := [some (.ref 79), some (.int x1), some (.int x2), some (.int x3)]) (st1 := [.int x1, .ref 79, .int (v_1 - x2)]) (h1 := h) (P := True) (by decide +kernel) rfl trivial ?_
  obtain ⟨v_3, e_4, e⟩ := bi_s e
  refine q_callV ok_R_x (as := [.int x1]) (st := [.int (v_1 - x2)]) ⟨wd_154, wd_155, wd_156, wd_7, ds_R_x, Nat.le_of_ble_eq_true rfl, Nat.le_of_ble_eq_true rfl⟩ (s_R_x  e_4) rfl ⟨rfl, rfl⟩ (ci := 12) rfl (fun v hv => by cases hv; rfl) (Nat.le_of_ble_eq_true rfl) (by decide +kernel) rfl ?_
  refine sl_ok ok_R_apart [.iload_n 2, .isub, .imul, .aload_n 0, .iload_n 1] (pc1 := 17) (ls1 := [some (.ref 79), some (.int x1), some (.int x2), some (.int x3)]) (st1 := [.int x1, .ref 79, .int ((v_1 - x2) * (v_3 - x2))]) (h1 := h) (P := True) (by decide +kernel) rfl trivial ?_
  obtain ⟨v_5, e_6, e⟩ := bi_s e
  refine q_callV ok_R_y (as := [.int x1]) (st := [.int ((v_1 - x2) * (v_3 - x2))]) ⟨wd_157, wd_158, wd_159, wd_7, ds_R_y, Nat.le_of_ble_eq_true rfl, Nat.le_of_ble_eq_true rfl⟩ (s_R_y  e_6) rfl ⟨rfl, rfl⟩ (ci := 12) rfl (fun v hv => by cases hv; rfl) (Nat.le_of_ble_eq_true rfl) (by decide +kernel) rfl ?_
  refine sl_ok ok_R_apart [.iload_n 3, .isub, .aload_n 0, .iload_n 1] (pc1 := 24) (ls1 := [some (.ref 79), some (.int x1), some (.int x2), some (.int x3)]) (st1 := [.int x1, .ref 79, .int (v_5 - x3), .int ((v_1 - x2) * (v_3 - x2))]) (h1 := h) (P := True) (by decide +kernel) rfl trivial ?_
  obtain ⟨v_7, e_8, e⟩ := bi_s e
  refine q_callV ok_R_y (as := [.int x1]) (st := [.int (v_5 - x3), .int ((v_1 - x2) * (v_3 - x2))]) ⟨wd_157, wd_158, wd_159, wd_7, ds_R_y, Nat.le_of_ble_eq_true rfl, Nat.le_of_ble_eq_true rfl⟩ (s_R_y  e_8) rfl ⟨rfl, rfl⟩ (ci := 12) rfl (fun v hv => by cases hv; rfl) (Nat.le_of_ble_eq_true rfl) (by decide +kernel) rfl ?_
  refine sl_ok ok_R_apart [.iload_n 3, .isub, .imul, .iadd] (pc1 := 31) (ls1 := [some (.ref 79), some (.int x1), some (.int x2), some (.int x3)]) (st1 := [.int (((v_1 - x2) * (v_3 - x2)) + ((v_5 - x3) * (v_7 - x3)))]) (h1 := h) (P := True) (by decide +kernel) rfl trivial ?_
  cases e
  exact q_iret rfl k.1 k.2 (by decide +kernel)
theorem s_R_apart {E : pE} {x1 : Int32} {x2 : Int32} {x3 : Int32} {h : pH}  {v : Int32} (e : f_R_apart x1 x2 x3 h = some v) : Ct E M_R_apart [.ref 79, .int x1, .int x2, .int x3] h (some (.int v)) h :=
  Ct_of ok_R_apart [some (.ref 79), some (.int x1), some (.int x2), some (.int x3)] (Nat.le_of_ble_eq_true rfl) rfl (b_R_apart  e ⟨rfl, rfl⟩)
def f_R_shareOf_J4 (x1 : Int32) (x2 : Int32) (x3 : Int32) (x4 : Int32) (x5 : Int32) (x6 : Int32) (h : pH) : Option ((Int32 × Int32) ⊕ ((Int32 × Int32) ⊕ Int32)) :=
  if x6 = 0 then
    some (.inl (x3, (x5 + 1)))
  else
    some (.inl ((x3 + 1), (x5 + 1)))
set_option maxHeartbeats 4000000 in
theorem b_R_shareOf_J4 {E : pE} {r : Option Value} {hr : pH} {x1 : Int32} {x2 : Int32} {x3 : Int32} {x4 : Int32} {x5 : Int32} {x6 : Int32} {h : pH}  {b : ((Int32 × Int32) ⊕ ((Int32 × Int32) ⊕ Int32))} (e : f_R_shareOf_J4 x1 x2 x3 x4 x5 x6 h = some b) (k : (Sum.elim (fun s : (Int32 × Int32) => Go E M_R_shareOf 23 [some (.ref 79), some (.int x1), some (.int x2), some (.int s.1), some (.int x4), some (.int s.2), none, none] [] h r hr) (Sum.elim (fun s : (Int32 × Int32) => Go E M_R_shareOf 13 [some (.ref 79), some (.int x1), some (.int x2), some (.int s.1), some (.int s.2), none, none, none] [] h r hr) (fun v : Int32 => r = some (.int v) ∧ hr = h))) b) : Go E M_R_shareOf 90 [some (.ref 79), some (.int x1), some (.int x2), some (.int x3), some (.int x4), some (.int x5), some (.int x6), none] [] h r hr := by
  unfold f_R_shareOf_J4 at e
  refine sl_ok ok_R_shareOf [.iload 6] (pc1 := 92) (ls1 := [some (.ref 79), some (.int x1), some (.int x2), some (.int x3), some (.int x4), some (.int x5), some (.int x6), none]) (st1 := [.int x6]) (h1 := h) (P := True) (by decide +kernel) rfl trivial ?_
  refine q_if_eq (off := 6) (tgt := 98) (by decide +kernel) (by decide) (fun c_1 => ?_) (fun c_1 => ?_)
  · have e := it_t c_1 e
    refine sl_ok ok_R_shareOf [.iinc 5 1] (pc1 := 101) (ls1 := [some (.ref 79), some (.int x1), some (.int x2), some (.int x3), some (.int x4), some (.int (x5 + 1)), some (.int x6), none]) (st1 := []) (h1 := h) (P := True) (by decide +kernel) rfl trivial ?_
    refine q_goto (off := -78) (tgt := 23) (by decide) (by decide +kernel) ?_
    cases e
    refine Go.sb [some (.ref 79), some (.int x1), some (.int x2), some (.int x3), some (.int x4), some (.int (x5 + 1)), none, none] (And.intro rfl (And.intro rfl (And.intro rfl (And.intro rfl (And.intro rfl (And.intro rfl trivial)))))) ?_
    exact k
  · have e := it_f c_1 e
    refine sl_ok ok_R_shareOf [.iinc 3 1, .iinc 5 1] (pc1 := 101) (ls1 := [some (.ref 79), some (.int x1), some (.int x2), some (.int (x3 + 1)), some (.int x4), some (.int (x5 + 1)), some (.int x6), none]) (st1 := []) (h1 := h) (P := True) (by decide +kernel) rfl trivial ?_
    refine q_goto (off := -78) (tgt := 23) (by decide) (by decide +kernel) ?_
    cases e
    refine Go.sb [some (.ref 79), some (.int x1), some (.int x2), some (.int (x3 + 1)), some (.int x4), some (.int (x5 + 1)), none, none] (And.intro rfl (And.intro rfl (And.intro rfl (And.intro rfl (And.intro rfl (And.intro rfl trivial)))))) ?_
    exact k
def f_R_shareOf_L3 (x1 : Int32) (x2 : Int32) (x3 : Int32) (x4 : Int32) (x5 : Int32) (h : pH) (x6 : Int32) (x7 : Int32) : Option ((Int32 × Int32) ⊕ ((Int32 × Int32) ⊕ ((Int32 × Int32) ⊕ Int32))) :=
  if (f_R_all h) ≤ x7 then
    mi (f_R_shareOf_J4 x1 x2 x3 x4 x5 x6 h)
  else
    if x6 = 0 then
      mi (f_R_shareOf_J4 x1 x2 x3 x4 x5 x6 h)
    else
      if x7 = x1 then
        some (.inl (1, (x7 + 1)))
      else
        (f_R_apart x1 x5 x4 h).bind fun v_4 =>
        (f_R_apart x7 x5 x4 h).bind fun v_6 =>
        if v_6 ≤ v_4 then
          some (.inl (0, (x7 + 1)))
        else
          some (.inl (1, (x7 + 1)))
set_option maxHeartbeats 4000000 in
theorem b_R_shareOf_L3 {E : pE} {r : Option Value} {hr : pH} {x1 : Int32} {x2 : Int32} {x3 : Int32} {x4 : Int32} {x5 : Int32} {h : pH} {x6 : Int32} {x7 : Int32}  {b : ((Int32 × Int32) ⊕ ((Int32 × Int32) ⊕ ((Int32 × Int32) ⊕ Int32)))} (e : f_R_shareOf_L3 x1 x2 x3 x4 x5 h x6 x7 = some b) (k : (Sum.elim (fun s : (Int32 × Int32) => Go E M_R_shareOf 35 [some (.ref 79), some (.int x1), some (.int x2), some (.int x3), some (.int x4), some (.int x5), some (.int s.1), some (.int s.2)] [] h r hr) (Sum.elim (fun s : (Int32 × Int32) => Go E M_R_shareOf 23 [some (.ref 79), some (.int x1), some (.int x2), some (.int s.1), some (.int x4), some (.int s.2), none, none] [] h r hr) (Sum.elim (fun s : (Int32 × Int32) => Go E M_R_shareOf 13 [some (.ref 79), some (.int x1), some (.int x2), some (.int s.1), some (.int s.2), none, none, none] [] h r hr) (fun v : Int32 => r = some (.int v) ∧ hr = h)))) b) : Go E M_R_shareOf 35 [some (.ref 79), some (.int x1), some (.int x2), some (.int x3), some (.int x4), some (.int x5), some (.int x6), some (.int x7)] [] h r hr := by
  unfold f_R_shareOf_L3 at e
  refine sl_ok ok_R_shareOf [.iload 7, .aload_n 0] (pc1 := 38) (ls1 := [some (.ref 79), some (.int x1), some (.int x2), some (.int x3), some (.int x4), some (.int x5), some (.int x6), some (.int x7)]) (st1 := [.ref 79, .int x7]) (h1 := h) (P := True) (by decide +kernel) rfl trivial ?_
  refine q_callV ok_R_all (as := []) (st := [.int x7]) ⟨wd_151, wd_152, wd_153, wd_7, ds_R_all, Nat.le_of_ble_eq_true rfl, Nat.le_of_ble_eq_true rfl⟩ (s_R_all ) rfl ⟨rfl, rfl⟩ (ci := 12) rfl (fun v hv => by cases hv; rfl) (Nat.le_of_ble_eq_true rfl) (by decide +kernel) rfl ?_
  refine q_icmp_ge (off := 49) (tgt := 90) (by decide +kernel) (by decide) (fun c_1 => ?_) (fun c_1 => ?_)
  · have e := it_t c_1 e
    refine Go.sb [some (.ref 79), some (.int x1), some (.int x2), some (.int x3), some (.int x4), some (.int x5), some (.int x6), none] (And.intro rfl (And.intro rfl (And.intro rfl (And.intro rfl (And.intro rfl (And.intro rfl (And.intro rfl trivial))))))) ?_
    obtain ⟨_, e9, rfl⟩ := mi_s e
    have e := e9
    exact b_R_shareOf_J4  e k
  · have e := it_f c_1 e
    refine sl_ok ok_R_shareOf [.iload 6] (pc1 := 46) (ls1 := [some (.ref 79), some (.int x1), some (.int x2), some (.int x3), some (.int x4), some (.int x5), some (.int x6), some (.int x7)]) (st1 := [.int x6]) (h1 := h) (P := True) (by decide +kernel) rfl trivial ?_
    refine q_if_eq (off := 44) (tgt := 90) (by decide +kernel) (by decide) (fun c_2 => ?_) (fun c_2 => ?_)
    · have e := it_t c_2 e
      refine Go.sb [some (.ref 79), some (.int x1), some (.int x2), some (.int x3), some (.int x4), some (.int x5), some (.int x6), none] (And.intro rfl (And.intro rfl (And.intro rfl (And.intro rfl (And.intro rfl (And.intro rfl (And.intro rfl trivial))))))) ?_
      obtain ⟨_, e9, rfl⟩ := mi_s e
      have e := e9
      exact b_R_shareOf_J4  e k
    · have e := it_f c_2 e
      refine sl_ok ok_R_shareOf [.iload 7, .iload_n 1] (pc1 := 52) (ls1 := [some (.ref 79), some (.int x1), some (.int x2), some (.int x3), some (.int x4), some (.int x5), some (.int x6), some (.int x7)]) (st1 := [.int x1, .int x7]) (h1 := h) (P := True) (by decide +kernel) rfl trivial ?_
      refine q_icmp_eq (off := 25) (tgt := 77) (by decide +kernel) (by decide) (fun c_3 => ?_) (fun c_3 => ?_)
      · have e := it_t c_3 e
        refine sl_ok ok_R_shareOf [.iconst 1] (pc1 := 78) (ls1 := [some (.ref 79), some (.int x1), some (.int x2), some (.int x3), some (.int x4), some (.int x5), some (.int x6), some (.int x7)]) (st1 := [.int 1]) (h1 := h) (P := True) (by decide +kernel) rfl trivial ?_
        refine q_goto (off := 4) (tgt := 82) (by decide) (by decide +kernel) ?_
        refine sl_ok ok_R_shareOf [.istore 6, .iinc 7 1] (pc1 := 87) (ls1 := [some (.ref 79), some (.int x1), some (.int x2), some (.int x3), some (.int x4), some (.int x5), some (.int 1), some (.int (x7 + 1))]) (st1 := []) (h1 := h) (P := True) (by decide +kernel) rfl trivial ?_
        refine q_goto (off := -52) (tgt := 35) (by decide) (by decide +kernel) ?_
        cases e
        exact k
      · have e := it_f c_3 e
        refine sl_ok ok_R_shareOf [.aload_n 0, .iload_n 1, .iload 5, .iload 4] (pc1 := 61) (ls1 := [some (.ref 79), some (.int x1), some (.int x2), some (.int x3), some (.int x4), some (.int x5), some (.int x6), some (.int x7)]) (st1 := [.int x4, .int x5, .int x1, .ref 79]) (h1 := h) (P := True) (by decide +kernel) rfl trivial ?_
        obtain ⟨v_4, e_5, e⟩ := bi_s e
        refine q_callV ok_R_apart (as := [.int x1, .int x5, .int x4]) (st := []) ⟨wd_286, wd_287, wd_288, wd_7, ds_R_apart, Nat.le_of_ble_eq_true rfl, Nat.le_of_ble_eq_true rfl⟩ (s_R_apart  e_5) rfl ⟨rfl, rfl⟩ (ci := 12) rfl (fun v hv => by cases hv; rfl) (Nat.le_of_ble_eq_true rfl) (by decide +kernel) rfl ?_
        refine sl_ok ok_R_shareOf [.aload_n 0, .iload 7, .iload 5, .iload 4] (pc1 := 71) (ls1 := [some (.ref 79), some (.int x1), some (.int x2), some (.int x3), some (.int x4), some (.int x5), some (.int x6), some (.int x7)]) (st1 := [.int x4, .int x5, .int x7, .ref 79, .int v_4]) (h1 := h) (P := True) (by decide +kernel) rfl trivial ?_
        obtain ⟨v_6, e_7, e⟩ := bi_s e
        refine q_callV ok_R_apart (as := [.int x7, .int x5, .int x4]) (st := [.int v_4]) ⟨wd_286, wd_287, wd_288, wd_7, ds_R_apart, Nat.le_of_ble_eq_true rfl, Nat.le_of_ble_eq_true rfl⟩ (s_R_apart  e_7) rfl ⟨rfl, rfl⟩ (ci := 12) rfl (fun v hv => by cases hv; rfl) (Nat.le_of_ble_eq_true rfl) (by decide +kernel) rfl ?_
        refine q_icmp_ge (off := 7) (tgt := 81) (by decide +kernel) (by decide) (fun c_8 => ?_) (fun c_8 => ?_)
        · have e := it_t c_8 e
          refine sl_ok ok_R_shareOf [.iconst 0, .istore 6, .iinc 7 1] (pc1 := 87) (ls1 := [some (.ref 79), some (.int x1), some (.int x2), some (.int x3), some (.int x4), some (.int x5), some (.int 0), some (.int (x7 + 1))]) (st1 := []) (h1 := h) (P := True) (by decide +kernel) rfl trivial ?_
          refine q_goto (off := -52) (tgt := 35) (by decide) (by decide +kernel) ?_
          cases e
          exact k
        · have e := it_f c_8 e
          refine sl_ok ok_R_shareOf [.iconst 1] (pc1 := 78) (ls1 := [some (.ref 79), some (.int x1), some (.int x2), some (.int x3), some (.int x4), some (.int x5), some (.int x6), some (.int x7)]) (st1 := [.int 1]) (h1 := h) (P := True) (by decide +kernel) rfl trivial ?_
          refine q_goto (off := 4) (tgt := 82) (by decide) (by decide +kernel) ?_
          refine sl_ok ok_R_shareOf [.istore 6, .iinc 7 1] (pc1 := 87) (ls1 := [some (.ref 79), some (.int x1), some (.int x2), some (.int x3), some (.int x4), some (.int x5), some (.int 1), some (.int (x7 + 1))]) (st1 := []) (h1 := h) (P := True) (by decide +kernel) rfl trivial ?_
          refine q_goto (off := -52) (tgt := 35) (by decide) (by decide +kernel) ?_
          cases e
          exact k
def f_R_shareOf_L2 (x1 : Int32) (x2 : Int32) (x4 : Int32) (h : pH) (x3 : Int32) (x5 : Int32) : Option ((Int32 × Int32) ⊕ ((Int32 × Int32) ⊕ Int32)) :=
  if x2 < x5 then
    some (.inr (.inl (x3, (x4 + 1))))
  else
    lp (fun s => f_R_shareOf_L3 x1 x2 x3 x4 x5 h s.1 s.2) lpN (1, 0)
set_option maxHeartbeats 4000000 in
theorem b_R_shareOf_L2 {E : pE} {r : Option Value} {hr : pH} {x1 : Int32} {x2 : Int32} {x4 : Int32} {h : pH} {x3 : Int32} {x5 : Int32}  {b : ((Int32 × Int32) ⊕ ((Int32 × Int32) ⊕ Int32))} (e : f_R_shareOf_L2 x1 x2 x4 h x3 x5 = some b) (k : (Sum.elim (fun s : (Int32 × Int32) => Go E M_R_shareOf 23 [some (.ref 79), some (.int x1), some (.int x2), some (.int s.1), some (.int x4), some (.int s.2), none, none] [] h r hr) (Sum.elim (fun s : (Int32 × Int32) => Go E M_R_shareOf 13 [some (.ref 79), some (.int x1), some (.int x2), some (.int s.1), some (.int s.2), none, none, none] [] h r hr) (fun v : Int32 => r = some (.int v) ∧ hr = h))) b) : Go E M_R_shareOf 23 [some (.ref 79), some (.int x1), some (.int x2), some (.int x3), some (.int x4), some (.int x5), none, none] [] h r hr := by
  unfold f_R_shareOf_L2 at e
  refine sl_ok ok_R_shareOf [.iload 5, .iload_n 2] (pc1 := 26) (ls1 := [some (.ref 79), some (.int x1), some (.int x2), some (.int x3), some (.int x4), some (.int x5), none, none]) (st1 := [.int x2, .int x5]) (h1 := h) (P := True) (by decide +kernel) rfl trivial ?_
  refine q_icmp_gt (off := 78) (tgt := 104) (by decide +kernel) (by decide) (fun c_1 => ?_) (fun c_1 => ?_)
  · have e := it_t c_1 e
    refine sl_ok ok_R_shareOf [.iinc 4 1] (pc1 := 107) (ls1 := [some (.ref 79), some (.int x1), some (.int x2), some (.int x3), some (.int (x4 + 1)), some (.int x5), none, none]) (st1 := []) (h1 := h) (P := True) (by decide +kernel) rfl trivial ?_
    refine q_goto (off := -94) (tgt := 13) (by decide) (by decide +kernel) ?_
    cases e
    refine Go.sb [some (.ref 79), some (.int x1), some (.int x2), some (.int x3), some (.int (x4 + 1)), none, none, none] (And.intro rfl (And.intro rfl (And.intro rfl (And.intro rfl (And.intro rfl trivial))))) ?_
    exact k
  · have e := it_f c_1 e
    refine sl_ok ok_R_shareOf [.iconst 1, .istore 6, .iconst 0, .istore 7] (pc1 := 35) (ls1 := [some (.ref 79), some (.int x1), some (.int x2), some (.int x3), some (.int x4), some (.int x5), some (.int 1), some (.int 0)]) (st1 := []) (h1 := h) (P := True) (by decide +kernel) rfl trivial ?_
    exact lp_in e (fun s => Go E M_R_shareOf 35 [some (.ref 79), some (.int x1), some (.int x2), some (.int x3), some (.int x4), some (.int x5), some (.int s.1), some (.int s.2)] [] h r hr) (Sum.elim (fun s : (Int32 × Int32) => Go E M_R_shareOf 23 [some (.ref 79), some (.int x1), some (.int x2), some (.int s.1), some (.int x4), some (.int s.2), none, none] [] h r hr) (Sum.elim (fun s : (Int32 × Int32) => Go E M_R_shareOf 13 [some (.ref 79), some (.int x1), some (.int x2), some (.int s.1), some (.int s.2), none, none, none] [] h r hr) (fun v : Int32 => r = some (.int v) ∧ hr = h))) (fun _ _ e k => b_R_shareOf_L3  e k) k
def f_R_shareOf_L1 (x1 : Int32) (x2 : Int32) (h : pH) (x3 : Int32) (x4 : Int32) : Option ((Int32 × Int32) ⊕ Int32) :=
  if x2 < x4 then
    some (.inr x3)
  else
    lp (fun s => f_R_shareOf_L2 x1 x2 x4 h s.1 s.2) lpN (x3, (-x2))
set_option maxHeartbeats 4000000 in
theorem b_R_shareOf_L1 {E : pE} {r : Option Value} {hr : pH} {x1 : Int32} {x2 : Int32} {h : pH} {x3 : Int32} {x4 : Int32}  {b : ((Int32 × Int32) ⊕ Int32)} (e : f_R_shareOf_L1 x1 x2 h x3 x4 = some b) (k : (Sum.elim (fun s : (Int32 × Int32) => Go E M_R_shareOf 13 [some (.ref 79), some (.int x1), some (.int x2), some (.int s.1), some (.int s.2), none, none, none] [] h r hr) (fun v : Int32 => r = some (.int v) ∧ hr = h)) b) : Go E M_R_shareOf 13 [some (.ref 79), some (.int x1), some (.int x2), some (.int x3), some (.int x4), none, none, none] [] h r hr := by
  unfold f_R_shareOf_L1 at e
  refine sl_ok ok_R_shareOf [.iload 4, .iload_n 2] (pc1 := 16) (ls1 := [some (.ref 79), some (.int x1), some (.int x2), some (.int x3), some (.int x4), none, none, none]) (st1 := [.int x2, .int x4]) (h1 := h) (P := True) (by decide +kernel) rfl trivial ?_
  refine q_icmp_gt (off := 94) (tgt := 110) (by decide +kernel) (by decide) (fun c_1 => ?_) (fun c_1 => ?_)
  · have e := it_t c_1 e
    refine sl_ok ok_R_shareOf [.iload_n 3] (pc1 := 111) (ls1 := [some (.ref 79), some (.int x1), some (.int x2), some (.int x3), some (.int x4), none, none, none]) (st1 := [.int x3]) (h1 := h) (P := True) (by decide +kernel) rfl trivial ?_
    cases e
    exact q_iret rfl k.1 k.2 (by decide +kernel)
  · have e := it_f c_1 e
    refine sl_ok ok_R_shareOf [.iload_n 2, .ineg, .istore 5] (pc1 := 23) (ls1 := [some (.ref 79), some (.int x1), some (.int x2), some (.int x3), some (.int x4), some (.int (-x2)), none, none]) (st1 := []) (h1 := h) (P := True) (by decide +kernel) rfl trivial ?_
    exact lp_in e (fun s => Go E M_R_shareOf 23 [some (.ref 79), some (.int x1), some (.int x2), some (.int s.1), some (.int x4), some (.int s.2), none, none] [] h r hr) (Sum.elim (fun s : (Int32 × Int32) => Go E M_R_shareOf 13 [some (.ref 79), some (.int x1), some (.int x2), some (.int s.1), some (.int s.2), none, none, none] [] h r hr) (fun v : Int32 => r = some (.int v) ∧ hr = h)) (fun _ _ e k => b_R_shareOf_L2  e k) k
def f_R_shareOf (x1 : Int32) (h : pH) : Option Int32 :=
  lp (fun s => f_R_shareOf_L1 x1 (hI h 87 1) h s.1 s.2) lpN (0, (-(hI h 87 1)))
set_option maxHeartbeats 4000000 in
theorem b_R_shareOf {E : pE} {r : Option Value} {hr : pH} {x1 : Int32} {h : pH}  {b : Int32} (e : f_R_shareOf x1 h = some b) (k : (fun v : Int32 => r = some (.int v) ∧ hr = h) b) : Go E M_R_shareOf 0 [some (.ref 79), some (.int x1), none, none, none, none, none, none] [] h r hr := by
  unfold f_R_shareOf at e
  refine sl_ok ok_R_shareOf [.aload_n 0, .getfield 40, .iconst 1, .iaload, .istore_n 2, .iconst 0, .istore_n 3, .iload_n 2, .ineg, .istore 4] (pc1 := 13) (ls1 := [some (.ref 79), some (.int x1), some (.int (hI h 87 1)), some (.int 0), some (.int (-(hI h 87 1))), none, none, none]) (st1 := []) (h1 := h) (P := (ak 79 = 0 ∧ cx 79 = 12) ∧ (ak 87 = 1 ∧ ¬ ((1 : Int32) < 0 ∨ cx 87 ≤ (1 : Int32).toNatClampNeg)) ∧ True) (by decide +kernel) rfl ⟨⟨rfl, rfl⟩, ⟨rfl, (by decide)⟩, trivial⟩ ?_
  exact lp_in e (fun s => Go E M_R_shareOf 13 [some (.ref 79), some (.int x1), some (.int (hI h 87 1)), some (.int s.1), some (.int s.2), none, none, none] [] h r hr) (fun v : Int32 => r = some (.int v) ∧ hr = h) (fun _ _ e k => b_R_shareOf_L1  e k) k
theorem s_R_shareOf {E : pE} {x1 : Int32} {h : pH}  {v : Int32} (e : f_R_shareOf x1 h = some v) : Ct E M_R_shareOf [.ref 79, .int x1] h (some (.int v)) h :=
  Ct_of ok_R_shareOf [some (.ref 79), some (.int x1), none, none, none, none, none, none] (Nat.le_of_ble_eq_true rfl) rfl (b_R_shareOf  e ⟨rfl, rfl⟩)
def f_R_point (x1 : Int32) (x2 : Int32) (h : pH) : Option (Int32 × pH) :=
  if (f_R_isPoint x1 h) = 0 then
    some ((-100000), h)
  else
    if (f_R_in x2 (0 : Int32) (5 : Int32)) = 0 then
      some ((-100000), h)
    else
      if x2 = 0 then
        (f_R_x x1 h).bind fun v_23 =>
        some (v_23, h)
      else
        if x2 = 1 then
          (f_R_y x1 h).bind fun v_21 =>
          some (v_21, h)
        else
          if x2 = 2 then
            (f_R_layerOf x1 h).bind fun v_19 =>
            some (v_19.1, v_19.2)
          else
            if x2 = 3 then
              (f_R_x x1 h).bind fun v_13 =>
              (f_R_y x1 h).bind fun v_15 =>
              (f_R_depthOf v_13 v_15 h).bind fun v_17 =>
              some (v_17, h)
            else
              if x2 = 4 then
                (f_R_isLayersCorner x1 h).bind fun v_10 =>
                if v_10.1 = 0 then
                  some (0, v_10.2)
                else
                  some (1, v_10.2)
              else
                (f_R_shareOf x1 h).bind fun v_3 =>
                some (v_3, h)
set_option maxHeartbeats 4000000 in
theorem b_R_point {E : pE} {r : Option Value} {hr : pH} {x1 : Int32} {x2 : Int32} {h : pH}  {b : (Int32 × pH)} (e : f_R_point x1 x2 h = some b) (k : (fun v : (Int32 × pH) => r = some (.int v.1) ∧ hr = v.2) b) : Go E M_R_point 0 [some (.ref 79), some (.int x1), some (.int x2)] [] h r hr := by
  unfold f_R_point at e
  refine sl_ok ok_R_point [.aload_n 0, .iload_n 1] (pc1 := 2) (ls1 := [some (.ref 79), some (.int x1), some (.int x2)]) (st1 := [.int x1, .ref 79]) (h1 := h) (P := True) (by decide +kernel) rfl trivial ?_
  refine q_callV ok_R_isPoint (as := [.int x1]) (st := []) ⟨wd_179, wd_180, wd_181, wd_7, ds_R_isPoint, Nat.le_of_ble_eq_true rfl, Nat.le_of_ble_eq_true rfl⟩ (s_R_isPoint ) rfl ⟨rfl, rfl⟩ (ci := 12) rfl (fun v hv => by cases hv; rfl) (Nat.le_of_ble_eq_true rfl) (by decide +kernel) rfl ?_
  refine q_if_eq (off := 12) (tgt := 17) (by decide +kernel) (by decide) (fun c_1 => ?_) (fun c_1 => ?_)
  · have e := it_t c_1 e
    refine sl_ok ok_R_point [.ldc 220] (pc1 := 19) (ls1 := [some (.ref 79), some (.int x1), some (.int x2)]) (st1 := [.int (-100000)]) (h1 := h) (P := True) (by decide +kernel) rfl trivial ?_
    cases e
    exact q_iret rfl k.1 k.2 (by decide +kernel)
  · have e := it_f c_1 e
    refine sl_ok ok_R_point [.iload_n 2, .iconst 0, .iconst 5] (pc1 := 11) (ls1 := [some (.ref 79), some (.int x1), some (.int x2)]) (st1 := [.int 5, .int 0, .int x2]) (h1 := h) (P := True) (by decide +kernel) rfl trivial ?_
    refine q_callS ok_R_in (as := [.int x2, .int 0, .int 5]) (st := []) ⟨wd_127, wd_128, wd_7, ds_R_in, Nat.le_of_ble_eq_true rfl, Nat.le_of_ble_eq_true rfl⟩ (s_R_in ) rfl (fun v hv => by cases hv; rfl) (Nat.le_of_ble_eq_true rfl) (by decide +kernel) rfl ?_
    refine q_if_ne (off := 6) (tgt := 20) (by decide +kernel) (by decide) (fun c_2 => ?_) (fun c_2 => ?_)
    · have e := it_f c_2 e
      refine sl_ok ok_R_point [.iload_n 2] (pc1 := 21) (ls1 := [some (.ref 79), some (.int x1), some (.int x2)]) (st1 := [.int x2]) (h1 := h) (P := True) (by decide +kernel) rfl trivial ?_
      by_cases c_5 : x2 = 0
      · have e := it_t c_5 e
        refine q_tableIn (off := 35) (tgt := 56) (by decide +kernel : decode (mB M_R_point) 21 = .ok (.tableswitch 82 0 4 #[35, 41, 47, 53, 68], 35)) (by rw [c_5]; decide) (by rw [c_5]; decide) (by rw [c_5]; decide) (by decide) ?_
        refine sl_ok ok_R_point [.aload_n 0, .iload_n 1] (pc1 := 58) (ls1 := [some (.ref 79), some (.int x1), some (.int x2)]) (st1 := [.int x1, .ref 79]) (h1 := h) (P := True) (by decide +kernel) rfl trivial ?_
        obtain ⟨v_23, e_24, e⟩ := bi_s e
        refine q_callV ok_R_x (as := [.int x1]) (st := []) ⟨wd_154, wd_155, wd_156, wd_7, ds_R_x, Nat.le_of_ble_eq_true rfl, Nat.le_of_ble_eq_true rfl⟩ (s_R_x  e_24) rfl ⟨rfl, rfl⟩ (ci := 12) rfl (fun v hv => by cases hv; rfl) (Nat.le_of_ble_eq_true rfl) (by decide +kernel) rfl ?_
        cases e
        exact q_iret rfl k.1 k.2 (by decide +kernel)
      · have e := it_f c_5 e
        by_cases c_6 : x2 = 1
        · have e := it_t c_6 e
          refine q_tableIn (off := 41) (tgt := 62) (by decide +kernel : decode (mB M_R_point) 21 = .ok (.tableswitch 82 0 4 #[35, 41, 47, 53, 68], 35)) (by rw [c_6]; decide) (by rw [c_6]; decide) (by rw [c_6]; decide) (by decide) ?_
          refine sl_ok ok_R_point [.aload_n 0, .iload_n 1] (pc1 := 64) (ls1 := [some (.ref 79), some (.int x1), some (.int x2)]) (st1 := [.int x1, .ref 79]) (h1 := h) (P := True) (by decide +kernel) rfl trivial ?_
          obtain ⟨v_21, e_22, e⟩ := bi_s e
          refine q_callV ok_R_y (as := [.int x1]) (st := []) ⟨wd_157, wd_158, wd_159, wd_7, ds_R_y, Nat.le_of_ble_eq_true rfl, Nat.le_of_ble_eq_true rfl⟩ (s_R_y  e_22) rfl ⟨rfl, rfl⟩ (ci := 12) rfl (fun v hv => by cases hv; rfl) (Nat.le_of_ble_eq_true rfl) (by decide +kernel) rfl ?_
          cases e
          exact q_iret rfl k.1 k.2 (by decide +kernel)
        · have e := it_f c_6 e
          by_cases c_7 : x2 = 2
          · have e := it_t c_7 e
            refine q_tableIn (off := 47) (tgt := 68) (by decide +kernel : decode (mB M_R_point) 21 = .ok (.tableswitch 82 0 4 #[35, 41, 47, 53, 68], 35)) (by rw [c_7]; decide) (by rw [c_7]; decide) (by rw [c_7]; decide) (by decide) ?_
            refine sl_ok ok_R_point [.aload_n 0, .iload_n 1] (pc1 := 70) (ls1 := [some (.ref 79), some (.int x1), some (.int x2)]) (st1 := [.int x1, .ref 79]) (h1 := h) (P := True) (by decide +kernel) rfl trivial ?_
            obtain ⟨v_19, e_20, e⟩ := bi_s e
            refine q_callV ok_R_layerOf (as := [.int x1]) (st := []) ⟨wd_280, wd_281, wd_282, wd_7, ds_R_layerOf, Nat.le_of_ble_eq_true rfl, Nat.le_of_ble_eq_true rfl⟩ (s_R_layerOf  e_20) rfl ⟨rfl, rfl⟩ (ci := 12) rfl (fun v hv => by cases hv; rfl) (Nat.le_of_ble_eq_true rfl) (by decide +kernel) rfl ?_
            cases e
            exact q_iret rfl k.1 k.2 (by decide +kernel)
          · have e := it_f c_7 e
            by_cases c_8 : x2 = 3
            · have e := it_t c_8 e
              refine q_tableIn (off := 53) (tgt := 74) (by decide +kernel : decode (mB M_R_point) 21 = .ok (.tableswitch 82 0 4 #[35, 41, 47, 53, 68], 35)) (by rw [c_8]; decide) (by rw [c_8]; decide) (by rw [c_8]; decide) (by decide) ?_
              refine sl_ok ok_R_point [.aload_n 0, .aload_n 0, .iload_n 1] (pc1 := 77) (ls1 := [some (.ref 79), some (.int x1), some (.int x2)]) (st1 := [.int x1, .ref 79, .ref 79]) (h1 := h) (P := True) (by decide +kernel) rfl trivial ?_
              obtain ⟨v_13, e_14, e⟩ := bi_s e
              refine q_callV ok_R_x (as := [.int x1]) (st := [.ref 79]) ⟨wd_154, wd_155, wd_156, wd_7, ds_R_x, Nat.le_of_ble_eq_true rfl, Nat.le_of_ble_eq_true rfl⟩ (s_R_x  e_14) rfl ⟨rfl, rfl⟩ (ci := 12) rfl (fun v hv => by cases hv; rfl) (Nat.le_of_ble_eq_true rfl) (by decide +kernel) rfl ?_
              refine sl_ok ok_R_point [.aload_n 0, .iload_n 1] (pc1 := 82) (ls1 := [some (.ref 79), some (.int x1), some (.int x2)]) (st1 := [.int x1, .ref 79, .int v_13, .ref 79]) (h1 := h) (P := True) (by decide +kernel) rfl trivial ?_
              obtain ⟨v_15, e_16, e⟩ := bi_s e
              refine q_callV ok_R_y (as := [.int x1]) (st := [.int v_13, .ref 79]) ⟨wd_157, wd_158, wd_159, wd_7, ds_R_y, Nat.le_of_ble_eq_true rfl, Nat.le_of_ble_eq_true rfl⟩ (s_R_y  e_16) rfl ⟨rfl, rfl⟩ (ci := 12) rfl (fun v hv => by cases hv; rfl) (Nat.le_of_ble_eq_true rfl) (by decide +kernel) rfl ?_
              obtain ⟨v_17, e_18, e⟩ := bi_s e
              refine q_callV ok_R_depthOf (as := [.int v_13, .int v_15]) (st := []) ⟨wd_295, wd_296, wd_297, wd_7, ds_R_depthOf, Nat.le_of_ble_eq_true rfl, Nat.le_of_ble_eq_true rfl⟩ (s_R_depthOf  e_18) rfl ⟨rfl, rfl⟩ (ci := 12) rfl (fun v hv => by cases hv; rfl) (Nat.le_of_ble_eq_true rfl) (by decide +kernel) rfl ?_
              cases e
              exact q_iret rfl k.1 k.2 (by decide +kernel)
            · have e := it_f c_8 e
              by_cases c_9 : x2 = 4
              · have e := it_t c_9 e
                refine q_tableIn (off := 68) (tgt := 89) (by decide +kernel : decode (mB M_R_point) 21 = .ok (.tableswitch 82 0 4 #[35, 41, 47, 53, 68], 35)) (by rw [c_9]; decide) (by rw [c_9]; decide) (by rw [c_9]; decide) (by decide) ?_
                refine sl_ok ok_R_point [.aload_n 0, .iload_n 1] (pc1 := 91) (ls1 := [some (.ref 79), some (.int x1), some (.int x2)]) (st1 := [.int x1, .ref 79]) (h1 := h) (P := True) (by decide +kernel) rfl trivial ?_
                obtain ⟨v_10, e_11, e⟩ := bi_s e
                refine q_callV ok_R_isLayersCorner (as := [.int x1]) (st := []) ⟨wd_292, wd_293, wd_294, wd_7, ds_R_isLayersCorner, Nat.le_of_ble_eq_true rfl, Nat.le_of_ble_eq_true rfl⟩ (s_R_isLayersCorner  e_11) rfl ⟨rfl, rfl⟩ (ci := 12) rfl (fun v hv => by cases hv; rfl) (Nat.le_of_ble_eq_true rfl) (by decide +kernel) rfl ?_
                refine q_if_eq (off := 7) (tgt := 101) (by decide +kernel) (by decide) (fun c_12 => ?_) (fun c_12 => ?_)
                · have e := it_t c_12 e
                  refine sl_ok ok_R_point [.iconst 0] (pc1 := 102) (ls1 := [some (.ref 79), some (.int x1), some (.int x2)]) (st1 := [.int 0]) (h1 := v_10.2) (P := True) (by decide +kernel) rfl trivial ?_
                  cases e
                  exact q_iret rfl k.1 k.2 (by decide +kernel)
                · have e := it_f c_12 e
                  refine sl_ok ok_R_point [.iconst 1] (pc1 := 98) (ls1 := [some (.ref 79), some (.int x1), some (.int x2)]) (st1 := [.int 1]) (h1 := v_10.2) (P := True) (by decide +kernel) rfl trivial ?_
                  refine q_goto (off := 4) (tgt := 102) (by decide) (by decide +kernel) ?_
                  cases e
                  exact q_iret rfl k.1 k.2 (by decide +kernel)
              · have e := it_f c_9 e
                refine q_tableOut (tgt := 103) (by decide +kernel : decode (mB M_R_point) 21 = .ok (.tableswitch 82 0 4 #[35, 41, 47, 53, 68], 35)) (sw_out [0, 1, 2, 3, 4] (by decide) ⟨c_5, c_6, c_7, c_8, c_9, trivial⟩) (by decide) ?_
                refine sl_ok ok_R_point [.aload_n 0, .iload_n 1] (pc1 := 105) (ls1 := [some (.ref 79), some (.int x1), some (.int x2)]) (st1 := [.int x1, .ref 79]) (h1 := h) (P := True) (by decide +kernel) rfl trivial ?_
                obtain ⟨v_3, e_4, e⟩ := bi_s e
                refine q_callV ok_R_shareOf (as := [.int x1]) (st := []) ⟨wd_289, wd_290, wd_291, wd_7, ds_R_shareOf, Nat.le_of_ble_eq_true rfl, Nat.le_of_ble_eq_true rfl⟩ (s_R_shareOf  e_4) rfl ⟨rfl, rfl⟩ (ci := 12) rfl (fun v hv => by cases hv; rfl) (Nat.le_of_ble_eq_true rfl) (by decide +kernel) rfl ?_
                cases e
                exact q_iret rfl k.1 k.2 (by decide +kernel)
    · have e := it_t c_2 e
      refine sl_ok ok_R_point [.ldc 220] (pc1 := 19) (ls1 := [some (.ref 79), some (.int x1), some (.int x2)]) (st1 := [.int (-100000)]) (h1 := h) (P := True) (by decide +kernel) rfl trivial ?_
      cases e
      exact q_iret rfl k.1 k.2 (by decide +kernel)
theorem s_R_point {E : pE} {x1 : Int32} {x2 : Int32} {h : pH}  {v : (Int32 × pH)} (e : f_R_point x1 x2 h = some v) : Ct E M_R_point [.ref 79, .int x1, .int x2] h (some (.int v.1)) v.2 :=
  Ct_of ok_R_point [some (.ref 79), some (.int x1), some (.int x2)] (Nat.le_of_ble_eq_true rfl) rfl (b_R_point  e ⟨rfl, rfl⟩)
def f_C_turned (x1 : Int32) (x2 : Int32) (x3 : Int32) (x4 : Int32) (h : pH) : Option Int32 :=
  if (f_Cloud_has 8 x1 h) = 0 then
    some (-100000)
  else
    if (f_Cloud_has 8 x2 h) = 0 then
      some (-100000)
    else
      if (f_Cloud_has 8 x3 h) = 0 then
        some (-100000)
      else
        (f_Cloud_turnOf 8 x1 x2 x3 h).bind fun v_4 =>
        if x4 = 0 then
          some v_4
        else
          if x4 = 1 then
            some (f_C_signOf v_4)
          else
            some (-100000)
set_option maxHeartbeats 4000000 in
theorem b_C_turned {E : pE} {r : Option Value} {hr : pH} {x1 : Int32} {x2 : Int32} {x3 : Int32} {x4 : Int32} {h : pH}  {b : Int32} (e : f_C_turned x1 x2 x3 x4 h = some b) (k : (fun v : Int32 => r = some (.int v) ∧ hr = h) b) : Go E M_C_turned 0 [some (.ref 0), some (.int x1), some (.int x2), some (.int x3), some (.int x4), none] [] h r hr := by
  unfold f_C_turned at e
  refine sl_ok ok_C_turned [.aload_n 0, .getfield 28, .iload_n 1] (pc1 := 5) (ls1 := [some (.ref 0), some (.int x1), some (.int x2), some (.int x3), some (.int x4), none]) (st1 := [.int x1, .ref 8]) (h1 := h) (P := (ak 0 = 0 ∧ cx 0 = 11) ∧ True) (by decide +kernel) rfl ⟨⟨rfl, rfl⟩, trivial⟩ ?_
  refine q_callV ok_Cloud_has (as := [.int x1]) (st := []) ⟨wd_175, wd_173, wd_174, wd_14, ds_Cloud_has, Nat.le_of_ble_eq_true rfl, Nat.le_of_ble_eq_true rfl⟩ (s_Cloud_has ⟨rfl, rfl⟩) rfl ⟨rfl, rfl⟩ (ci := 0) rfl (fun v hv => by cases hv; rfl) (Nat.le_of_ble_eq_true rfl) (by decide +kernel) rfl ?_
  refine q_if_eq (off := 25) (tgt := 33) (by decide +kernel) (by decide) (fun c_1 => ?_) (fun c_1 => ?_)
  · have e := it_t c_1 e
    refine sl_ok ok_C_turned [.ldc 170] (pc1 := 35) (ls1 := [some (.ref 0), some (.int x1), some (.int x2), some (.int x3), some (.int x4), none]) (st1 := [.int (-100000)]) (h1 := h) (P := True) (by decide +kernel) rfl trivial ?_
    cases e
    exact q_iret rfl k.1 k.2 (by decide +kernel)
  · have e := it_f c_1 e
    refine sl_ok ok_C_turned [.aload_n 0, .getfield 28, .iload_n 2] (pc1 := 16) (ls1 := [some (.ref 0), some (.int x1), some (.int x2), some (.int x3), some (.int x4), none]) (st1 := [.int x2, .ref 8]) (h1 := h) (P := (ak 0 = 0 ∧ cx 0 = 11) ∧ True) (by decide +kernel) rfl ⟨⟨rfl, rfl⟩, trivial⟩ ?_
    refine q_callV ok_Cloud_has (as := [.int x2]) (st := []) ⟨wd_175, wd_173, wd_174, wd_14, ds_Cloud_has, Nat.le_of_ble_eq_true rfl, Nat.le_of_ble_eq_true rfl⟩ (s_Cloud_has ⟨rfl, rfl⟩) rfl ⟨rfl, rfl⟩ (ci := 0) rfl (fun v hv => by cases hv; rfl) (Nat.le_of_ble_eq_true rfl) (by decide +kernel) rfl ?_
    refine q_if_eq (off := 14) (tgt := 33) (by decide +kernel) (by decide) (fun c_2 => ?_) (fun c_2 => ?_)
    · have e := it_t c_2 e
      refine sl_ok ok_C_turned [.ldc 170] (pc1 := 35) (ls1 := [some (.ref 0), some (.int x1), some (.int x2), some (.int x3), some (.int x4), none]) (st1 := [.int (-100000)]) (h1 := h) (P := True) (by decide +kernel) rfl trivial ?_
      cases e
      exact q_iret rfl k.1 k.2 (by decide +kernel)
    · have e := it_f c_2 e
      refine sl_ok ok_C_turned [.aload_n 0, .getfield 28, .iload_n 3] (pc1 := 27) (ls1 := [some (.ref 0), some (.int x1), some (.int x2), some (.int x3), some (.int x4), none]) (st1 := [.int x3, .ref 8]) (h1 := h) (P := (ak 0 = 0 ∧ cx 0 = 11) ∧ True) (by decide +kernel) rfl ⟨⟨rfl, rfl⟩, trivial⟩ ?_
      refine q_callV ok_Cloud_has (as := [.int x3]) (st := []) ⟨wd_175, wd_173, wd_174, wd_14, ds_Cloud_has, Nat.le_of_ble_eq_true rfl, Nat.le_of_ble_eq_true rfl⟩ (s_Cloud_has ⟨rfl, rfl⟩) rfl ⟨rfl, rfl⟩ (ci := 0) rfl (fun v hv => by cases hv; rfl) (Nat.le_of_ble_eq_true rfl) (by decide +kernel) rfl ?_
      refine q_if_ne (off := 6) (tgt := 36) (by decide +kernel) (by decide) (fun c_3 => ?_) (fun c_3 => ?_)
      · have e := it_f c_3 e
        refine sl_ok ok_C_turned [.aload_n 0, .getfield 28, .iload_n 1, .iload_n 2, .iload_n 3] (pc1 := 43) (ls1 := [some (.ref 0), some (.int x1), some (.int x2), some (.int x3), some (.int x4), none]) (st1 := [.int x3, .int x2, .int x1, .ref 8]) (h1 := h) (P := (ak 0 = 0 ∧ cx 0 = 11) ∧ True) (by decide +kernel) rfl ⟨⟨rfl, rfl⟩, trivial⟩ ?_
        obtain ⟨v_4, e_5, e⟩ := bi_s e
        refine q_callV ok_Cloud_turnOf (as := [.int x1, .int x2, .int x3]) (st := []) ⟨wd_298, wd_222, wd_223, wd_14, ds_Cloud_turnOf, Nat.le_of_ble_eq_true rfl, Nat.le_of_ble_eq_true rfl⟩ (s_Cloud_turnOf ⟨rfl, rfl⟩ e_5) rfl ⟨rfl, rfl⟩ (ci := 0) rfl (fun v hv => by cases hv; rfl) (Nat.le_of_ble_eq_true rfl) (by decide +kernel) rfl ?_
        refine sl_ok ok_C_turned [.istore 5, .iload 4] (pc1 := 50) (ls1 := [some (.ref 0), some (.int x1), some (.int x2), some (.int x3), some (.int x4), some (.int v_4)]) (st1 := [.int x4]) (h1 := h) (P := True) (by decide +kernel) rfl trivial ?_
        by_cases c_6 : x4 = 0
        · have e := it_t c_6 e
          refine q_lookup (off := 26) (tgt := 76) (by decide +kernel : decode (mB M_C_turned) 50 = .ok (.lookupswitch 35 #[(0, 26), (1, 29)], 26)) (by decide +kernel) (by rw [c_6]; decide) (by decide) ?_
          refine sl_ok ok_C_turned [.iload 5] (pc1 := 78) (ls1 := [some (.ref 0), some (.int x1), some (.int x2), some (.int x3), some (.int x4), some (.int v_4)]) (st1 := [.int v_4]) (h1 := h) (P := True) (by decide +kernel) rfl trivial ?_
          cases e
          exact q_iret rfl k.1 k.2 (by decide +kernel)
        · have e := it_f c_6 e
          by_cases c_7 : x4 = 1
          · have e := it_t c_7 e
            refine q_lookup (off := 29) (tgt := 79) (by decide +kernel : decode (mB M_C_turned) 50 = .ok (.lookupswitch 35 #[(0, 26), (1, 29)], 26)) (by decide +kernel) (by rw [c_7]; decide) (by decide) ?_
            refine sl_ok ok_C_turned [.iload 5] (pc1 := 81) (ls1 := [some (.ref 0), some (.int x1), some (.int x2), some (.int x3), some (.int x4), some (.int v_4)]) (st1 := [.int v_4]) (h1 := h) (P := True) (by decide +kernel) rfl trivial ?_
            refine q_callS ok_C_signOf (as := [.int v_4]) (st := []) ⟨wd_299, wd_200, wd_48, ds_C_signOf, Nat.le_of_ble_eq_true rfl, Nat.le_of_ble_eq_true rfl⟩ (s_C_signOf ) rfl (fun v hv => by cases hv; rfl) (Nat.le_of_ble_eq_true rfl) (by decide +kernel) rfl ?_
            cases e
            exact q_iret rfl k.1 k.2 (by decide +kernel)
          · have e := it_f c_7 e
            refine q_lookup (off := 35) (tgt := 85) (by decide +kernel : decode (mB M_C_turned) 50 = .ok (.lookupswitch 35 #[(0, 26), (1, 29)], 26)) (by decide +kernel) (by show Op.lookupswitch.offset _ _ _ = _; rw [lv_osw c_6 (by decide), lv_osw c_7 (by decide)]; rfl) (by decide) ?_
            refine sl_ok ok_C_turned [.ldc 170] (pc1 := 87) (ls1 := [some (.ref 0), some (.int x1), some (.int x2), some (.int x3), some (.int x4), some (.int v_4)]) (st1 := [.int (-100000)]) (h1 := h) (P := True) (by decide +kernel) rfl trivial ?_
            cases e
            exact q_iret rfl k.1 k.2 (by decide +kernel)
      · have e := it_t c_3 e
        refine sl_ok ok_C_turned [.ldc 170] (pc1 := 35) (ls1 := [some (.ref 0), some (.int x1), some (.int x2), some (.int x3), some (.int x4), none]) (st1 := [.int (-100000)]) (h1 := h) (P := True) (by decide +kernel) rfl trivial ?_
        cases e
        exact q_iret rfl k.1 k.2 (by decide +kernel)
theorem s_C_turned {E : pE} {x1 : Int32} {x2 : Int32} {x3 : Int32} {x4 : Int32} {h : pH}  {v : Int32} (e : f_C_turned x1 x2 x3 x4 h = some v) : Ct E M_C_turned [.ref 0, .int x1, .int x2, .int x3, .int x4] h (some (.int v)) h :=
  Ct_of ok_C_turned [some (.ref 0), some (.int x1), some (.int x2), some (.int x3), some (.int x4), none] (Nat.le_of_ble_eq_true rfl) rfl (b_C_turned  e ⟨rfl, rfl⟩)
def f_R_turned (x1 : Int32) (x2 : Int32) (x3 : Int32) (x4 : Int32) (h : pH) : Option Int32 :=
  if (f_R_isPoint x1 h) = 0 then
    some (-100000)
  else
    if (f_R_isPoint x2 h) = 0 then
      some (-100000)
    else
      if (f_R_isPoint x3 h) = 0 then
        some (-100000)
      else
        if (f_R_in x4 (0 : Int32) (1 : Int32)) = 0 then
          some (-100000)
        else
          if x4 = 0 then
            (f_R_x x3 h).bind fun v_8 =>
            (f_R_y x3 h).bind fun v_10 =>
            (f_R_turnOf x1 x2 v_8 v_10 h).bind fun v_12 =>
            some v_12
          else
            (f_R_sideOf x1 x2 x3 h).bind fun v_6 =>
            some v_6
set_option maxHeartbeats 4000000 in
theorem b_R_turned {E : pE} {r : Option Value} {hr : pH} {x1 : Int32} {x2 : Int32} {x3 : Int32} {x4 : Int32} {h : pH}  {b : Int32} (e : f_R_turned x1 x2 x3 x4 h = some b) (k : (fun v : Int32 => r = some (.int v) ∧ hr = h) b) : Go E M_R_turned 0 [some (.ref 79), some (.int x1), some (.int x2), some (.int x3), some (.int x4)] [] h r hr := by
  unfold f_R_turned at e
  refine sl_ok ok_R_turned [.aload_n 0, .iload_n 1] (pc1 := 2) (ls1 := [some (.ref 79), some (.int x1), some (.int x2), some (.int x3), some (.int x4)]) (st1 := [.int x1, .ref 79]) (h1 := h) (P := True) (by decide +kernel) rfl trivial ?_
  refine q_callV ok_R_isPoint (as := [.int x1]) (st := []) ⟨wd_179, wd_180, wd_181, wd_7, ds_R_isPoint, Nat.le_of_ble_eq_true rfl, Nat.le_of_ble_eq_true rfl⟩ (s_R_isPoint ) rfl ⟨rfl, rfl⟩ (ci := 12) rfl (fun v hv => by cases hv; rfl) (Nat.le_of_ble_eq_true rfl) (by decide +kernel) rfl ?_
  refine q_if_eq (off := 29) (tgt := 34) (by decide +kernel) (by decide) (fun c_1 => ?_) (fun c_1 => ?_)
  · have e := it_t c_1 e
    refine sl_ok ok_R_turned [.ldc 220] (pc1 := 36) (ls1 := [some (.ref 79), some (.int x1), some (.int x2), some (.int x3), some (.int x4)]) (st1 := [.int (-100000)]) (h1 := h) (P := True) (by decide +kernel) rfl trivial ?_
    cases e
    exact q_iret rfl k.1 k.2 (by decide +kernel)
  · have e := it_f c_1 e
    refine sl_ok ok_R_turned [.aload_n 0, .iload_n 2] (pc1 := 10) (ls1 := [some (.ref 79), some (.int x1), some (.int x2), some (.int x3), some (.int x4)]) (st1 := [.int x2, .ref 79]) (h1 := h) (P := True) (by decide +kernel) rfl trivial ?_
    refine q_callV ok_R_isPoint (as := [.int x2]) (st := []) ⟨wd_179, wd_180, wd_181, wd_7, ds_R_isPoint, Nat.le_of_ble_eq_true rfl, Nat.le_of_ble_eq_true rfl⟩ (s_R_isPoint ) rfl ⟨rfl, rfl⟩ (ci := 12) rfl (fun v hv => by cases hv; rfl) (Nat.le_of_ble_eq_true rfl) (by decide +kernel) rfl ?_
    refine q_if_eq (off := 21) (tgt := 34) (by decide +kernel) (by decide) (fun c_2 => ?_) (fun c_2 => ?_)
    · have e := it_t c_2 e
      refine sl_ok ok_R_turned [.ldc 220] (pc1 := 36) (ls1 := [some (.ref 79), some (.int x1), some (.int x2), some (.int x3), some (.int x4)]) (st1 := [.int (-100000)]) (h1 := h) (P := True) (by decide +kernel) rfl trivial ?_
      cases e
      exact q_iret rfl k.1 k.2 (by decide +kernel)
    · have e := it_f c_2 e
      refine sl_ok ok_R_turned [.aload_n 0, .iload_n 3] (pc1 := 18) (ls1 := [some (.ref 79), some (.int x1), some (.int x2), some (.int x3), some (.int x4)]) (st1 := [.int x3, .ref 79]) (h1 := h) (P := True) (by decide +kernel) rfl trivial ?_
      refine q_callV ok_R_isPoint (as := [.int x3]) (st := []) ⟨wd_179, wd_180, wd_181, wd_7, ds_R_isPoint, Nat.le_of_ble_eq_true rfl, Nat.le_of_ble_eq_true rfl⟩ (s_R_isPoint ) rfl ⟨rfl, rfl⟩ (ci := 12) rfl (fun v hv => by cases hv; rfl) (Nat.le_of_ble_eq_true rfl) (by decide +kernel) rfl ?_
      refine q_if_eq (off := 13) (tgt := 34) (by decide +kernel) (by decide) (fun c_3 => ?_) (fun c_3 => ?_)
      · have e := it_t c_3 e
        refine sl_ok ok_R_turned [.ldc 220] (pc1 := 36) (ls1 := [some (.ref 79), some (.int x1), some (.int x2), some (.int x3), some (.int x4)]) (st1 := [.int (-100000)]) (h1 := h) (P := True) (by decide +kernel) rfl trivial ?_
        cases e
        exact q_iret rfl k.1 k.2 (by decide +kernel)
      · have e := it_f c_3 e
        refine sl_ok ok_R_turned [.iload 4, .iconst 0, .iconst 1] (pc1 := 28) (ls1 := [some (.ref 79), some (.int x1), some (.int x2), some (.int x3), some (.int x4)]) (st1 := [.int 1, .int 0, .int x4]) (h1 := h) (P := True) (by decide +kernel) rfl trivial ?_
        refine q_callS ok_R_in (as := [.int x4, .int 0, .int 1]) (st := []) ⟨wd_127, wd_128, wd_7, ds_R_in, Nat.le_of_ble_eq_true rfl, Nat.le_of_ble_eq_true rfl⟩ (s_R_in ) rfl (fun v hv => by cases hv; rfl) (Nat.le_of_ble_eq_true rfl) (by decide +kernel) rfl ?_
        refine q_if_ne (off := 6) (tgt := 37) (by decide +kernel) (by decide) (fun c_4 => ?_) (fun c_4 => ?_)
        · have e := it_f c_4 e
          refine sl_ok ok_R_turned [.iload 4] (pc1 := 39) (ls1 := [some (.ref 79), some (.int x1), some (.int x2), some (.int x3), some (.int x4)]) (st1 := [.int x4]) (h1 := h) (P := True) (by decide +kernel) rfl trivial ?_
          refine q_if_ne (off := 22) (tgt := 61) (by decide +kernel) (by decide) (fun c_5 => ?_) (fun c_5 => ?_)
          · have e := it_f c_5 e
            refine sl_ok ok_R_turned [.aload_n 0, .iload_n 1, .iload_n 2, .iload_n 3] (pc1 := 65) (ls1 := [some (.ref 79), some (.int x1), some (.int x2), some (.int x3), some (.int x4)]) (st1 := [.int x3, .int x2, .int x1, .ref 79]) (h1 := h) (P := True) (by decide +kernel) rfl trivial ?_
            obtain ⟨v_6, e_7, e⟩ := bi_s e
            refine q_callV ok_R_sideOf (as := [.int x1, .int x2, .int x3]) (st := []) ⟨wd_257, wd_258, wd_259, wd_7, ds_R_sideOf, Nat.le_of_ble_eq_true rfl, Nat.le_of_ble_eq_true rfl⟩ (s_R_sideOf  e_7) rfl ⟨rfl, rfl⟩ (ci := 12) rfl (fun v hv => by cases hv; rfl) (Nat.le_of_ble_eq_true rfl) (by decide +kernel) rfl ?_
            cases e
            exact q_iret rfl k.1 k.2 (by decide +kernel)
          · have e := it_t c_5 e
            refine sl_ok ok_R_turned [.aload_n 0, .iload_n 1, .iload_n 2, .aload_n 0, .iload_n 3] (pc1 := 47) (ls1 := [some (.ref 79), some (.int x1), some (.int x2), some (.int x3), some (.int x4)]) (st1 := [.int x3, .ref 79, .int x2, .int x1, .ref 79]) (h1 := h) (P := True) (by decide +kernel) rfl trivial ?_
            obtain ⟨v_8, e_9, e⟩ := bi_s e
            refine q_callV ok_R_x (as := [.int x3]) (st := [.int x2, .int x1, .ref 79]) ⟨wd_154, wd_155, wd_156, wd_7, ds_R_x, Nat.le_of_ble_eq_true rfl, Nat.le_of_ble_eq_true rfl⟩ (s_R_x  e_9) rfl ⟨rfl, rfl⟩ (ci := 12) rfl (fun v hv => by cases hv; rfl) (Nat.le_of_ble_eq_true rfl) (by decide +kernel) rfl ?_
            refine sl_ok ok_R_turned [.aload_n 0, .iload_n 3] (pc1 := 52) (ls1 := [some (.ref 79), some (.int x1), some (.int x2), some (.int x3), some (.int x4)]) (st1 := [.int x3, .ref 79, .int v_8, .int x2, .int x1, .ref 79]) (h1 := h) (P := True) (by decide +kernel) rfl trivial ?_
            obtain ⟨v_10, e_11, e⟩ := bi_s e
            refine q_callV ok_R_y (as := [.int x3]) (st := [.int v_8, .int x2, .int x1, .ref 79]) ⟨wd_157, wd_158, wd_159, wd_7, ds_R_y, Nat.le_of_ble_eq_true rfl, Nat.le_of_ble_eq_true rfl⟩ (s_R_y  e_11) rfl ⟨rfl, rfl⟩ (ci := 12) rfl (fun v hv => by cases hv; rfl) (Nat.le_of_ble_eq_true rfl) (by decide +kernel) rfl ?_
            obtain ⟨v_12, e_13, e⟩ := bi_s e
            refine q_callV ok_R_turnOf (as := [.int x1, .int x2, .int v_8, .int v_10]) (st := []) ⟨wd_252, wd_253, wd_254, wd_7, ds_R_turnOf, Nat.le_of_ble_eq_true rfl, Nat.le_of_ble_eq_true rfl⟩ (s_R_turnOf  e_13) rfl ⟨rfl, rfl⟩ (ci := 12) rfl (fun v hv => by cases hv; rfl) (Nat.le_of_ble_eq_true rfl) (by decide +kernel) rfl ?_
            refine q_goto (off := 10) (tgt := 68) (by decide) (by decide +kernel) ?_
            cases e
            exact q_iret rfl k.1 k.2 (by decide +kernel)
        · have e := it_t c_4 e
          refine sl_ok ok_R_turned [.ldc 220] (pc1 := 36) (ls1 := [some (.ref 79), some (.int x1), some (.int x2), some (.int x3), some (.int x4)]) (st1 := [.int (-100000)]) (h1 := h) (P := True) (by decide +kernel) rfl trivial ?_
          cases e
          exact q_iret rfl k.1 k.2 (by decide +kernel)
theorem s_R_turned {E : pE} {x1 : Int32} {x2 : Int32} {x3 : Int32} {x4 : Int32} {h : pH}  {v : Int32} (e : f_R_turned x1 x2 x3 x4 h = some v) : Ct E M_R_turned [.ref 79, .int x1, .int x2, .int x3, .int x4] h (some (.int v)) h :=
  Ct_of ok_R_turned [some (.ref 79), some (.int x1), some (.int x2), some (.int x3), some (.int x4)] (Nat.le_of_ble_eq_true rfl) rfl (b_R_turned  e ⟨rfl, rfl⟩)
def f_J_bitCount (x0 : Int32) : Int32 :=
  ((((((((x0 - ((jushr x0 1) &&& 1431655765)) &&& 858993459) + ((jushr (x0 - ((jushr x0 1) &&& 1431655765)) 2) &&& 858993459)) + (jushr (((x0 - ((jushr x0 1) &&& 1431655765)) &&& 858993459) + ((jushr (x0 - ((jushr x0 1) &&& 1431655765)) 2) &&& 858993459)) 4)) &&& 252645135) + (jushr (((((x0 - ((jushr x0 1) &&& 1431655765)) &&& 858993459) + ((jushr (x0 - ((jushr x0 1) &&& 1431655765)) 2) &&& 858993459)) + (jushr (((x0 - ((jushr x0 1) &&& 1431655765)) &&& 858993459) + ((jushr (x0 - ((jushr x0 1) &&& 1431655765)) 2) &&& 858993459)) 4)) &&& 252645135) 8)) + (jushr ((((((x0 - ((jushr x0 1) &&& 1431655765)) &&& 858993459) + ((jushr (x0 - ((jushr x0 1) &&& 1431655765)) 2) &&& 858993459)) + (jushr (((x0 - ((jushr x0 1) &&& 1431655765)) &&& 858993459) + ((jushr (x0 - ((jushr x0 1) &&& 1431655765)) 2) &&& 858993459)) 4)) &&& 252645135) + (jushr (((((x0 - ((jushr x0 1) &&& 1431655765)) &&& 858993459) + ((jushr (x0 - ((jushr x0 1) &&& 1431655765)) 2) &&& 858993459)) + (jushr (((x0 - ((jushr x0 1) &&& 1431655765)) &&& 858993459) + ((jushr (x0 - ((jushr x0 1) &&& 1431655765)) 2) &&& 858993459)) 4)) &&& 252645135) 8)) 16)) &&& 63)
set_option maxHeartbeats 4000000 in
theorem b_J_bitCount {E : pE} {r : Option Value} {hr : pH} {x0 : Int32} {h : pH}  {b : Int32} (e : f_J_bitCount x0 = b) (k : (fun v : Int32 => r = some (.int v) ∧ hr = h) b) : Go E M_J_bitCount 0 [some (.int x0)] [] h r hr := by
  unfold f_J_bitCount at e
  refine sl_ok ok_J_bitCount [.iload_n 0, .iload_n 0, .iconst 1, .iushr, .ldc_w 265, .iand, .isub, .istore_n 0, .iload_n 0, .ldc_w 266, .iand, .iload_n 0, .iconst 2, .iushr, .ldc_w 266, .iand, .iadd, .istore_n 0, .iload_n 0, .iload_n 0, .iconst 4, .iushr, .iadd, .ldc_w 267, .iand, .istore_n 0, .iload_n 0, .iload_n 0, .bipush 8, .iushr, .iadd, .istore_n 0, .iload_n 0, .iload_n 0, .bipush 16, .iushr, .iadd, .istore_n 0, .iload_n 0, .bipush 63, .iand] (pc1 := 52) (ls1 := [some (.int (((((((x0 - ((jushr x0 1) &&& 1431655765)) &&& 858993459) + ((jushr (x0 - ((jushr x0 1) &&& 1431655765)) 2) &&& 858993459)) + (jushr (((x0 - ((jushr x0 1) &&& 1431655765)) &&& 858993459) + ((jushr (x0 - ((jushr x0 1) &&& 1431655765)) 2) &&& 858993459)) 4)) &&& 252645135) + (jushr (((((x0 - ((jushr x0 1) &&& 1431655765)) &&& 858993459) + ((jushr (x0 - ((jushr x0 1) &&& 1431655765)) 2) &&& 858993459)) + (jushr (((x0 - ((jushr x0 1) &&& 1431655765)) &&& 858993459) + ((jushr (x0 - ((jushr x0 1) &&& 1431655765)) 2) &&& 858993459)) 4)) &&& 252645135) 8)) + (jushr ((((((x0 - ((jushr x0 1) &&& 1431655765)) &&& 858993459) + ((jushr (x0 - ((jushr x0 1) &&& 1431655765)) 2) &&& 858993459)) + (jushr (((x0 - ((jushr x0 1) &&& 1431655765)) &&& 858993459) + ((jushr (x0 - ((jushr x0 1) &&& 1431655765)) 2) &&& 858993459)) 4)) &&& 252645135) + (jushr (((((x0 - ((jushr x0 1) &&& 1431655765)) &&& 858993459) + ((jushr (x0 - ((jushr x0 1) &&& 1431655765)) 2) &&& 858993459)) + (jushr (((x0 - ((jushr x0 1) &&& 1431655765)) &&& 858993459) + ((jushr (x0 - ((jushr x0 1) &&& 1431655765)) 2) &&& 858993459)) 4)) &&& 252645135) 8)) 16)))]) (st1 := [.int ((((((((x0 - ((jushr x0 1) &&& 1431655765)) &&& 858993459) + ((jushr (x0 - ((jushr x0 1) &&& 1431655765)) 2) &&& 858993459)) + (jushr (((x0 - ((jushr x0 1) &&& 1431655765)) &&& 858993459) + ((jushr (x0 - ((jushr x0 1) &&& 1431655765)) 2) &&& 858993459)) 4)) &&& 252645135) + (jushr (((((x0 - ((jushr x0 1) &&& 1431655765)) &&& 858993459) + ((jushr (x0 - ((jushr x0 1) &&& 1431655765)) 2) &&& 858993459)) + (jushr (((x0 - ((jushr x0 1) &&& 1431655765)) &&& 858993459) + ((jushr (x0 - ((jushr x0 1) &&& 1431655765)) 2) &&& 858993459)) 4)) &&& 252645135) 8)) + (jushr ((((((x0 - ((jushr x0 1) &&& 1431655765)) &&& 858993459) + ((jushr (x0 - ((jushr x0 1) &&& 1431655765)) 2) &&& 858993459)) + (jushr (((x0 - ((jushr x0 1) &&& 1431655765)) &&& 858993459) + ((jushr (x0 - ((jushr x0 1) &&& 1431655765)) 2) &&& 858993459)) 4)) &&& 252645135) + (jushr (((((x0 - ((jushr x0 1) &&& 1431655765)) &&& 858993459) + ((jushr (x0 - ((jushr x0 1) &&& 1431655765)) 2) &&& 858993459)) + (jushr (((x0 - ((jushr x0 1) &&& 1431655765)) &&& 858993459) + ((jushr (x0 - ((jushr x0 1) &&& 1431655765)) 2) &&& 858993459)) 4)) &&& 252645135) 8)) 16)) &&& 63)]) (h1 := h) (P := True) (by decide +kernel) rfl trivial ?_
  cases e
  exact q_iret rfl k.1 k.2 (by decide +kernel)
theorem s_J_bitCount {E : pE} {x0 : Int32} {h : pH}  : Ct E M_J_bitCount [.int x0] h (some (.int (f_J_bitCount x0))) h :=
  Ct_of ok_J_bitCount [some (.int x0)] (Nat.le_of_ble_eq_true rfl) rfl (b_J_bitCount  rfl ⟨rfl, rfl⟩)
def f_C_sides (x1 : Int32) (x2 : Int32) (x3 : Int32) (h : pH) : Option Int32 :=
  if (f_Cloud_has 8 x1 h) = 0 then
    some (-1)
  else
    if (f_Cloud_has 8 x2 h) = 0 then
      some (-1)
    else
      if x1 = x2 then
        some (-1)
      else
        if x3 = 0 then
          (f_Cloud_sideBits 8 x1 x2 (1 : Int32) h).bind fun v_20 =>
          some (f_J_bitCount v_20)
        else
          if x3 = 1 then
            (f_Cloud_sideBits 8 x1 x2 ((-1) : Int32) h).bind fun v_18 =>
            some (f_J_bitCount v_18)
          else
            if x3 = 2 then
              (f_Cloud_sideBits 8 x1 x2 (0 : Int32) h).bind fun v_16 =>
              some (f_J_bitCount v_16)
            else
              if x3 = 3 then
                (f_Cloud_sideBits 8 x1 x2 (1 : Int32) h).bind fun v_14 =>
                some v_14
              else
                if x3 = 4 then
                  (f_Cloud_sideBits 8 x1 x2 ((-1) : Int32) h).bind fun v_12 =>
                  some v_12
                else
                  if x3 = 5 then
                    (f_Cloud_sideBits 8 x1 x2 (0 : Int32) h).bind fun v_10 =>
                    some v_10
                  else
                    some (-1)
set_option maxHeartbeats 4000000 in
theorem b_C_sides {E : pE} {r : Option Value} {hr : pH} {x1 : Int32} {x2 : Int32} {x3 : Int32} {h : pH}  {b : Int32} (e : f_C_sides x1 x2 x3 h = some b) (k : (fun v : Int32 => r = some (.int v) ∧ hr = h) b) : Go E M_C_sides 0 [some (.ref 0), some (.int x1), some (.int x2), some (.int x3)] [] h r hr := by
  unfold f_C_sides at e
  refine sl_ok ok_C_sides [.aload_n 0, .getfield 28, .iload_n 1] (pc1 := 5) (ls1 := [some (.ref 0), some (.int x1), some (.int x2), some (.int x3)]) (st1 := [.int x1, .ref 8]) (h1 := h) (P := (ak 0 = 0 ∧ cx 0 = 11) ∧ True) (by decide +kernel) rfl ⟨⟨rfl, rfl⟩, trivial⟩ ?_
  refine q_callV ok_Cloud_has (as := [.int x1]) (st := []) ⟨wd_175, wd_173, wd_174, wd_14, ds_Cloud_has, Nat.le_of_ble_eq_true rfl, Nat.le_of_ble_eq_true rfl⟩ (s_Cloud_has ⟨rfl, rfl⟩) rfl ⟨rfl, rfl⟩ (ci := 0) rfl (fun v hv => by cases hv; rfl) (Nat.le_of_ble_eq_true rfl) (by decide +kernel) rfl ?_
  refine q_if_eq (off := 19) (tgt := 27) (by decide +kernel) (by decide) (fun c_1 => ?_) (fun c_1 => ?_)
  · have e := it_t c_1 e
    refine sl_ok ok_C_sides [.iconst (-1)] (pc1 := 28) (ls1 := [some (.ref 0), some (.int x1), some (.int x2), some (.int x3)]) (st1 := [.int (-1)]) (h1 := h) (P := True) (by decide +kernel) rfl trivial ?_
    cases e
    exact q_iret rfl k.1 k.2 (by decide +kernel)
  · have e := it_f c_1 e
    refine sl_ok ok_C_sides [.aload_n 0, .getfield 28, .iload_n 2] (pc1 := 16) (ls1 := [some (.ref 0), some (.int x1), some (.int x2), some (.int x3)]) (st1 := [.int x2, .ref 8]) (h1 := h) (P := (ak 0 = 0 ∧ cx 0 = 11) ∧ True) (by decide +kernel) rfl ⟨⟨rfl, rfl⟩, trivial⟩ ?_
    refine q_callV ok_Cloud_has (as := [.int x2]) (st := []) ⟨wd_175, wd_173, wd_174, wd_14, ds_Cloud_has, Nat.le_of_ble_eq_true rfl, Nat.le_of_ble_eq_true rfl⟩ (s_Cloud_has ⟨rfl, rfl⟩) rfl ⟨rfl, rfl⟩ (ci := 0) rfl (fun v hv => by cases hv; rfl) (Nat.le_of_ble_eq_true rfl) (by decide +kernel) rfl ?_
    refine q_if_eq (off := 8) (tgt := 27) (by decide +kernel) (by decide) (fun c_2 => ?_) (fun c_2 => ?_)
    · have e := it_t c_2 e
      refine sl_ok ok_C_sides [.iconst (-1)] (pc1 := 28) (ls1 := [some (.ref 0), some (.int x1), some (.int x2), some (.int x3)]) (st1 := [.int (-1)]) (h1 := h) (P := True) (by decide +kernel) rfl trivial ?_
      cases e
      exact q_iret rfl k.1 k.2 (by decide +kernel)
    · have e := it_f c_2 e
      refine sl_ok ok_C_sides [.iload_n 1, .iload_n 2] (pc1 := 24) (ls1 := [some (.ref 0), some (.int x1), some (.int x2), some (.int x3)]) (st1 := [.int x2, .int x1]) (h1 := h) (P := True) (by decide +kernel) rfl trivial ?_
      refine q_icmp_ne (off := 5) (tgt := 29) (by decide +kernel) (by decide) (fun c_3 => ?_) (fun c_3 => ?_)
      · have e := it_f c_3 e
        refine sl_ok ok_C_sides [.iload_n 3] (pc1 := 30) (ls1 := [some (.ref 0), some (.int x1), some (.int x2), some (.int x3)]) (st1 := [.int x3]) (h1 := h) (P := True) (by decide +kernel) rfl trivial ?_
        by_cases c_4 : x3 = 0
        · have e := it_t c_4 e
          refine q_tableIn (off := 38) (tgt := 68) (by decide +kernel : decode (mB M_C_sides) 30 = .ok (.tableswitch 113 0 5 #[38, 52, 66, 80, 91, 102], 38)) (by rw [c_4]; decide) (by rw [c_4]; decide) (by rw [c_4]; decide) (by decide) ?_
          refine sl_ok ok_C_sides [.aload_n 0, .getfield 28, .iload_n 1, .iload_n 2, .iconst 1] (pc1 := 75) (ls1 := [some (.ref 0), some (.int x1), some (.int x2), some (.int x3)]) (st1 := [.int 1, .int x2, .int x1, .ref 8]) (h1 := h) (P := (ak 0 = 0 ∧ cx 0 = 11) ∧ True) (by decide +kernel) rfl ⟨⟨rfl, rfl⟩, trivial⟩ ?_
          obtain ⟨v_20, e_21, e⟩ := bi_s e
          refine q_callV ok_Cloud_sideBits (as := [.int x1, .int x2, .int 1]) (st := []) ⟨wd_300, wd_203, wd_204, wd_14, ds_Cloud_sideBits, Nat.le_of_ble_eq_true rfl, Nat.le_of_ble_eq_true rfl⟩ (s_Cloud_sideBits ⟨rfl, rfl⟩ e_21) rfl ⟨rfl, rfl⟩ (ci := 0) rfl (fun v hv => by cases hv; rfl) (Nat.le_of_ble_eq_true rfl) (by decide +kernel) rfl ?_
          refine q_callS ok_J_bitCount (as := [.int v_20]) (st := []) ⟨wd_301, wd_302, wd_303, ds_J_bitCount, Nat.le_of_ble_eq_true rfl, Nat.le_of_ble_eq_true rfl⟩ (s_J_bitCount ) rfl (fun v hv => by cases hv; rfl) (Nat.le_of_ble_eq_true rfl) (by decide +kernel) rfl ?_
          cases e
          exact q_iret rfl k.1 k.2 (by decide +kernel)
        · have e := it_f c_4 e
          by_cases c_5 : x3 = 1
          · have e := it_t c_5 e
            refine q_tableIn (off := 52) (tgt := 82) (by decide +kernel : decode (mB M_C_sides) 30 = .ok (.tableswitch 113 0 5 #[38, 52, 66, 80, 91, 102], 38)) (by rw [c_5]; decide) (by rw [c_5]; decide) (by rw [c_5]; decide) (by decide) ?_
            refine sl_ok ok_C_sides [.aload_n 0, .getfield 28, .iload_n 1, .iload_n 2, .iconst (-1)] (pc1 := 89) (ls1 := [some (.ref 0), some (.int x1), some (.int x2), some (.int x3)]) (st1 := [.int (-1), .int x2, .int x1, .ref 8]) (h1 := h) (P := (ak 0 = 0 ∧ cx 0 = 11) ∧ True) (by decide +kernel) rfl ⟨⟨rfl, rfl⟩, trivial⟩ ?_
            obtain ⟨v_18, e_19, e⟩ := bi_s e
            refine q_callV ok_Cloud_sideBits (as := [.int x1, .int x2, .int (-1)]) (st := []) ⟨wd_300, wd_203, wd_204, wd_14, ds_Cloud_sideBits, Nat.le_of_ble_eq_true rfl, Nat.le_of_ble_eq_true rfl⟩ (s_Cloud_sideBits ⟨rfl, rfl⟩ e_19) rfl ⟨rfl, rfl⟩ (ci := 0) rfl (fun v hv => by cases hv; rfl) (Nat.le_of_ble_eq_true rfl) (by decide +kernel) rfl ?_
            refine q_callS ok_J_bitCount (as := [.int v_18]) (st := []) ⟨wd_301, wd_302, wd_303, ds_J_bitCount, Nat.le_of_ble_eq_true rfl, Nat.le_of_ble_eq_true rfl⟩ (s_J_bitCount ) rfl (fun v hv => by cases hv; rfl) (Nat.le_of_ble_eq_true rfl) (by decide +kernel) rfl ?_
            cases e
            exact q_iret rfl k.1 k.2 (by decide +kernel)
          · have e := it_f c_5 e
            by_cases c_6 : x3 = 2
            · have e := it_t c_6 e
              refine q_tableIn (off := 66) (tgt := 96) (by decide +kernel : decode (mB M_C_sides) 30 = .ok (.tableswitch 113 0 5 #[38, 52, 66, 80, 91, 102], 38)) (by rw [c_6]; decide) (by rw [c_6]; decide) (by rw [c_6]; decide) (by decide) ?_
              refine sl_ok ok_C_sides [.aload_n 0, .getfield 28, .iload_n 1, .iload_n 2, .iconst 0] (pc1 := 103) (ls1 := [some (.ref 0), some (.int x1), some (.int x2), some (.int x3)]) (st1 := [.int 0, .int x2, .int x1, .ref 8]) (h1 := h) (P := (ak 0 = 0 ∧ cx 0 = 11) ∧ True) (by decide +kernel) rfl ⟨⟨rfl, rfl⟩, trivial⟩ ?_
              obtain ⟨v_16, e_17, e⟩ := bi_s e
              refine q_callV ok_Cloud_sideBits (as := [.int x1, .int x2, .int 0]) (st := []) ⟨wd_300, wd_203, wd_204, wd_14, ds_Cloud_sideBits, Nat.le_of_ble_eq_true rfl, Nat.le_of_ble_eq_true rfl⟩ (s_Cloud_sideBits ⟨rfl, rfl⟩ e_17) rfl ⟨rfl, rfl⟩ (ci := 0) rfl (fun v hv => by cases hv; rfl) (Nat.le_of_ble_eq_true rfl) (by decide +kernel) rfl ?_
              refine q_callS ok_J_bitCount (as := [.int v_16]) (st := []) ⟨wd_301, wd_302, wd_303, ds_J_bitCount, Nat.le_of_ble_eq_true rfl, Nat.le_of_ble_eq_true rfl⟩ (s_J_bitCount ) rfl (fun v hv => by cases hv; rfl) (Nat.le_of_ble_eq_true rfl) (by decide +kernel) rfl ?_
              cases e
              exact q_iret rfl k.1 k.2 (by decide +kernel)
            · have e := it_f c_6 e
              by_cases c_7 : x3 = 3
              · have e := it_t c_7 e
                refine q_tableIn (off := 80) (tgt := 110) (by decide +kernel : decode (mB M_C_sides) 30 = .ok (.tableswitch 113 0 5 #[38, 52, 66, 80, 91, 102], 38)) (by rw [c_7]; decide) (by rw [c_7]; decide) (by rw [c_7]; decide) (by decide) ?_
                refine sl_ok ok_C_sides [.aload_n 0, .getfield 28, .iload_n 1, .iload_n 2, .iconst 1] (pc1 := 117) (ls1 := [some (.ref 0), some (.int x1), some (.int x2), some (.int x3)]) (st1 := [.int 1, .int x2, .int x1, .ref 8]) (h1 := h) (P := (ak 0 = 0 ∧ cx 0 = 11) ∧ True) (by decide +kernel) rfl ⟨⟨rfl, rfl⟩, trivial⟩ ?_
                obtain ⟨v_14, e_15, e⟩ := bi_s e
                refine q_callV ok_Cloud_sideBits (as := [.int x1, .int x2, .int 1]) (st := []) ⟨wd_300, wd_203, wd_204, wd_14, ds_Cloud_sideBits, Nat.le_of_ble_eq_true rfl, Nat.le_of_ble_eq_true rfl⟩ (s_Cloud_sideBits ⟨rfl, rfl⟩ e_15) rfl ⟨rfl, rfl⟩ (ci := 0) rfl (fun v hv => by cases hv; rfl) (Nat.le_of_ble_eq_true rfl) (by decide +kernel) rfl ?_
                cases e
                exact q_iret rfl k.1 k.2 (by decide +kernel)
              · have e := it_f c_7 e
                by_cases c_8 : x3 = 4
                · have e := it_t c_8 e
                  refine q_tableIn (off := 91) (tgt := 121) (by decide +kernel : decode (mB M_C_sides) 30 = .ok (.tableswitch 113 0 5 #[38, 52, 66, 80, 91, 102], 38)) (by rw [c_8]; decide) (by rw [c_8]; decide) (by rw [c_8]; decide) (by decide) ?_
                  refine sl_ok ok_C_sides [.aload_n 0, .getfield 28, .iload_n 1, .iload_n 2, .iconst (-1)] (pc1 := 128) (ls1 := [some (.ref 0), some (.int x1), some (.int x2), some (.int x3)]) (st1 := [.int (-1), .int x2, .int x1, .ref 8]) (h1 := h) (P := (ak 0 = 0 ∧ cx 0 = 11) ∧ True) (by decide +kernel) rfl ⟨⟨rfl, rfl⟩, trivial⟩ ?_
                  obtain ⟨v_12, e_13, e⟩ := bi_s e
                  refine q_callV ok_Cloud_sideBits (as := [.int x1, .int x2, .int (-1)]) (st := []) ⟨wd_300, wd_203, wd_204, wd_14, ds_Cloud_sideBits, Nat.le_of_ble_eq_true rfl, Nat.le_of_ble_eq_true rfl⟩ (s_Cloud_sideBits ⟨rfl, rfl⟩ e_13) rfl ⟨rfl, rfl⟩ (ci := 0) rfl (fun v hv => by cases hv; rfl) (Nat.le_of_ble_eq_true rfl) (by decide +kernel) rfl ?_
                  cases e
                  exact q_iret rfl k.1 k.2 (by decide +kernel)
                · have e := it_f c_8 e
                  by_cases c_9 : x3 = 5
                  · have e := it_t c_9 e
                    refine q_tableIn (off := 102) (tgt := 132) (by decide +kernel : decode (mB M_C_sides) 30 = .ok (.tableswitch 113 0 5 #[38, 52, 66, 80, 91, 102], 38)) (by rw [c_9]; decide) (by rw [c_9]; decide) (by rw [c_9]; decide) (by decide) ?_
                    refine sl_ok ok_C_sides [.aload_n 0, .getfield 28, .iload_n 1, .iload_n 2, .iconst 0] (pc1 := 139) (ls1 := [some (.ref 0), some (.int x1), some (.int x2), some (.int x3)]) (st1 := [.int 0, .int x2, .int x1, .ref 8]) (h1 := h) (P := (ak 0 = 0 ∧ cx 0 = 11) ∧ True) (by decide +kernel) rfl ⟨⟨rfl, rfl⟩, trivial⟩ ?_
                    obtain ⟨v_10, e_11, e⟩ := bi_s e
                    refine q_callV ok_Cloud_sideBits (as := [.int x1, .int x2, .int 0]) (st := []) ⟨wd_300, wd_203, wd_204, wd_14, ds_Cloud_sideBits, Nat.le_of_ble_eq_true rfl, Nat.le_of_ble_eq_true rfl⟩ (s_Cloud_sideBits ⟨rfl, rfl⟩ e_11) rfl ⟨rfl, rfl⟩ (ci := 0) rfl (fun v hv => by cases hv; rfl) (Nat.le_of_ble_eq_true rfl) (by decide +kernel) rfl ?_
                    cases e
                    exact q_iret rfl k.1 k.2 (by decide +kernel)
                  · have e := it_f c_9 e
                    refine q_tableOut (tgt := 143) (by decide +kernel : decode (mB M_C_sides) 30 = .ok (.tableswitch 113 0 5 #[38, 52, 66, 80, 91, 102], 38)) (sw_out [0, 1, 2, 3, 4, 5] (by decide) ⟨c_4, c_5, c_6, c_7, c_8, c_9, trivial⟩) (by decide) ?_
                    refine sl_ok ok_C_sides [.iconst (-1)] (pc1 := 144) (ls1 := [some (.ref 0), some (.int x1), some (.int x2), some (.int x3)]) (st1 := [.int (-1)]) (h1 := h) (P := True) (by decide +kernel) rfl trivial ?_
                    cases e
                    exact q_iret rfl k.1 k.2 (by decide +kernel)
      · have e := it_t c_3 e
        refine sl_ok ok_C_sides [.iconst (-1)] (pc1 := 28) (ls1 := [some (.ref 0), some (.int x1), some (.int x2), some (.int x3)]) (st1 := [.int (-1)]) (h1 := h) (P := True) (by decide +kernel) rfl trivial ?_
        cases e
        exact q_iret rfl k.1 k.2 (by decide +kernel)
theorem s_C_sides {E : pE} {x1 : Int32} {x2 : Int32} {x3 : Int32} {h : pH}  {v : Int32} (e : f_C_sides x1 x2 x3 h = some v) : Ct E M_C_sides [.ref 0, .int x1, .int x2, .int x3] h (some (.int v)) h :=
  Ct_of ok_C_sides [some (.ref 0), some (.int x1), some (.int x2), some (.int x3)] (Nat.le_of_ble_eq_true rfl) rfl (b_C_sides  e ⟨rfl, rfl⟩)
def f_R_bitsOf_L1 (x1 : Int32) (x2 : Int32) : Option ((Int32 × Int32) ⊕ Int32) :=
  if x2 ≤ 0 then
    some (.inr x1)
  else
    some (.inl ((x1 + (x2 &&& 1)), (jshr x2 1)))
set_option maxHeartbeats 4000000 in
theorem b_R_bitsOf_L1 {E : pE} {r : Option Value} {hr : pH} {x1 : Int32} {x2 : Int32} {h : pH}  {b : ((Int32 × Int32) ⊕ Int32)} (e : f_R_bitsOf_L1 x1 x2 = some b) (k : (Sum.elim (fun s : (Int32 × Int32) => Go E M_R_bitsOf 4 [none, some (.int s.1), some (.int s.2)] [] h r hr) (fun v : Int32 => r = some (.int v) ∧ hr = h)) b) : Go E M_R_bitsOf 4 [none, some (.int x1), some (.int x2)] [] h r hr := by
  unfold f_R_bitsOf_L1 at e
  refine sl_ok ok_R_bitsOf [.iload_n 2] (pc1 := 5) (ls1 := [none, some (.int x1), some (.int x2)]) (st1 := [.int x2]) (h1 := h) (P := True) (by decide +kernel) rfl trivial ?_
  refine q_if_le (off := 16) (tgt := 21) (by decide +kernel) (by decide) (fun c_1 => ?_) (fun c_1 => ?_)
  · have e := it_t c_1 e
    refine sl_ok ok_R_bitsOf [.iload_n 1] (pc1 := 22) (ls1 := [none, some (.int x1), some (.int x2)]) (st1 := [.int x1]) (h1 := h) (P := True) (by decide +kernel) rfl trivial ?_
    cases e
    exact q_iret rfl k.1 k.2 (by decide +kernel)
  · have e := it_f c_1 e
    refine sl_ok ok_R_bitsOf [.iload_n 1, .iload_n 2, .iconst 1, .iand, .iadd, .istore_n 1, .iload_n 2, .iconst 1, .ishr, .istore_n 2] (pc1 := 18) (ls1 := [none, some (.int (x1 + (x2 &&& 1))), some (.int (jshr x2 1))]) (st1 := []) (h1 := h) (P := True) (by decide +kernel) rfl trivial ?_
    refine q_goto (off := -14) (tgt := 4) (by decide) (by decide +kernel) ?_
    cases e
    exact k
def f_R_bitsOf (x0 : Int32) : Option Int32 :=
  lp (fun s => f_R_bitsOf_L1 s.1 s.2) lpN (0, x0)
set_option maxHeartbeats 4000000 in
theorem b_R_bitsOf {E : pE} {r : Option Value} {hr : pH} {x0 : Int32} {h : pH}  {b : Int32} (e : f_R_bitsOf x0 = some b) (k : (fun v : Int32 => r = some (.int v) ∧ hr = h) b) : Go E M_R_bitsOf 0 [some (.int x0), none, none] [] h r hr := by
  unfold f_R_bitsOf at e
  refine sl_ok ok_R_bitsOf [.iconst 0, .istore_n 1, .iload_n 0, .istore_n 2] (pc1 := 4) (ls1 := [some (.int x0), some (.int 0), some (.int x0)]) (st1 := []) (h1 := h) (P := True) (by decide +kernel) rfl trivial ?_
  refine Go.sb [none, some (.int 0), some (.int x0)] (And.intro rfl (And.intro rfl trivial)) ?_
  exact lp_in e (fun s => Go E M_R_bitsOf 4 [none, some (.int s.1), some (.int s.2)] [] h r hr) (fun v : Int32 => r = some (.int v) ∧ hr = h) (fun _ _ e k => b_R_bitsOf_L1  e k) k
theorem s_R_bitsOf {E : pE} {x0 : Int32} {h : pH}  {v : Int32} (e : f_R_bitsOf x0 = some v) : Ct E M_R_bitsOf [.int x0] h (some (.int v)) h :=
  Ct_of ok_R_bitsOf [some (.int x0), none, none] (Nat.le_of_ble_eq_true rfl) rfl (b_R_bitsOf  e ⟨rfl, rfl⟩)
