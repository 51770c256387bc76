def f_C_crossing (x1 : Int32) (x2 : Int32) (h : pH) : Option (Int32 × pH) :=
  (f_Lines_cross 8 h).bind fun v_1 =>
  if x1 = (-1) then
    some ((hI v_1 24 1), v_1)
  else
    if x1 < 0 then
      some ((-100000), v_1)
    else
      if x1 < (hI v_1 24 1) then
        if x2 = 0 then
          (f_Lines_over 8 x1 v_1).bind fun v_19 =>
          (f_Lines_divisor 8 x1 v_1).bind fun v_21 =>
          if v_21 = 0 then none else
          some ((v_19 / v_21), v_1)
        else
          if x2 = 1 then
            (f_Lines_under 8 x1 v_1).bind fun v_14 =>
            (f_Lines_divisor 8 x1 v_1).bind fun v_16 =>
            if v_16 = 0 then none else
            some ((v_14 / v_16), v_1)
          else
            if x2 = 2 then
              (f_Lines_lesser x1 v_1).bind fun v_12 =>
              some (v_12, v_1)
            else
              if x2 = 3 then
                (f_Lines_other x1 v_1).bind fun v_10 =>
                some (v_10, v_1)
              else
                some ((-100000), v_1)
      else
        some ((-100000), v_1)
set_option maxHeartbeats 4000000 in
theorem b_C_crossing {E : pE} {r : Option Value} {hr : pH} {x1 : Int32} {x2 : Int32} {h : pH}  {b : (Int32 × pH)} (e : f_C_crossing x1 x2 h = some b) (k : (fun v : (Int32 × pH) => r = some (.int v.1) ∧ hr = v.2) b) : Go E M_C_crossing 0 [some (.ref 0), some (.int x1), some (.int x2)] [] h r hr := by
  unfold f_C_crossing at e
  refine sl_ok ok_C_crossing [.aload_n 0, .getfield 59, .aload_n 0, .getfield 28] (pc1 := 8) (ls1 := [some (.ref 0), some (.int x1), some (.int x2)]) (st1 := [.ref 8, .ref 24]) (h1 := h) (P := (ak 0 = 0 ∧ cx 0 = 11) ∧ (ak 0 = 0 ∧ cx 0 = 11) ∧ True) (by decide +kernel) rfl ⟨⟨rfl, rfl⟩, ⟨rfl, rfl⟩, trivial⟩ ?_
  obtain ⟨v_1, e_2, e⟩ := bi_s e
  refine q_callV ok_Lines_cross (as := [.ref 8]) (st := []) ⟨wd_445, wd_446, wd_447, wd_414, ds_Lines_cross, Nat.le_of_ble_eq_true rfl, Nat.le_of_ble_eq_true rfl⟩ (s_Lines_cross ⟨rfl, rfl⟩ e_2) rfl ⟨rfl, rfl⟩ (ci := 5) rfl (fun v hv => by cases hv) (Nat.le_of_ble_eq_true rfl) (by decide +kernel) rfl ?_
  refine sl_ok ok_C_crossing [.iload_n 1, .iconst (-1)] (pc1 := 13) (ls1 := [some (.ref 0), some (.int x1), some (.int x2)]) (st1 := [.int (-1), .int x1]) (h1 := v_1) (P := True) (by decide +kernel) rfl trivial ?_
  refine q_icmp_ne (off := 11) (tgt := 24) (by decide +kernel) (by decide) (fun c_3 => ?_) (fun c_3 => ?_)
  · have e := it_f c_3 e
    refine sl_ok ok_C_crossing [.iload_n 1] (pc1 := 25) (ls1 := [some (.ref 0), some (.int x1), some (.int x2)]) (st1 := [.int x1]) (h1 := v_1) (P := True) (by decide +kernel) rfl trivial ?_
    refine q_if_lt (off := 14) (tgt := 39) (by decide +kernel) (by decide) (fun c_4 => ?_) (fun c_4 => ?_)
    · have e := it_t c_4 e
      refine sl_ok ok_C_crossing [.ldc 170] (pc1 := 41) (ls1 := [some (.ref 0), some (.int x1), some (.int x2)]) (st1 := [.int (-100000)]) (h1 := v_1) (P := True) (by decide +kernel) rfl trivial ?_
      cases e
      exact q_iret rfl k.1 k.2 (by decide +kernel)
    · have e := it_f c_4 e
      refine sl_ok ok_C_crossing [.iload_n 1, .aload_n 0, .getfield 59, .getfield 314] (pc1 := 36) (ls1 := [some (.ref 0), some (.int x1), some (.int x2)]) (st1 := [.int (hI v_1 24 1), .int x1]) (h1 := v_1) (P := (ak 0 = 0 ∧ cx 0 = 11) ∧ (ak 24 = 0 ∧ cx 24 = 5) ∧ True) (by decide +kernel) rfl ⟨⟨rfl, rfl⟩, ⟨rfl, rfl⟩, trivial⟩ ?_
      refine q_icmp_lt (off := 6) (tgt := 42) (by decide +kernel) (by decide) (fun c_5 => ?_) (fun c_5 => ?_)
      · have e := it_t c_5 e
        refine sl_ok ok_C_crossing [.iload_n 2] (pc1 := 43) (ls1 := [some (.ref 0), some (.int x1), some (.int x2)]) (st1 := [.int x2]) (h1 := v_1) (P := True) (by decide +kernel) rfl trivial ?_
        by_cases c_6 : x2 = 0
        · have e := it_t c_6 e
          refine q_tableIn (off := 29) (tgt := 72) (by decide +kernel : decode (mB M_C_crossing) 43 = .ok (.tableswitch 99 0 3 #[29, 55, 81, 90], 29)) (by rw [c_6]; decide) (by rw [c_6]; decide) (by rw [c_6]; decide) (by decide) ?_
          refine sl_ok ok_C_crossing [.aload_n 0, .getfield 59, .aload_n 0, .getfield 28, .iload_n 1] (pc1 := 81) (ls1 := [some (.ref 0), some (.int x1), some (.int x2)]) (st1 := [.int x1, .ref 8, .ref 24]) (h1 := v_1) (P := (ak 0 = 0 ∧ cx 0 = 11) ∧ (ak 0 = 0 ∧ cx 0 = 11) ∧ True) (by decide +kernel) rfl ⟨⟨rfl, rfl⟩, ⟨rfl, rfl⟩, trivial⟩ ?_
          obtain ⟨v_19, e_20, e⟩ := bi_s e
          refine q_callV ok_Lines_over (as := [.ref 8, .int x1]) (st := []) ⟨wd_454, wd_431, wd_432, wd_414, ds_Lines_over, Nat.le_of_ble_eq_true rfl, Nat.le_of_ble_eq_true rfl⟩ (s_Lines_over ⟨rfl, rfl⟩ e_20) rfl ⟨rfl, rfl⟩ (ci := 5) rfl (fun v hv => by cases hv; rfl) (Nat.le_of_ble_eq_true rfl) (by decide +kernel) rfl ?_
          refine sl_ok ok_C_crossing [.aload_n 0, .getfield 59, .aload_n 0, .getfield 28, .iload_n 1] (pc1 := 93) (ls1 := [some (.ref 0), some (.int x1), some (.int x2)]) (st1 := [.int x1, .ref 8, .ref 24, .int v_19]) (h1 := v_1) (P := (ak 0 = 0 ∧ cx 0 = 11) ∧ (ak 0 = 0 ∧ cx 0 = 11) ∧ True) (by decide +kernel) rfl ⟨⟨rfl, rfl⟩, ⟨rfl, rfl⟩, trivial⟩ ?_
          obtain ⟨v_21, e_22, e⟩ := bi_s e
          refine q_callV ok_Lines_divisor (as := [.ref 8, .int x1]) (st := [.int v_19]) ⟨wd_451, wd_452, wd_453, wd_414, ds_Lines_divisor, Nat.le_of_ble_eq_true rfl, Nat.le_of_ble_eq_true rfl⟩ (s_Lines_divisor ⟨rfl, rfl⟩ e_22) rfl ⟨rfl, rfl⟩ (ci := 5) rfl (fun v hv => by cases hv; rfl) (Nat.le_of_ble_eq_true rfl) (by decide +kernel) rfl ?_
          obtain ⟨g_23, e⟩ := it_g e
          refine sl_ok ok_C_crossing [.idiv] (pc1 := 97) (ls1 := [some (.ref 0), some (.int x1), some (.int x2)]) (st1 := [.int (v_19 / v_21)]) (h1 := v_1) (P := (¬ v_21 = 0) ∧ True) (by decide +kernel) rfl ⟨g_23, trivial⟩ ?_
          cases e
          exact q_iret rfl k.1 k.2 (by decide +kernel)
        · have e := it_f c_6 e
          by_cases c_7 : x2 = 1
          · have e := it_t c_7 e
            refine q_tableIn (off := 55) (tgt := 98) (by decide +kernel : decode (mB M_C_crossing) 43 = .ok (.tableswitch 99 0 3 #[29, 55, 81, 90], 29)) (by rw [c_7]; decide) (by rw [c_7]; decide) (by rw [c_7]; decide) (by decide) ?_
            refine sl_ok ok_C_crossing [.aload_n 0, .getfield 59, .aload_n 0, .getfield 28, .iload_n 1] (pc1 := 107) (ls1 := [some (.ref 0), some (.int x1), some (.int x2)]) (st1 := [.int x1, .ref 8, .ref 24]) (h1 := v_1) (P := (ak 0 = 0 ∧ cx 0 = 11) ∧ (ak 0 = 0 ∧ cx 0 = 11) ∧ True) (by decide +kernel) rfl ⟨⟨rfl, rfl⟩, ⟨rfl, rfl⟩, trivial⟩ ?_
            obtain ⟨v_14, e_15, e⟩ := bi_s e
            refine q_callV ok_Lines_under (as := [.ref 8, .int x1]) (st := []) ⟨wd_450, wd_434, wd_435, wd_414, ds_Lines_under, Nat.le_of_ble_eq_true rfl, Nat.le_of_ble_eq_true rfl⟩ (s_Lines_under ⟨rfl, rfl⟩ e_15) rfl ⟨rfl, rfl⟩ (ci := 5) rfl (fun v hv => by cases hv; rfl) (Nat.le_of_ble_eq_true rfl) (by decide +kernel) rfl ?_
            refine sl_ok ok_C_crossing [.aload_n 0, .getfield 59, .aload_n 0, .getfield 28, .iload_n 1] (pc1 := 119) (ls1 := [some (.ref 0), some (.int x1), some (.int x2)]) (st1 := [.int x1, .ref 8, .ref 24, .int v_14]) (h1 := v_1) (P := (ak 0 = 0 ∧ cx 0 = 11) ∧ (ak 0 = 0 ∧ cx 0 = 11) ∧ True) (by decide +kernel) rfl ⟨⟨rfl, rfl⟩, ⟨rfl, rfl⟩, trivial⟩ ?_
            obtain ⟨v_16, e_17, e⟩ := bi_s e
            refine q_callV ok_Lines_divisor (as := [.ref 8, .int x1]) (st := [.int v_14]) ⟨wd_451, wd_452, wd_453, wd_414, ds_Lines_divisor, Nat.le_of_ble_eq_true rfl, Nat.le_of_ble_eq_true rfl⟩ (s_Lines_divisor ⟨rfl, rfl⟩ e_17) rfl ⟨rfl, rfl⟩ (ci := 5) rfl (fun v hv => by cases hv; rfl) (Nat.le_of_ble_eq_true rfl) (by decide +kernel) rfl ?_
            obtain ⟨g_18, e⟩ := it_g e
            refine sl_ok ok_C_crossing [.idiv] (pc1 := 123) (ls1 := [some (.ref 0), some (.int x1), some (.int x2)]) (st1 := [.int (v_14 / v_16)]) (h1 := v_1) (P := (¬ v_16 = 0) ∧ True) (by decide +kernel) rfl ⟨g_18, trivial⟩ ?_
            cases e
            exact q_iret rfl k.1 k.2 (by decide +kernel)
          · have e := it_f c_7 e
            by_cases c_8 : x2 = 2
            · have e := it_t c_8 e
              refine q_tableIn (off := 81) (tgt := 124) (by decide +kernel : decode (mB M_C_crossing) 43 = .ok (.tableswitch 99 0 3 #[29, 55, 81, 90], 29)) (by rw [c_8]; decide) (by rw [c_8]; decide) (by rw [c_8]; decide) (by decide) ?_
              refine sl_ok ok_C_crossing [.aload_n 0, .getfield 59, .iload_n 1] (pc1 := 129) (ls1 := [some (.ref 0), some (.int x1), some (.int x2)]) (st1 := [.int x1, .ref 24]) (h1 := v_1) (P := (ak 0 = 0 ∧ cx 0 = 11) ∧ True) (by decide +kernel) rfl ⟨⟨rfl, rfl⟩, trivial⟩ ?_
              obtain ⟨v_12, e_13, e⟩ := bi_s e
              refine q_callV ok_Lines_lesser (as := [.int x1]) (st := []) ⟨wd_449, wd_424, wd_425, wd_414, ds_Lines_lesser, Nat.le_of_ble_eq_true rfl, Nat.le_of_ble_eq_true rfl⟩ (s_Lines_lesser  e_13) rfl ⟨rfl, rfl⟩ (ci := 5) rfl (fun v hv => by cases hv; rfl) (Nat.le_of_ble_eq_true rfl) (by decide +kernel) rfl ?_
              cases e
              exact q_iret rfl k.1 k.2 (by decide +kernel)
            · have e := it_f c_8 e
              by_cases c_9 : x2 = 3
              · have e := it_t c_9 e
                refine q_tableIn (off := 90) (tgt := 133) (by decide +kernel : decode (mB M_C_crossing) 43 = .ok (.tableswitch 99 0 3 #[29, 55, 81, 90], 29)) (by rw [c_9]; decide) (by rw [c_9]; decide) (by rw [c_9]; decide) (by decide) ?_
                refine sl_ok ok_C_crossing [.aload_n 0, .getfield 59, .iload_n 1] (pc1 := 138) (ls1 := [some (.ref 0), some (.int x1), some (.int x2)]) (st1 := [.int x1, .ref 24]) (h1 := v_1) (P := (ak 0 = 0 ∧ cx 0 = 11) ∧ True) (by decide +kernel) rfl ⟨⟨rfl, rfl⟩, trivial⟩ ?_
                obtain ⟨v_10, e_11, e⟩ := bi_s e
                refine q_callV ok_Lines_other (as := [.int x1]) (st := []) ⟨wd_448, wd_427, wd_428, wd_414, ds_Lines_other, Nat.le_of_ble_eq_true rfl, Nat.le_of_ble_eq_true rfl⟩ (s_Lines_other  e_11) rfl ⟨rfl, rfl⟩ (ci := 5) rfl (fun v hv => by cases hv; rfl) (Nat.le_of_ble_eq_true rfl) (by decide +kernel) rfl ?_
                cases e
                exact q_iret rfl k.1 k.2 (by decide +kernel)
              · have e := it_f c_9 e
                refine q_tableOut (tgt := 142) (by decide +kernel : decode (mB M_C_crossing) 43 = .ok (.tableswitch 99 0 3 #[29, 55, 81, 90], 29)) (sw_out [0, 1, 2, 3] (by decide) ⟨c_6, c_7, c_8, c_9, trivial⟩) (by decide) ?_
                refine sl_ok ok_C_crossing [.ldc 170] (pc1 := 144) (ls1 := [some (.ref 0), some (.int x1), some (.int x2)]) (st1 := [.int (-100000)]) (h1 := v_1) (P := True) (by decide +kernel) rfl trivial ?_
                cases e
                exact q_iret rfl k.1 k.2 (by decide +kernel)
      · have e := it_f c_5 e
        refine sl_ok ok_C_crossing [.ldc 170] (pc1 := 41) (ls1 := [some (.ref 0), some (.int x1), some (.int x2)]) (st1 := [.int (-100000)]) (h1 := v_1) (P := True) (by decide +kernel) rfl trivial ?_
        cases e
        exact q_iret rfl k.1 k.2 (by decide +kernel)
  · have e := it_t c_3 e
    refine sl_ok ok_C_crossing [.aload_n 0, .getfield 59, .getfield 314] (pc1 := 23) (ls1 := [some (.ref 0), some (.int x1), some (.int x2)]) (st1 := [.int (hI v_1 24 1)]) (h1 := v_1) (P := (ak 0 = 0 ∧ cx 0 = 11) ∧ (ak 24 = 0 ∧ cx 24 = 5) ∧ True) (by decide +kernel) rfl ⟨⟨rfl, rfl⟩, ⟨rfl, rfl⟩, trivial⟩ ?_
    cases e
    exact q_iret rfl k.1 k.2 (by decide +kernel)
theorem s_C_crossing {E : pE} {x1 : Int32} {x2 : Int32} {h : pH}  {v : (Int32 × pH)} (e : f_C_crossing x1 x2 h = some v) : Ct E M_C_crossing [.ref 0, .int x1, .int x2] h (some (.int v.1)) v.2 :=
  Ct_of ok_C_crossing [some (.ref 0), some (.int x1), some (.int x2)] (Nat.le_of_ble_eq_true rfl) rfl (b_C_crossing  e ⟨rfl, rfl⟩)
def f_R_measure_L1 (x2 : Int32) (x3 : Int32) : Option ((Int32 × Int32) ⊕ Int32) :=
  if x3 ≤ 0 then
    some (.inr x2)
  else
    if x3 = 0 then none else
    some (.inl (x3, (jrem x2 x3)))
set_option maxHeartbeats 4000000 in
theorem b_R_measure_L1 {E : pE} {r : Option Value} {hr : pH} {x2 : Int32} {x3 : Int32} {h : pH}  {b : ((Int32 × Int32) ⊕ Int32)} (e : f_R_measure_L1 x2 x3 = some b) (k : (Sum.elim (fun s : (Int32 × Int32) => Go E M_R_measure 13 [none, none, some (.int s.1), some (.int s.2), none] [] h r hr) (fun v : Int32 => r = some (.int v) ∧ hr = h)) b) : Go E M_R_measure 13 [none, none, some (.int x2), some (.int x3), none] [] h r hr := by
  unfold f_R_measure_L1 at e
  refine sl_ok ok_R_measure [.iload_n 3] (pc1 := 14) (ls1 := [none, none, some (.int x2), some (.int x3), none]) (st1 := [.int x3]) (h1 := h) (P := True) (by decide +kernel) rfl trivial ?_
  refine q_if_le (off := 16) (tgt := 30) (by decide +kernel) (by decide) (fun c_1 => ?_) (fun c_1 => ?_)
  · have e := it_t c_1 e
    refine sl_ok ok_R_measure [.iload_n 2] (pc1 := 31) (ls1 := [none, none, some (.int x2), some (.int x3), none]) (st1 := [.int x2]) (h1 := h) (P := True) (by decide +kernel) rfl trivial ?_
    cases e
    exact q_iret rfl k.1 k.2 (by decide +kernel)
  · have e := it_f c_1 e
    obtain ⟨g_2, e⟩ := it_g e
    refine sl_ok ok_R_measure [.iload_n 2, .iload_n 3, .irem, .istore 4, .iload_n 3, .istore_n 2, .iload 4, .istore_n 3] (pc1 := 27) (ls1 := [none, none, some (.int x3), some (.int (jrem x2 x3)), some (.int (jrem x2 x3))]) (st1 := []) (h1 := h) (P := (¬ x3 = 0) ∧ True) (by decide +kernel) rfl ⟨g_2, trivial⟩ ?_
    refine q_goto (off := -14) (tgt := 13) (by decide) (by decide +kernel) ?_
    cases e
    refine Go.sb [none, none, some (.int x3), some (.int (jrem x2 x3)), none] (And.intro rfl (And.intro rfl trivial)) ?_
    exact k
def f_R_measure (x0 : Int32) (x1 : Int32) : Option Int32 :=
  if 0 ≤ x0 then
    lp (fun s => f_R_measure_L1 s.1 s.2) lpN (x0, x1)
  else
    lp (fun s => f_R_measure_L1 s.1 s.2) lpN ((-x0), x1)
set_option maxHeartbeats 4000000 in
theorem b_R_measure {E : pE} {r : Option Value} {hr : pH} {x0 : Int32} {x1 : Int32} {h : pH}  {b : Int32} (e : f_R_measure x0 x1 = some b) (k : (fun v : Int32 => r = some (.int v) ∧ hr = h) b) : Go E M_R_measure 0 [some (.int x0), some (.int x1), none, none, none] [] h r hr := by
  unfold f_R_measure at e
  refine sl_ok ok_R_measure [.iload_n 0] (pc1 := 1) (ls1 := [some (.int x0), some (.int x1), none, none, none]) (st1 := [.int x0]) (h1 := h) (P := True) (by decide +kernel) rfl trivial ?_
  refine q_if_ge (off := 8) (tgt := 9) (by decide +kernel) (by decide) (fun c_1 => ?_) (fun c_1 => ?_)
  · have e := it_t c_1 e
    refine sl_ok ok_R_measure [.iload_n 0, .istore_n 2, .iload_n 1, .istore_n 3] (pc1 := 13) (ls1 := [some (.int x0), some (.int x1), some (.int x0), some (.int x1), none]) (st1 := []) (h1 := h) (P := True) (by decide +kernel) rfl trivial ?_
    refine Go.sb [none, none, some (.int x0), some (.int x1), none] (And.intro rfl (And.intro rfl trivial)) ?_
    exact lp_in e (fun s => Go E M_R_measure 13 [none, none, some (.int s.1), some (.int s.2), none] [] h r hr) (fun v : Int32 => r = some (.int v) ∧ hr = h) (fun _ _ e k => b_R_measure_L1  e k) k
  · have e := it_f c_1 e
    refine sl_ok ok_R_measure [.iload_n 0, .ineg] (pc1 := 6) (ls1 := [some (.int x0), some (.int x1), none, none, none]) (st1 := [.int (-x0)]) (h1 := h) (P := True) (by decide +kernel) rfl trivial ?_
    refine q_goto (off := 4) (tgt := 10) (by decide) (by decide +kernel) ?_
    refine sl_ok ok_R_measure [.istore_n 2, .iload_n 1, .istore_n 3] (pc1 := 13) (ls1 := [some (.int x0), some (.int x1), some (.int (-x0)), some (.int x1), none]) (st1 := []) (h1 := h) (P := True) (by decide +kernel) rfl trivial ?_
    refine Go.sb [none, none, some (.int (-x0)), some (.int x1), none] (And.intro rfl (And.intro rfl trivial)) ?_
    exact lp_in e (fun s => Go E M_R_measure 13 [none, none, some (.int s.1), some (.int s.2), none] [] h r hr) (fun v : Int32 => r = some (.int v) ∧ hr = h) (fun _ _ e k => b_R_measure_L1  e k) k
theorem s_R_measure {E : pE} {x0 : Int32} {x1 : Int32} {h : pH}  {v : Int32} (e : f_R_measure x0 x1 = some v) : Ct E M_R_measure [.int x0, .int x1] h (some (.int v)) h :=
  Ct_of ok_R_measure [some (.int x0), some (.int x1), none, none, none] (Nat.le_of_ble_eq_true rfl) rfl (b_R_measure  e ⟨rfl, rfl⟩)
def f_R_laysCrossings_J5 (x1 : Int32) (x2 : Int32) (x3 : Int32) (x4 : Int32) (x5 : Int32) (x6 : Int32) (x7 : Int32) (h : pH) : Option ((Int32 × Int32 × pH) ⊕ ((Int32 × Int32 × pH) ⊕ (Int32 × pH))) :=
  if x6 = 0 then none else
  if x7 < 0 ∨ 66 ≤ x7.toNatClampNeg then none else
  if x6 = 0 then none else
  some (.inl ((x1 + 1), (x3 + 1), (sI (sI (sI (sI h 98 x7.toNatClampNeg (x5 / x6)) 99 x7.toNatClampNeg (x4 / x6)) 100 x7.toNatClampNeg x2) 101 x7.toNatClampNeg x3)))
set_option maxHeartbeats 4000000 in
theorem b_R_laysCrossings_J5 {E : pE} {r : Option Value} {hr : pH} {x1 : Int32} {x2 : Int32} {x3 : Int32} {x4 : Int32} {x5 : Int32} {x6 : Int32} {x7 : Int32} {h : pH}  {b : ((Int32 × Int32 × pH) ⊕ ((Int32 × Int32 × pH) ⊕ (Int32 × pH)))} (e : f_R_laysCrossings_J5 x1 x2 x3 x4 x5 x6 x7 h = some b) (k : (Sum.elim (fun s : (Int32 × Int32 × pH) => Go E M_R_laysCrossings 16 [some (.ref 79), some (.int s.1), some (.int x2), some (.int s.2.1), none, none, none, none] [] s.2.2 r hr) (Sum.elim (fun s : (Int32 × Int32 × pH) => Go E M_R_laysCrossings 4 [some (.ref 79), some (.int s.1), some (.int s.2.1), none, none, none, none, none] [] s.2.2 r hr) (fun v : (Int32 × pH) => r = some (.int v.1) ∧ hr = v.2))) b) : Go E M_R_laysCrossings 193 [some (.ref 79), some (.int x1), some (.int x2), some (.int x3), some (.int x4), some (.int x5), some (.int x6), some (.int x7)] [] h r hr := by
  unfold f_R_laysCrossings_J5 at e
  obtain ⟨g_1, e⟩ := it_g e
  obtain ⟨g_2, e⟩ := it_g e
  obtain ⟨g_3, e⟩ := it_g e
  refine sl_ok ok_R_laysCrossings [.aload_n 0, .getfield 74, .iload 7, .iload 5, .iload 6, .idiv, .iastore, .aload_n 0, .getfield 77, .iload 7, .iload 4, .iload 6, .idiv, .iastore, .aload_n 0, .getfield 80, .iload 7, .iload_n 2, .iastore, .aload_n 0, .getfield 83, .iload 7, .iload_n 3, .iastore, .iinc 1 1, .iinc 3 1] (pc1 := 239) (ls1 := [some (.ref 79), some (.int (x1 + 1)), some (.int x2), some (.int (x3 + 1)), some (.int x4), some (.int x5), some (.int x6), some (.int x7)]) (st1 := []) (h1 := (sI (sI (sI (sI h 98 x7.toNatClampNeg (x5 / x6)) 99 x7.toNatClampNeg (x4 / x6)) 100 x7.toNatClampNeg x2) 101 x7.toNatClampNeg x3)) (P := (ak 79 = 0 ∧ cx 79 = 12) ∧ (¬ x6 = 0) ∧ (ak 98 = 1 ∧ ¬ (x7 < 0 ∨ cx 98 ≤ x7.toNatClampNeg)) ∧ (ak 79 = 0 ∧ cx 79 = 12) ∧ (¬ x6 = 0) ∧ (ak 99 = 1 ∧ ¬ (x7 < 0 ∨ cx 99 ≤ x7.toNatClampNeg)) ∧ (ak 79 = 0 ∧ cx 79 = 12) ∧ (ak 100 = 1 ∧ ¬ (x7 < 0 ∨ cx 100 ≤ x7.toNatClampNeg)) ∧ (ak 79 = 0 ∧ cx 79 = 12) ∧ (ak 101 = 1 ∧ ¬ (x7 < 0 ∨ cx 101 ≤ x7.toNatClampNeg)) ∧ True) (by decide +kernel) rfl ⟨⟨rfl, rfl⟩, g_1, ⟨rfl, g_2⟩, ⟨rfl, rfl⟩, g_3, ⟨rfl, g_2⟩, ⟨rfl, rfl⟩, ⟨rfl, g_2⟩, ⟨rfl, rfl⟩, ⟨rfl, g_2⟩, trivial⟩ ?_
  refine q_goto (off := -223) (tgt := 16) (by decide) (by decide +kernel) ?_
  cases e
  refine Go.sb [some (.ref 79), some (.int (x1 + 1)), some (.int x2), some (.int (x3 + 1)), none, none, none, none] (And.intro rfl (And.intro rfl (And.intro rfl (And.intro rfl trivial)))) ?_
  exact k
def f_R_laysCrossings_L4 (x1 : Int32) (x2 : Int32) (x3 : Int32) (x4 : Int32) (x5 : Int32) (x6 : Int32) (x7 : Int32) (h : pH) : Option ((Int32 × pH) ⊕ ((Int32 × Int32 × pH) ⊕ ((Int32 × Int32 × pH) ⊕ (Int32 × pH)))) :=
  if x7 ≤ 0 then
    mi (f_R_laysCrossings_J5 x1 x2 x3 x4 x5 x6 x7 h)
  else
    if (x7 - 1) < 0 ∨ 66 ≤ (x7 - 1).toNatClampNeg then none else
    if x6 = 0 then none else
    if x6 = 0 then none else
    if ((hI h 98 (x7 - 1).toNatClampNeg) * (x4 / x6)) ≤ ((x5 / x6) * (hI h 99 (x7 - 1).toNatClampNeg)) then
      mi (f_R_laysCrossings_J5 x1 x2 x3 x4 x5 x6 x7 h)
    else
      if x7 < 0 ∨ 66 ≤ x7.toNatClampNeg then none else
      some (.inl ((x7 + (-1)), (sI (sI (sI (sI h 98 x7.toNatClampNeg (hI h 98 (x7 - 1).toNatClampNeg)) 99 x7.toNatClampNeg (hI (sI h 98 x7.toNatClampNeg (hI h 98 (x7 - 1).toNatClampNeg)) 99 (x7 - 1).toNatClampNeg)) 100 x7.toNatClampNeg (hI (sI (sI h 98 x7.toNatClampNeg (hI h 98 (x7 - 1).toNatClampNeg)) 99 x7.toNatClampNeg (hI (sI h 98 x7.toNatClampNeg (hI h 98 (x7 - 1).toNatClampNeg)) 99 (x7 - 1).toNatClampNeg)) 100 (x7 - 1).toNatClampNeg)) 101 x7.toNatClampNeg (hI (sI (sI (sI h 98 x7.toNatClampNeg (hI h 98 (x7 - 1).toNatClampNeg)) 99 x7.toNatClampNeg (hI (sI h 98 x7.toNatClampNeg (hI h 98 (x7 - 1).toNatClampNeg)) 99 (x7 - 1).toNatClampNeg)) 100 x7.toNatClampNeg (hI (sI (sI h 98 x7.toNatClampNeg (hI h 98 (x7 - 1).toNatClampNeg)) 99 x7.toNatClampNeg (hI (sI h 98 x7.toNatClampNeg (hI h 98 (x7 - 1).toNatClampNeg)) 99 (x7 - 1).toNatClampNeg)) 100 (x7 - 1).toNatClampNeg)) 101 (x7 - 1).toNatClampNeg))))
set_option maxHeartbeats 4000000 in
theorem b_R_laysCrossings_L4 {E : pE} {r : Option Value} {hr : pH} {x1 : Int32} {x2 : Int32} {x3 : Int32} {x4 : Int32} {x5 : Int32} {x6 : Int32} {x7 : Int32} {h : pH}  {b : ((Int32 × pH) ⊕ ((Int32 × Int32 × pH) ⊕ ((Int32 × Int32 × pH) ⊕ (Int32 × pH))))} (e : f_R_laysCrossings_L4 x1 x2 x3 x4 x5 x6 x7 h = some b) (k : (Sum.elim (fun s : (Int32 × pH) => Go E M_R_laysCrossings 85 [some (.ref 79), some (.int x1), some (.int x2), some (.int x3), some (.int x4), some (.int x5), some (.int x6), some (.int s.1)] [] s.2 r hr) (Sum.elim (fun s : (Int32 × Int32 × pH) => Go E M_R_laysCrossings 16 [some (.ref 79), some (.int s.1), some (.int x2), some (.int s.2.1), none, none, none, none] [] s.2.2 r hr) (Sum.elim (fun s : (Int32 × Int32 × pH) => Go E M_R_laysCrossings 4 [some (.ref 79), some (.int s.1), some (.int s.2.1), none, none, none, none, none] [] s.2.2 r hr) (fun v : (Int32 × pH) => r = some (.int v.1) ∧ hr = v.2)))) b) : Go E M_R_laysCrossings 85 [some (.ref 79), some (.int x1), some (.int x2), some (.int x3), some (.int x4), some (.int x5), some (.int x6), some (.int x7)] [] h r hr := by
  unfold f_R_laysCrossings_L4 at e
  refine sl_ok ok_R_laysCrossings [.iload 7] (pc1 := 87) (ls1 := [some (.ref 79), some (.int x1), some (.int x2), some (.int x3), some (.int x4), some (.int x5), some (.int x6), some (.int x7)]) (st1 := [.int x7]) (h1 := h) (P := True) (by decide +kernel) rfl trivial ?_
  refine q_if_le (off := 106) (tgt := 193) (by decide +kernel) (by decide) (fun c_1 => ?_) (fun c_1 => ?_)
  · have e := it_t c_1 e
    obtain ⟨_, e9, rfl⟩ := mi_s e
    have e := e9
    exact b_R_laysCrossings_J5  e k
  · have e := it_f c_1 e
    obtain ⟨g_2, e⟩ := it_g e
    obtain ⟨g_3, e⟩ := it_g e
    obtain ⟨g_4, e⟩ := it_g e
    refine sl_ok ok_R_laysCrossings [.aload_n 0, .getfield 74, .iload 7, .iconst 1, .isub, .iaload, .iload 4, .iload 6, .idiv, .imul, .iload 5, .iload 6, .idiv, .aload_n 0, .getfield 77, .iload 7, .iconst 1, .isub, .iaload, .imul] (pc1 := 120) (ls1 := [some (.ref 79), some (.int x1), some (.int x2), some (.int x3), some (.int x4), some (.int x5), some (.int x6), some (.int x7)]) (st1 := [.int ((x5 / x6) * (hI h 99 (x7 - 1).toNatClampNeg)), .int ((hI h 98 (x7 - 1).toNatClampNeg) * (x4 / x6))]) (h1 := h) (P := (ak 79 = 0 ∧ cx 79 = 12) ∧ (ak 98 = 1 ∧ ¬ ((x7 - 1) < 0 ∨ cx 98 ≤ (x7 - 1).toNatClampNeg)) ∧ (¬ x6 = 0) ∧ (¬ x6 = 0) ∧ (ak 79 = 0 ∧ cx 79 = 12) ∧ (ak 99 = 1 ∧ ¬ ((x7 - 1) < 0 ∨ cx 99 ≤ (x7 - 1).toNatClampNeg)) ∧ True) (by decide +kernel) rfl ⟨⟨rfl, rfl⟩, ⟨rfl, g_2⟩, g_3, g_4, ⟨rfl, rfl⟩, ⟨rfl, g_2⟩, trivial⟩ ?_
    refine q_icmp_le (off := 73) (tgt := 193) (by decide +kernel) (by decide) (fun c_5 => ?_) (fun c_5 => ?_)
    · have e := it_t c_5 e
      obtain ⟨_, e9, rfl⟩ := mi_s e
      have e := e9
      exact b_R_laysCrossings_J5  e k
    · have e := it_f c_5 e
      obtain ⟨g_6, e⟩ := it_g e
      refine sl_ok ok_R_laysCrossings [.aload_n 0, .getfield 74, .iload 7, .aload_n 0, .getfield 74, .iload 7, .iconst 1, .isub, .iaload, .iastore, .aload_n 0, .getfield 77, .iload 7, .aload_n 0, .getfield 77, .iload 7, .iconst 1, .isub, .iaload, .iastore, .aload_n 0, .getfield 80, .iload 7, .aload_n 0, .getfield 80, .iload 7, .iconst 1, .isub, .iaload, .iastore, .aload_n 0, .getfield 83, .iload 7, .aload_n 0, .getfield 83, .iload 7, .iconst 1, .isub, .iaload, .iastore, .iinc 7 (-1)] (pc1 := 190) (ls1 := [some (.ref 79), some (.int x1), some (.int x2), some (.int x3), some (.int x4), some (.int x5), some (.int x6), some (.int (x7 + (-1)))]) (st1 := []) (h1 := (sI (sI (sI (sI h 98 x7.toNatClampNeg (hI h 98 (x7 - 1).toNatClampNeg)) 99 x7.toNatClampNeg (hI (sI h 98 x7.toNatClampNeg (hI h 98 (x7 - 1).toNatClampNeg)) 99 (x7 - 1).toNatClampNeg)) 100 x7.toNatClampNeg (hI (sI (sI h 98 x7.toNatClampNeg (hI h 98 (x7 - 1).toNatClampNeg)) 99 x7.toNatClampNeg (hI (sI h 98 x7.toNatClampNeg (hI h 98 (x7 - 1).toNatClampNeg)) 99 (x7 - 1).toNatClampNeg)) 100 (x7 - 1).toNatClampNeg)) 101 x7.toNatClampNeg (hI (sI (sI (sI h 98 x7.toNatClampNeg (hI h 98 (x7 - 1).toNatClampNeg)) 99 x7.toNatClampNeg (hI (sI h 98 x7.toNatClampNeg (hI h 98 (x7 - 1).toNatClampNeg)) 99 (x7 - 1).toNatClampNeg)) 100 x7.toNatClampNeg (hI (sI (sI h 98 x7.toNatClampNeg (hI h 98 (x7 - 1).toNatClampNeg)) 99 x7.toNatClampNeg (hI (sI h 98 x7.toNatClampNeg (hI h 98 (x7 - 1).toNatClampNeg)) 99 (x7 - 1).toNatClampNeg)) 100 (x7 - 1).toNatClampNeg)) 101 (x7 - 1).toNatClampNeg))) (P := (ak 79 = 0 ∧ cx 79 = 12) ∧ (ak 79 = 0 ∧ cx 79 = 12) ∧ (ak 98 = 1 ∧ ¬ ((x7 - 1) < 0 ∨ cx 98 ≤ (x7 - 1).toNatClampNeg)) ∧ (ak 98 = 1 ∧ ¬ (x7 < 0 ∨ cx 98 ≤ x7.toNatClampNeg)) ∧ (ak 79 = 0 ∧ cx 79 = 12) ∧ (ak 79 = 0 ∧ cx 79 = 12) ∧ (ak 99 = 1 ∧ ¬ ((x7 - 1) < 0 ∨ cx 99 ≤ (x7 - 1).toNatClampNeg)) ∧ (ak 99 = 1 ∧ ¬ (x7 < 0 ∨ cx 99 ≤ x7.toNatClampNeg)) ∧ (ak 79 = 0 ∧ cx 79 = 12) ∧ (ak 79 = 0 ∧ cx 79 = 12) ∧ (ak 100 = 1 ∧ ¬ ((x7 - 1) < 0 ∨ cx 100 ≤ (x7 - 1).toNatClampNeg)) ∧ (ak 100 = 1 ∧ ¬ (x7 < 0 ∨ cx 100 ≤ x7.toNatClampNeg)) ∧ (ak 79 = 0 ∧ cx 79 = 12) ∧ (ak 79 = 0 ∧ cx 79 = 12) ∧ (ak 101 = 1 ∧ ¬ ((x7 - 1) < 0 ∨ cx 101 ≤ (x7 - 1).toNatClampNeg)) ∧ (ak 101 = 1 ∧ ¬ (x7 < 0 ∨ cx 101 ≤ x7.toNatClampNeg)) ∧ True) (by decide +kernel) rfl ⟨⟨rfl, rfl⟩, ⟨rfl, rfl⟩, ⟨rfl, g_2⟩, ⟨rfl, g_6⟩, ⟨rfl, rfl⟩, ⟨rfl, rfl⟩, ⟨rfl, g_2⟩, ⟨rfl, g_6⟩, ⟨rfl, rfl⟩, ⟨rfl, rfl⟩, ⟨rfl, g_2⟩, ⟨rfl, g_6⟩, ⟨rfl, rfl⟩, ⟨rfl, rfl⟩, ⟨rfl, g_2⟩, ⟨rfl, g_6⟩, trivial⟩ ?_
      refine q_goto (off := -105) (tgt := 85) (by decide) (by decide +kernel) ?_
      cases e
      exact k
def f_R_laysCrossings_J3 (x1 : Int32) (x2 : Int32) (x3 : Int32) (x4 : Int32) (x5 : Int32) (h : pH) : Option ((Int32 × Int32 × pH) ⊕ ((Int32 × Int32 × pH) ⊕ (Int32 × pH))) :=
  (f_R_measure x5 x4).bind fun v_1 =>
  lp (fun s => f_R_laysCrossings_L4 x1 x2 x3 x4 x5 v_1 s.1 s.2) lpN (x1, h)
set_option maxHeartbeats 4000000 in
theorem b_R_laysCrossings_J3 {E : pE} {r : Option Value} {hr : pH} {x1 : Int32} {x2 : Int32} {x3 : Int32} {x4 : Int32} {x5 : Int32} {h : pH}  {b : ((Int32 × Int32 × pH) ⊕ ((Int32 × Int32 × pH) ⊕ (Int32 × pH)))} (e : f_R_laysCrossings_J3 x1 x2 x3 x4 x5 h = some b) (k : (Sum.elim (fun s : (Int32 × Int32 × pH) => Go E M_R_laysCrossings 16 [some (.ref 79), some (.int s.1), some (.int x2), some (.int s.2.1), none, none, none, none] [] s.2.2 r hr) (Sum.elim (fun s : (Int32 × Int32 × pH) => Go E M_R_laysCrossings 4 [some (.ref 79), some (.int s.1), some (.int s.2.1), none, none, none, none, none] [] s.2.2 r hr) (fun v : (Int32 × pH) => r = some (.int v.1) ∧ hr = v.2))) b) : Go E M_R_laysCrossings 73 [some (.ref 79), some (.int x1), some (.int x2), some (.int x3), some (.int x4), some (.int x5), none, none] [] h r hr := by
  unfold f_R_laysCrossings_J3 at e
  refine sl_ok ok_R_laysCrossings [.iload 5, .iload 4] (pc1 := 77) (ls1 := [some (.ref 79), some (.int x1), some (.int x2), some (.int x3), some (.int x4), some (.int x5), none, none]) (st1 := [.int x4, .int x5]) (h1 := h) (P := True) (by decide +kernel) rfl trivial ?_
  obtain ⟨v_1, e_2, e⟩ := bi_s e
  refine q_callS ok_R_measure (as := [.int x5, .int x4]) (st := []) ⟨wd_455, wd_456, wd_7, ds_R_measure, Nat.le_of_ble_eq_true rfl, Nat.le_of_ble_eq_true rfl⟩ (s_R_measure  e_2) rfl (fun v hv => by cases hv; rfl) (Nat.le_of_ble_eq_true rfl) (by decide +kernel) rfl ?_
  refine sl_ok ok_R_laysCrossings [.istore 6, .iload_n 1, .istore 7] (pc1 := 85) (ls1 := [some (.ref 79), some (.int x1), some (.int x2), some (.int x3), some (.int x4), some (.int x5), some (.int v_1), some (.int x1)]) (st1 := []) (h1 := h) (P := True) (by decide +kernel) rfl trivial ?_
  exact lp_in e (fun s => Go E M_R_laysCrossings 85 [some (.ref 79), some (.int x1), some (.int x2), some (.int x3), some (.int x4), some (.int x5), some (.int v_1), some (.int s.1)] [] s.2 r hr) (Sum.elim (fun s : (Int32 × Int32 × pH) => Go E M_R_laysCrossings 16 [some (.ref 79), some (.int s.1), some (.int x2), some (.int s.2.1), none, none, none, none] [] s.2.2 r hr) (Sum.elim (fun s : (Int32 × Int32 × pH) => Go E M_R_laysCrossings 4 [some (.ref 79), some (.int s.1), some (.int s.2.1), none, none, none, none, none] [] s.2.2 r hr) (fun v : (Int32 × pH) => r = some (.int v.1) ∧ hr = v.2))) (fun _ _ e k => b_R_laysCrossings_L4  e k) k
def f_R_laysCrossings_L2 (x2 : Int32) (x1 : Int32) (x3 : Int32) (h : pH) : Option ((Int32 × Int32 × pH) ⊕ ((Int32 × Int32 × pH) ⊕ (Int32 × pH))) :=
  if (f_R_all h) ≤ x3 then
    some (.inr (.inl (x1, (x2 + 1), h)))
  else
    (f_R_x x2 h).bind fun v_2 =>
    (f_R_x x3 h).bind fun v_4 =>
    (f_R_y x2 h).bind fun v_6 =>
    (f_R_y x3 h).bind fun v_8 =>
    if (v_2 - v_4) = 0 then
      some (.inl (x1, (x3 + 1), h))
    else
      if 0 ≤ (v_2 - v_4) then
        f_R_laysCrossings_J3 x1 x2 x3 (v_2 - v_4) (v_6 - v_8) h
      else
        f_R_laysCrossings_J3 x1 x2 x3 (-(v_2 - v_4)) (-(v_6 - v_8)) h
set_option maxHeartbeats 4000000 in
theorem b_R_laysCrossings_L2 {E : pE} {r : Option Value} {hr : pH} {x2 : Int32} {x1 : Int32} {x3 : Int32} {h : pH}  {b : ((Int32 × Int32 × pH) ⊕ ((Int32 × Int32 × pH) ⊕ (Int32 × pH)))} (e : f_R_laysCrossings_L2 x2 x1 x3 h = some b) (k : (Sum.elim (fun s : (Int32 × Int32 × pH) => Go E M_R_laysCrossings 16 [some (.ref 79), some (.int s.1), some (.int x2), some (.int s.2.1), none, none, none, none] [] s.2.2 r hr) (Sum.elim (fun s : (Int32 × Int32 × pH) => Go E M_R_laysCrossings 4 [some (.ref 79), some (.int s.1), some (.int s.2.1), none, none, none, none, none] [] s.2.2 r hr) (fun v : (Int32 × pH) => r = some (.int v.1) ∧ hr = v.2))) b) : Go E M_R_laysCrossings 16 [some (.ref 79), some (.int x1), some (.int x2), some (.int x3), none, none, none, none] [] h r hr := by
  unfold f_R_laysCrossings_L2 at e
  refine sl_ok ok_R_laysCrossings [.iload_n 3, .aload_n 0] (pc1 := 18) (ls1 := [some (.ref 79), some (.int x1), some (.int x2), some (.int x3), none, none, none, none]) (st1 := [.ref 79, .int x3]) (h1 := h) (P := True) (by decide +kernel) rfl trivial ?_
  refine q_callV ok_R_all (as := []) (st := [.int x3]) ⟨wd_151, wd_152, wd_153, wd_7, ds_R_all, Nat.le_of_ble_eq_true rfl, Nat.le_of_ble_eq_true rfl⟩ (s_R_all ) rfl ⟨rfl, rfl⟩ (ci := 12) rfl (fun v hv => by cases hv; rfl) (Nat.le_of_ble_eq_true rfl) (by decide +kernel) rfl ?_
  refine q_icmp_ge (off := 221) (tgt := 242) (by decide +kernel) (by decide) (fun c_1 => ?_) (fun c_1 => ?_)
  · have e := it_t c_1 e
    refine sl_ok ok_R_laysCrossings [.iinc 2 1] (pc1 := 245) (ls1 := [some (.ref 79), some (.int x1), some (.int (x2 + 1)), some (.int x3), none, none, none, none]) (st1 := []) (h1 := h) (P := True) (by decide +kernel) rfl trivial ?_
    refine q_goto (off := -241) (tgt := 4) (by decide) (by decide +kernel) ?_
    cases e
    refine Go.sb [some (.ref 79), some (.int x1), some (.int (x2 + 1)), none, none, none, none, none] (And.intro rfl (And.intro rfl (And.intro rfl trivial))) ?_
    exact k
  · have e := it_f c_1 e
    refine sl_ok ok_R_laysCrossings [.aload_n 0, .iload_n 2] (pc1 := 26) (ls1 := [some (.ref 79), some (.int x1), some (.int x2), some (.int x3), none, none, none, none]) (st1 := [.int x2, .ref 79]) (h1 := h) (P := True) (by decide +kernel) rfl trivial ?_
    obtain ⟨v_2, e_3, e⟩ := bi_s e
    refine q_callV ok_R_x (as := [.int x2]) (st := []) ⟨wd_154, wd_155, wd_156, wd_7, ds_R_x, Nat.le_of_ble_eq_true rfl, Nat.le_of_ble_eq_true rfl⟩ (s_R_x  e_3) rfl ⟨rfl, rfl⟩ (ci := 12) rfl (fun v hv => by cases hv; rfl) (Nat.le_of_ble_eq_true rfl) (by decide +kernel) rfl ?_
    refine sl_ok ok_R_laysCrossings [.aload_n 0, .iload_n 3] (pc1 := 31) (ls1 := [some (.ref 79), some (.int x1), some (.int x2), some (.int x3), none, none, none, none]) (st1 := [.int x3, .ref 79, .int v_2]) (h1 := h) (P := True) (by decide +kernel) rfl trivial ?_
    obtain ⟨v_4, e_5, e⟩ := bi_s e
    refine q_callV ok_R_x (as := [.int x3]) (st := [.int v_2]) ⟨wd_154, wd_155, wd_156, wd_7, ds_R_x, Nat.le_of_ble_eq_true rfl, Nat.le_of_ble_eq_true rfl⟩ (s_R_x  e_5) rfl ⟨rfl, rfl⟩ (ci := 12) rfl (fun v hv => by cases hv; rfl) (Nat.le_of_ble_eq_true rfl) (by decide +kernel) rfl ?_
    refine sl_ok ok_R_laysCrossings [.isub, .istore 4, .aload_n 0, .iload_n 2] (pc1 := 39) (ls1 := [some (.ref 79), some (.int x1), some (.int x2), some (.int x3), some (.int (v_2 - v_4)), none, none, none]) (st1 := [.int x2, .ref 79]) (h1 := h) (P := True) (by decide +kernel) rfl trivial ?_
    obtain ⟨v_6, e_7, e⟩ := bi_s e
    refine q_callV ok_R_y (as := [.int x2]) (st := []) ⟨wd_157, wd_158, wd_159, wd_7, ds_R_y, Nat.le_of_ble_eq_true rfl, Nat.le_of_ble_eq_true rfl⟩ (s_R_y  e_7) rfl ⟨rfl, rfl⟩ (ci := 12) rfl (fun v hv => by cases hv; rfl) (Nat.le_of_ble_eq_true rfl) (by decide +kernel) rfl ?_
    refine sl_ok ok_R_laysCrossings [.aload_n 0, .iload_n 3] (pc1 := 44) (ls1 := [some (.ref 79), some (.int x1), some (.int x2), some (.int x3), some (.int (v_2 - v_4)), none, none, none]) (st1 := [.int x3, .ref 79, .int v_6]) (h1 := h) (P := True) (by decide +kernel) rfl trivial ?_
    obtain ⟨v_8, e_9, e⟩ := bi_s e
    refine q_callV ok_R_y (as := [.int x3]) (st := [.int v_6]) ⟨wd_157, wd_158, wd_159, wd_7, ds_R_y, Nat.le_of_ble_eq_true rfl, Nat.le_of_ble_eq_true rfl⟩ (s_R_y  e_9) rfl ⟨rfl, rfl⟩ (ci := 12) rfl (fun v hv => by cases hv; rfl) (Nat.le_of_ble_eq_true rfl) (by decide +kernel) rfl ?_
    refine sl_ok ok_R_laysCrossings [.isub, .istore 5, .iload 4] (pc1 := 52) (ls1 := [some (.ref 79), some (.int x1), some (.int x2), some (.int x3), some (.int (v_2 - v_4)), some (.int (v_6 - v_8)), none, none]) (st1 := [.int (v_2 - v_4)]) (h1 := h) (P := True) (by decide +kernel) rfl trivial ?_
    refine q_if_ne (off := 6) (tgt := 58) (by decide +kernel) (by decide) (fun c_10 => ?_) (fun c_10 => ?_)
    · have e := it_f c_10 e
      refine sl_ok ok_R_laysCrossings [.iload 4] (pc1 := 60) (ls1 := [some (.ref 79), some (.int x1), some (.int x2), some (.int x3), some (.int (v_2 - v_4)), some (.int (v_6 - v_8)), none, none]) (st1 := [.int (v_2 - v_4)]) (h1 := h) (P := True) (by decide +kernel) rfl trivial ?_
      refine q_if_ge (off := 13) (tgt := 73) (by decide +kernel) (by decide) (fun c_11 => ?_) (fun c_11 => ?_)
      · have e := it_t c_11 e
        exact b_R_laysCrossings_J3  e k
      · have e := it_f c_11 e
        refine sl_ok ok_R_laysCrossings [.iload 4, .ineg, .istore 4, .iload 5, .ineg, .istore 5] (pc1 := 73) (ls1 := [some (.ref 79), some (.int x1), some (.int x2), some (.int x3), some (.int (-(v_2 - v_4))), some (.int (-(v_6 - v_8))), none, none]) (st1 := []) (h1 := h) (P := True) (by decide +kernel) rfl trivial ?_
        exact b_R_laysCrossings_J3  e k
    · have e := it_t c_10 e
      refine q_goto (off := 181) (tgt := 236) (by decide) (by decide +kernel) ?_
      refine sl_ok ok_R_laysCrossings [.iinc 3 1] (pc1 := 239) (ls1 := [some (.ref 79), some (.int x1), some (.int x2), some (.int (x3 + 1)), some (.int (v_2 - v_4)), some (.int (v_6 - v_8)), none, none]) (st1 := []) (h1 := h) (P := True) (by decide +kernel) rfl trivial ?_
      refine q_goto (off := -223) (tgt := 16) (by decide) (by decide +kernel) ?_
      cases e
      refine Go.sb [some (.ref 79), some (.int x1), some (.int x2), some (.int (x3 + 1)), none, none, none, none] (And.intro rfl (And.intro rfl (And.intro rfl (And.intro rfl trivial)))) ?_
      exact k
def f_R_laysCrossings_L1 (x1 : Int32) (x2 : Int32) (h : pH) : Option ((Int32 × Int32 × pH) ⊕ (Int32 × pH)) :=
  if (f_R_all h) ≤ x2 then
    some (.inr (x1, h))
  else
    lp (fun s => f_R_laysCrossings_L2 x2 s.1 s.2.1 s.2.2) lpN (x1, (x2 + 1), h)
set_option maxHeartbeats 4000000 in
theorem b_R_laysCrossings_L1 {E : pE} {r : Option Value} {hr : pH} {x1 : Int32} {x2 : Int32} {h : pH}  {b : ((Int32 × Int32 × pH) ⊕ (Int32 × pH))} (e : f_R_laysCrossings_L1 x1 x2 h = some b) (k : (Sum.elim (fun s : (Int32 × Int32 × pH) => Go E M_R_laysCrossings 4 [some (.ref 79), some (.int s.1), some (.int s.2.1), none, none, none, none, none] [] s.2.2 r hr) (fun v : (Int32 × pH) => r = some (.int v.1) ∧ hr = v.2)) b) : Go E M_R_laysCrossings 4 [some (.ref 79), some (.int x1), some (.int x2), none, none, none, none, none] [] h r hr := by
  unfold f_R_laysCrossings_L1 at e
  refine sl_ok ok_R_laysCrossings [.iload_n 2, .aload_n 0] (pc1 := 6) (ls1 := [some (.ref 79), some (.int x1), some (.int x2), none, none, none, none, none]) (st1 := [.ref 79, .int x2]) (h1 := h) (P := True) (by decide +kernel) rfl trivial ?_
  refine q_callV ok_R_all (as := []) (st := [.int x2]) ⟨wd_151, wd_152, wd_153, wd_7, ds_R_all, Nat.le_of_ble_eq_true rfl, Nat.le_of_ble_eq_true rfl⟩ (s_R_all ) rfl ⟨rfl, rfl⟩ (ci := 12) rfl (fun v hv => by cases hv; rfl) (Nat.le_of_ble_eq_true rfl) (by decide +kernel) rfl ?_
  refine q_icmp_ge (off := 239) (tgt := 248) (by decide +kernel) (by decide) (fun c_1 => ?_) (fun c_1 => ?_)
  · have e := it_t c_1 e
    refine sl_ok ok_R_laysCrossings [.iload_n 1] (pc1 := 249) (ls1 := [some (.ref 79), some (.int x1), some (.int x2), none, none, none, none, none]) (st1 := [.int x1]) (h1 := h) (P := True) (by decide +kernel) rfl trivial ?_
    cases e
    exact q_iret rfl k.1 k.2 (by decide +kernel)
  · have e := it_f c_1 e
    refine sl_ok ok_R_laysCrossings [.iload_n 2, .iconst 1, .iadd, .istore_n 3] (pc1 := 16) (ls1 := [some (.ref 79), some (.int x1), some (.int x2), some (.int (x2 + 1)), none, none, none, none]) (st1 := []) (h1 := h) (P := True) (by decide +kernel) rfl trivial ?_
    exact lp_in e (fun s => Go E M_R_laysCrossings 16 [some (.ref 79), some (.int s.1), some (.int x2), some (.int s.2.1), none, none, none, none] [] s.2.2 r hr) (Sum.elim (fun s : (Int32 × Int32 × pH) => Go E M_R_laysCrossings 4 [some (.ref 79), some (.int s.1), some (.int s.2.1), none, none, none, none, none] [] s.2.2 r hr) (fun v : (Int32 × pH) => r = some (.int v.1) ∧ hr = v.2)) (fun _ _ e k => b_R_laysCrossings_L2  e k) k
def f_R_laysCrossings (h : pH) : Option (Int32 × pH) :=
  lp (fun s => f_R_laysCrossings_L1 s.1 s.2.1 s.2.2) lpN (0, 0, h)
set_option maxHeartbeats 4000000 in
theorem b_R_laysCrossings {E : pE} {r : Option Value} {hr : pH} {h : pH}  {b : (Int32 × pH)} (e : f_R_laysCrossings h = some b) (k : (fun v : (Int32 × pH) => r = some (.int v.1) ∧ hr = v.2) b) : Go E M_R_laysCrossings 0 [some (.ref 79), none, none, none, none, none, none, none] [] h r hr := by
  unfold f_R_laysCrossings at e
  refine sl_ok ok_R_laysCrossings [.iconst 0, .istore_n 1, .iconst 0, .istore_n 2] (pc1 := 4) (ls1 := [some (.ref 79), some (.int 0), some (.int 0), none, none, none, none, none]) (st1 := []) (h1 := h) (P := True) (by decide +kernel) rfl trivial ?_
  exact lp_in e (fun s => Go E M_R_laysCrossings 4 [some (.ref 79), some (.int s.1), some (.int s.2.1), none, none, none, none, none] [] s.2.2 r hr) (fun v : (Int32 × pH) => r = some (.int v.1) ∧ hr = v.2) (fun _ _ e k => b_R_laysCrossings_L1  e k) k
theorem s_R_laysCrossings {E : pE} {h : pH}  {v : (Int32 × pH)} (e : f_R_laysCrossings h = some v) : Ct E M_R_laysCrossings [.ref 79] h (some (.int v.1)) v.2 :=
  Ct_of ok_R_laysCrossings [some (.ref 79), none, none, none, none, none, none, none] (Nat.le_of_ble_eq_true rfl) rfl (b_R_laysCrossings  e ⟨rfl, rfl⟩)
def f_R_crossing (x1 : Int32) (x2 : Int32) (h : pH) : Option (Int32 × pH) :=
  (f_R_laysCrossings h).bind fun v_1 =>
  if x1 = (-1) then
    some (v_1.1, v_1.2)
  else
    if (f_R_in x1 (0 : Int32) (v_1.1 - 1)) = 0 then
      some ((-100000), (v_1.2))
    else
      if (f_R_in x2 (0 : Int32) (3 : Int32)) = 0 then
        some ((-100000), (v_1.2))
      else
        if x2 = 0 then
          if x1 < 0 ∨ 66 ≤ x1.toNatClampNeg then none else
          some ((hI (v_1.2) 98 x1.toNatClampNeg), (v_1.2))
        else
          if x2 = 1 then
            if x1 < 0 ∨ 66 ≤ x1.toNatClampNeg then none else
            some ((hI (v_1.2) 99 x1.toNatClampNeg), (v_1.2))
          else
            if x2 = 2 then
              if x1 < 0 ∨ 66 ≤ x1.toNatClampNeg then none else
              some ((hI (v_1.2) 100 x1.toNatClampNeg), (v_1.2))
            else
              if x1 < 0 ∨ 66 ≤ x1.toNatClampNeg then none else
              some ((hI (v_1.2) 101 x1.toNatClampNeg), (v_1.2))
set_option maxHeartbeats 4000000 in
theorem b_R_crossing {E : pE} {r : Option Value} {hr : pH} {x1 : Int32} {x2 : Int32} {h : pH}  {b : (Int32 × pH)} (e : f_R_crossing x1 x2 h = some b) (k : (fun v : (Int32 × pH) => r = some (.int v.1) ∧ hr = v.2) b) : Go E M_R_crossing 0 [some (.ref 79), some (.int x1), some (.int x2), none] [] h r hr := by
  unfold f_R_crossing at e
  refine sl_ok ok_R_crossing [.aload_n 0] (pc1 := 1) (ls1 := [some (.ref 79), some (.int x1), some (.int x2), none]) (st1 := [.ref 79]) (h1 := h) (P := True) (by decide +kernel) rfl trivial ?_
  obtain ⟨v_1, e_2, e⟩ := bi_s e
  refine q_callV ok_R_laysCrossings (as := []) (st := []) ⟨wd_457, wd_458, wd_459, wd_7, ds_R_laysCrossings, Nat.le_of_ble_eq_true rfl, Nat.le_of_ble_eq_true rfl⟩ (s_R_laysCrossings  e_2) rfl ⟨rfl, rfl⟩ (ci := 12) rfl (fun v hv => by cases hv; rfl) (Nat.le_of_ble_eq_true rfl) (by decide +kernel) rfl ?_
  refine sl_ok ok_R_crossing [.istore_n 3, .iload_n 1, .iconst (-1)] (pc1 := 7) (ls1 := [some (.ref 79), some (.int x1), some (.int x2), some (.int v_1.1)]) (st1 := [.int (-1), .int x1]) (h1 := v_1.2) (P := True) (by decide +kernel) rfl trivial ?_
  refine q_icmp_ne (off := 5) (tgt := 12) (by decide +kernel) (by decide) (fun c_3 => ?_) (fun c_3 => ?_)
  · have e := it_f c_3 e
    refine sl_ok ok_R_crossing [.iload_n 1, .iconst 0, .iload_n 3, .iconst 1, .isub] (pc1 := 17) (ls1 := [some (.ref 79), some (.int x1), some (.int x2), some (.int v_1.1)]) (st1 := [.int (v_1.1 - 1), .int 0, .int x1]) (h1 := v_1.2) (P := True) (by decide +kernel) rfl trivial ?_
    refine q_callS ok_R_in (as := [.int x1, .int 0, .int (v_1.1 - 1)]) (st := []) ⟨wd_127, wd_128, wd_7, ds_R_in, Nat.le_of_ble_eq_true rfl, Nat.le_of_ble_eq_true rfl⟩ (s_R_in ) rfl (fun v hv => by cases hv; rfl) (Nat.le_of_ble_eq_true rfl) (by decide +kernel) rfl ?_
    refine q_if_eq (off := 12) (tgt := 32) (by decide +kernel) (by decide) (fun c_4 => ?_) (fun c_4 => ?_)
    · have e := it_t c_4 e
      refine sl_ok ok_R_crossing [.ldc 220] (pc1 := 34) (ls1 := [some (.ref 79), some (.int x1), some (.int x2), some (.int v_1.1)]) (st1 := [.int (-100000)]) (h1 := (v_1.2)) (P := True) (by decide +kernel) rfl trivial ?_
      cases e
      exact q_iret rfl k.1 k.2 (by decide +kernel)
    · have e := it_f c_4 e
      refine sl_ok ok_R_crossing [.iload_n 2, .iconst 0, .iconst 3] (pc1 := 26) (ls1 := [some (.ref 79), some (.int x1), some (.int x2), some (.int v_1.1)]) (st1 := [.int 3, .int 0, .int x2]) (h1 := (v_1.2)) (P := True) (by decide +kernel) rfl trivial ?_
      refine q_callS ok_R_in (as := [.int x2, .int 0, .int 3]) (st := []) ⟨wd_127, wd_128, wd_7, ds_R_in, Nat.le_of_ble_eq_true rfl, Nat.le_of_ble_eq_true rfl⟩ (s_R_in ) rfl (fun v hv => by cases hv; rfl) (Nat.le_of_ble_eq_true rfl) (by decide +kernel) rfl ?_
      refine q_if_ne (off := 6) (tgt := 35) (by decide +kernel) (by decide) (fun c_5 => ?_) (fun c_5 => ?_)
      · have e := it_f c_5 e
        refine sl_ok ok_R_crossing [.iload_n 2] (pc1 := 36) (ls1 := [some (.ref 79), some (.int x1), some (.int x2), some (.int v_1.1)]) (st1 := [.int x2]) (h1 := (v_1.2)) (P := True) (by decide +kernel) rfl trivial ?_
        refine q_if_ne (off := 12) (tgt := 48) (by decide +kernel) (by decide) (fun c_6 => ?_) (fun c_6 => ?_)
        · have e := it_f c_6 e
          refine sl_ok ok_R_crossing [.iload_n 2, .iconst 1] (pc1 := 50) (ls1 := [some (.ref 79), some (.int x1), some (.int x2), some (.int v_1.1)]) (st1 := [.int 1, .int x2]) (h1 := (v_1.2)) (P := True) (by decide +kernel) rfl trivial ?_
          refine q_icmp_ne (off := 12) (tgt := 62) (by decide +kernel) (by decide) (fun c_7 => ?_) (fun c_7 => ?_)
          · have e := it_f c_7 e
            refine sl_ok ok_R_crossing [.iload_n 2, .iconst 2] (pc1 := 64) (ls1 := [some (.ref 79), some (.int x1), some (.int x2), some (.int v_1.1)]) (st1 := [.int 2, .int x2]) (h1 := (v_1.2)) (P := True) (by decide +kernel) rfl trivial ?_
            refine q_icmp_ne (off := 12) (tgt := 76) (by decide +kernel) (by decide) (fun c_8 => ?_) (fun c_8 => ?_)
            · have e := it_f c_8 e
              obtain ⟨g_9, e⟩ := it_g e
              refine sl_ok ok_R_crossing [.aload_n 0, .getfield 83, .iload_n 1, .iaload] (pc1 := 82) (ls1 := [some (.ref 79), some (.int x1), some (.int x2), some (.int v_1.1)]) (st1 := [.int (hI (v_1.2) 101 x1.toNatClampNeg)]) (h1 := (v_1.2)) (P := (ak 79 = 0 ∧ cx 79 = 12) ∧ (ak 101 = 1 ∧ ¬ (x1 < 0 ∨ cx 101 ≤ x1.toNatClampNeg)) ∧ True) (by decide +kernel) rfl ⟨⟨rfl, rfl⟩, ⟨rfl, g_9⟩, trivial⟩ ?_
              cases e
              exact q_iret rfl k.1 k.2 (by decide +kernel)
            · have e := it_t c_8 e
              obtain ⟨g_10, e⟩ := it_g e
              refine sl_ok ok_R_crossing [.aload_n 0, .getfield 80, .iload_n 1, .iaload] (pc1 := 73) (ls1 := [some (.ref 79), some (.int x1), some (.int x2), some (.int v_1.1)]) (st1 := [.int (hI (v_1.2) 100 x1.toNatClampNeg)]) (h1 := (v_1.2)) (P := (ak 79 = 0 ∧ cx 79 = 12) ∧ (ak 100 = 1 ∧ ¬ (x1 < 0 ∨ cx 100 ≤ x1.toNatClampNeg)) ∧ True) (by decide +kernel) rfl ⟨⟨rfl, rfl⟩, ⟨rfl, g_10⟩, trivial⟩ ?_
              refine q_goto (off := 9) (tgt := 82) (by decide) (by decide +kernel) ?_
              cases e
              exact q_iret rfl k.1 k.2 (by decide +kernel)
          · have e := it_t c_7 e
            obtain ⟨g_11, e⟩ := it_g e
            refine sl_ok ok_R_crossing [.aload_n 0, .getfield 77, .iload_n 1, .iaload] (pc1 := 59) (ls1 := [some (.ref 79), some (.int x1), some (.int x2), some (.int v_1.1)]) (st1 := [.int (hI (v_1.2) 99 x1.toNatClampNeg)]) (h1 := (v_1.2)) (P := (ak 79 = 0 ∧ cx 79 = 12) ∧ (ak 99 = 1 ∧ ¬ (x1 < 0 ∨ cx 99 ≤ x1.toNatClampNeg)) ∧ True) (by decide +kernel) rfl ⟨⟨rfl, rfl⟩, ⟨rfl, g_11⟩, trivial⟩ ?_
            refine q_goto (off := 23) (tgt := 82) (by decide) (by decide +kernel) ?_
            cases e
            exact q_iret rfl k.1 k.2 (by decide +kernel)
        · have e := it_t c_6 e
          obtain ⟨g_12, e⟩ := it_g e
          refine sl_ok ok_R_crossing [.aload_n 0, .getfield 74, .iload_n 1, .iaload] (pc1 := 45) (ls1 := [some (.ref 79), some (.int x1), some (.int x2), some (.int v_1.1)]) (st1 := [.int (hI (v_1.2) 98 x1.toNatClampNeg)]) (h1 := (v_1.2)) (P := (ak 79 = 0 ∧ cx 79 = 12) ∧ (ak 98 = 1 ∧ ¬ (x1 < 0 ∨ cx 98 ≤ x1.toNatClampNeg)) ∧ True) (by decide +kernel) rfl ⟨⟨rfl, rfl⟩, ⟨rfl, g_12⟩, trivial⟩ ?_
          refine q_goto (off := 37) (tgt := 82) (by decide) (by decide +kernel) ?_
          cases e
          exact q_iret rfl k.1 k.2 (by decide +kernel)
      · have e := it_t c_5 e
        refine sl_ok ok_R_crossing [.ldc 220] (pc1 := 34) (ls1 := [some (.ref 79), some (.int x1), some (.int x2), some (.int v_1.1)]) (st1 := [.int (-100000)]) (h1 := (v_1.2)) (P := True) (by decide +kernel) rfl trivial ?_
        cases e
        exact q_iret rfl k.1 k.2 (by decide +kernel)
  · have e := it_t c_3 e
    refine sl_ok ok_R_crossing [.iload_n 3] (pc1 := 11) (ls1 := [some (.ref 79), some (.int x1), some (.int x2), some (.int v_1.1)]) (st1 := [.int v_1.1]) (h1 := v_1.2) (P := True) (by decide +kernel) rfl trivial ?_
    cases e
    exact q_iret rfl k.1 k.2 (by decide +kernel)
theorem s_R_crossing {E : pE} {x1 : Int32} {x2 : Int32} {h : pH}  {v : (Int32 × pH)} (e : f_R_crossing x1 x2 h = some v) : Ct E M_R_crossing [.ref 79, .int x1, .int x2] h (some (.int v.1)) v.2 :=
  Ct_of ok_R_crossing [some (.ref 79), some (.int x1), some (.int x2), none] (Nat.le_of_ble_eq_true rfl) rfl (b_R_crossing  e ⟨rfl, rfl⟩)
def f_Lines_bendsAt (o0 : Nat) (x1 : Int32) (x2 : Int32) (x3 : Int32) (h : pH) : Option Int32 :=
  (f_Lines_lineAt o0 x1 x2 x3 ((-1) : Int32) h).bind fun v_1 =>
  (f_Lines_lineAt o0 x1 x2 x3 (1 : Int32) h).bind fun v_3 =>
  if v_1 = v_3 then
    some 0
  else
    some 1
set_option maxHeartbeats 4000000 in
theorem b_Lines_bendsAt {E : pE} {r : Option Value} {hr : pH} {o0 : Nat} {x1 : Int32} {x2 : Int32} {x3 : Int32} {h : pH} (ho0 : ak o0 = 0 ∧ cx o0 = 0) {b : Int32} (e : f_Lines_bendsAt o0 x1 x2 x3 h = some b) (k : (fun v : Int32 => r = some (.int v) ∧ hr = h) b) : Go E M_Lines_bendsAt 0 [some (.ref o0), some (.int x1), some (.int x2), some (.int x3)] [] h r hr := by
  unfold f_Lines_bendsAt at e
  refine sl_ok ok_Lines_bendsAt [.aload_n 0, .iload_n 1, .iload_n 2, .iload_n 3, .iconst (-1)] (pc1 := 5) (ls1 := [some (.ref o0), some (.int x1), some (.int x2), some (.int x3)]) (st1 := [.int (-1), .int x3, .int x2, .int x1, .ref o0]) (h1 := h) (P := True) (by decide +kernel) rfl trivial ?_
  obtain ⟨v_1, e_2, e⟩ := bi_s e
  refine q_callS ok_Lines_lineAt (as := [.ref o0, .int x1, .int x2, .int x3, .int (-1)]) (st := []) ⟨wd_460, wd_416, wd_414, ds_Lines_lineAt, Nat.le_of_ble_eq_true rfl, Nat.le_of_ble_eq_true rfl⟩ (s_Lines_lineAt ho0 e_2) rfl (fun v hv => by cases hv; rfl) (Nat.le_of_ble_eq_true rfl) (by decide +kernel) rfl ?_
  refine sl_ok ok_Lines_bendsAt [.aload_n 0, .iload_n 1, .iload_n 2, .iload_n 3, .iconst 1] (pc1 := 13) (ls1 := [some (.ref o0), some (.int x1), some (.int x2), some (.int x3)]) (st1 := [.int 1, .int x3, .int x2, .int x1, .ref o0, .int v_1]) (h1 := h) (P := True) (by decide +kernel) rfl trivial ?_
  obtain ⟨v_3, e_4, e⟩ := bi_s e
  refine q_callS ok_Lines_lineAt (as := [.ref o0, .int x1, .int x2, .int x3, .int 1]) (st := [.int v_1]) ⟨wd_460, wd_416, wd_414, ds_Lines_lineAt, Nat.le_of_ble_eq_true rfl, Nat.le_of_ble_eq_true rfl⟩ (s_Lines_lineAt ho0 e_4) rfl (fun v hv => by cases hv; rfl) (Nat.le_of_ble_eq_true rfl) (by decide +kernel) rfl ?_
  refine q_icmp_eq (off := 7) (tgt := 23) (by decide +kernel) (by decide) (fun c_5 => ?_) (fun c_5 => ?_)
  · have e := it_t c_5 e
    refine sl_ok ok_Lines_bendsAt [.iconst 0] (pc1 := 24) (ls1 := [some (.ref o0), some (.int x1), some (.int x2), some (.int x3)]) (st1 := [.int 0]) (h1 := h) (P := True) (by decide +kernel) rfl trivial ?_
    cases e
    exact q_zret rfl (Or.inl rfl) k.1 k.2 (by decide +kernel)
  · have e := it_f c_5 e
    refine sl_ok ok_Lines_bendsAt [.iconst 1] (pc1 := 20) (ls1 := [some (.ref o0), some (.int x1), some (.int x2), some (.int x3)]) (st1 := [.int 1]) (h1 := h) (P := True) (by decide +kernel) rfl trivial ?_
    refine q_goto (off := 4) (tgt := 24) (by decide) (by decide +kernel) ?_
    cases e
    exact q_zret rfl (Or.inr rfl) k.1 k.2 (by decide +kernel)
theorem s_Lines_bendsAt {E : pE} {o0 : Nat} {x1 : Int32} {x2 : Int32} {x3 : Int32} {h : pH} (ho0 : ak o0 = 0 ∧ cx o0 = 0) {v : Int32} (e : f_Lines_bendsAt o0 x1 x2 x3 h = some v) : Ct E M_Lines_bendsAt [.ref o0, .int x1, .int x2, .int x3] h (some (.int v)) h :=
  Ct_of ok_Lines_bendsAt [some (.ref o0), some (.int x1), some (.int x2), some (.int x3)] (Nat.le_of_ble_eq_true rfl) rfl (b_Lines_bendsAt ho0 e ⟨rfl, rfl⟩)
def f_Lines_bendsOf_J2 (o1 : Nat) (x2 : Int32) (x3 : Int32) (x4 : Int32) (t0 : Int32) (h : pH) : Option ((Int32 × Int32) ⊕ Int32) :=
  if t0 = 0 then
    some (.inl (x3, (x4 + 1)))
  else
    (f_Lines_over o1 x4 h).bind fun v_2 =>
    (f_Lines_under o1 x4 h).bind fun v_4 =>
    (f_Lines_bendsAt o1 x2 v_2 v_4 h).bind fun v_6 =>
    if v_6 = 0 then
      some (.inl (x3, (x4 + 1)))
    else
      some (.inl ((x3 + 1), (x4 + 1)))
set_option maxHeartbeats 4000000 in
theorem b_Lines_bendsOf_J2 {E : pE} {r : Option Value} {hr : pH} {o1 : Nat} {x2 : Int32} {x3 : Int32} {x4 : Int32} {t0 : Int32} {h : pH} (ho1 : ak o1 = 0 ∧ cx o1 = 0) {b : ((Int32 × Int32) ⊕ Int32)} (e : f_Lines_bendsOf_J2 o1 x2 x3 x4 t0 h = some b) (k : (Sum.elim (fun s : (Int32 × Int32) => Go E M_Lines_bendsOf 5 [some (.ref 24), some (.ref o1), some (.int x2), some (.int s.1), some (.int s.2), none] [] h r hr) (fun v : Int32 => r = some (.int v) ∧ hr = h)) b) : Go E M_Lines_bendsOf 38 [some (.ref 24), some (.ref o1), some (.int x2), some (.int x3), some (.int x4), none] [.int t0] h r hr := by
  unfold f_Lines_bendsOf_J2 at e
  refine sl_ok ok_Lines_bendsOf [.istore 5, .iload 5] (pc1 := 42) (ls1 := [some (.ref 24), some (.ref o1), some (.int x2), some (.int x3), some (.int x4), some (.int t0)]) (st1 := [.int t0]) (h1 := h) (P := True) (by decide +kernel) rfl trivial ?_
  refine q_if_eq (off := 28) (tgt := 70) (by decide +kernel) (by decide) (fun c_1 => ?_) (fun c_1 => ?_)
  · have e := it_t c_1 e
    refine sl_ok ok_Lines_bendsOf [.iinc 4 1] (pc1 := 73) (ls1 := [some (.ref 24), some (.ref o1), some (.int x2), some (.int x3), some (.int (x4 + 1)), some (.int t0)]) (st1 := []) (h1 := h) (P := True) (by decide +kernel) rfl trivial ?_
    refine q_goto (off := -68) (tgt := 5) (by decide) (by decide +kernel) ?_
    cases e
    refine Go.sb [some (.ref 24), some (.ref o1), some (.int x2), some (.int x3), some (.int (x4 + 1)), none] (And.intro rfl (And.intro rfl (And.intro rfl (And.intro rfl (And.intro rfl trivial))))) ?_
    exact k
  · have e := it_f c_1 e
    refine sl_ok ok_Lines_bendsOf [.aload_n 1, .iload_n 2, .aload_n 0, .aload_n 1, .iload 4] (pc1 := 51) (ls1 := [some (.ref 24), some (.ref o1), some (.int x2), some (.int x3), some (.int x4), some (.int t0)]) (st1 := [.int x4, .ref o1, .ref 24, .int x2, .ref o1]) (h1 := h) (P := True) (by decide +kernel) rfl trivial ?_
    obtain ⟨v_2, e_3, e⟩ := bi_s e
    refine q_callV ok_Lines_over (as := [.ref o1, .int x4]) (st := [.int x2, .ref o1]) ⟨wd_430, wd_431, wd_432, wd_414, ds_Lines_over, Nat.le_of_ble_eq_true rfl, Nat.le_of_ble_eq_true rfl⟩ (s_Lines_over ho1 e_3) rfl ⟨rfl, rfl⟩ (ci := 5) rfl (fun v hv => by cases hv; rfl) (Nat.le_of_ble_eq_true rfl) (by decide +kernel) rfl ?_
    refine sl_ok ok_Lines_bendsOf [.aload_n 0, .aload_n 1, .iload 4] (pc1 := 58) (ls1 := [some (.ref 24), some (.ref o1), some (.int x2), some (.int x3), some (.int x4), some (.int t0)]) (st1 := [.int x4, .ref o1, .ref 24, .int v_2, .int x2, .ref o1]) (h1 := h) (P := True) (by decide +kernel) rfl trivial ?_
    obtain ⟨v_4, e_5, e⟩ := bi_s e
    refine q_callV ok_Lines_under (as := [.ref o1, .int x4]) (st := [.int v_2, .int x2, .ref o1]) ⟨wd_433, wd_434, wd_435, wd_414, ds_Lines_under, Nat.le_of_ble_eq_true rfl, Nat.le_of_ble_eq_true rfl⟩ (s_Lines_under ho1 e_5) rfl ⟨rfl, rfl⟩ (ci := 5) rfl (fun v hv => by cases hv; rfl) (Nat.le_of_ble_eq_true rfl) (by decide +kernel) rfl ?_
    obtain ⟨v_6, e_7, e⟩ := bi_s e
    refine q_callS ok_Lines_bendsAt (as := [.ref o1, .int x2, .int v_2, .int v_4]) (st := []) ⟨wd_461, wd_462, wd_414, ds_Lines_bendsAt, Nat.le_of_ble_eq_true rfl, Nat.le_of_ble_eq_true rfl⟩ (s_Lines_bendsAt ho1 e_7) rfl (fun v hv => by cases hv; rfl) (Nat.le_of_ble_eq_true rfl) (by decide +kernel) rfl ?_
    refine q_if_eq (off := 6) (tgt := 70) (by decide +kernel) (by decide) (fun c_8 => ?_) (fun c_8 => ?_)
    · have e := it_t c_8 e
      refine sl_ok ok_Lines_bendsOf [.iinc 4 1] (pc1 := 73) (ls1 := [some (.ref 24), some (.ref o1), some (.int x2), some (.int x3), some (.int (x4 + 1)), some (.int t0)]) (st1 := []) (h1 := h) (P := True) (by decide +kernel) rfl trivial ?_
      refine q_goto (off := -68) (tgt := 5) (by decide) (by decide +kernel) ?_
      cases e
      refine Go.sb [some (.ref 24), some (.ref o1), some (.int x2), some (.int x3), some (.int (x4 + 1)), none] (And.intro rfl (And.intro rfl (And.intro rfl (And.intro rfl (And.intro rfl trivial))))) ?_
      exact k
    · have e := it_f c_8 e
      refine sl_ok ok_Lines_bendsOf [.iinc 3 1, .iinc 4 1] (pc1 := 73) (ls1 := [some (.ref 24), some (.ref o1), some (.int x2), some (.int (x3 + 1)), some (.int (x4 + 1)), some (.int t0)]) (st1 := []) (h1 := h) (P := True) (by decide +kernel) rfl trivial ?_
      refine q_goto (off := -68) (tgt := 5) (by decide) (by decide +kernel) ?_
      cases e
      refine Go.sb [some (.ref 24), some (.ref o1), some (.int x2), some (.int (x3 + 1)), some (.int (x4 + 1)), none] (And.intro rfl (And.intro rfl (And.intro rfl (And.intro rfl (And.intro rfl trivial))))) ?_
      exact k
def f_Lines_bendsOf_L1 (o1 : Nat) (x2 : Int32) (h : pH) (x3 : Int32) (x4 : Int32) : Option ((Int32 × Int32) ⊕ Int32) :=
  if (hI h 24 1) ≤ x4 then
    some (.inr x3)
  else
    if x4 = 0 then
      f_Lines_bendsOf_J2 o1 x2 x3 x4 1 h
    else
      (f_Lines_compareX o1 x4 (x4 - 1) h).bind fun v_3 =>
      if v_3 = 0 then
        f_Lines_bendsOf_J2 o1 x2 x3 x4 0 h
      else
        f_Lines_bendsOf_J2 o1 x2 x3 x4 1 h
set_option maxHeartbeats 4000000 in
theorem b_Lines_bendsOf_L1 {E : pE} {r : Option Value} {hr : pH} {o1 : Nat} {x2 : Int32} {h : pH} {x3 : Int32} {x4 : Int32} (ho1 : ak o1 = 0 ∧ cx o1 = 0) {b : ((Int32 × Int32) ⊕ Int32)} (e : f_Lines_bendsOf_L1 o1 x2 h x3 x4 = some b) (k : (Sum.elim (fun s : (Int32 × Int32) => Go E M_Lines_bendsOf 5 [some (.ref 24), some (.ref o1), some (.int x2), some (.int s.1), some (.int s.2), none] [] h r hr) (fun v : Int32 => r = some (.int v) ∧ hr = h)) b) : Go E M_Lines_bendsOf 5 [some (.ref 24), some (.ref o1), some (.int x2), some (.int x3), some (.int x4), none] [] h r hr := by
  unfold f_Lines_bendsOf_L1 at e
  refine sl_ok ok_Lines_bendsOf [.iload 4, .aload_n 0, .getfield 31] (pc1 := 11) (ls1 := [some (.ref 24), some (.ref o1), some (.int x2), some (.int x3), some (.int x4), none]) (st1 := [.int (hI h 24 1), .int x4]) (h1 := h) (P := (ak 24 = 0 ∧ cx 24 = 5) ∧ True) (by decide +kernel) rfl ⟨⟨rfl, rfl⟩, trivial⟩ ?_
  refine q_icmp_ge (off := 65) (tgt := 76) (by decide +kernel) (by decide) (fun c_1 => ?_) (fun c_1 => ?_)
  · have e := it_t c_1 e
    refine sl_ok ok_Lines_bendsOf [.iload_n 3] (pc1 := 77) (ls1 := [some (.ref 24), some (.ref o1), some (.int x2), some (.int x3), some (.int x4), none]) (st1 := [.int x3]) (h1 := h) (P := True) (by decide +kernel) rfl trivial ?_
    cases e
    exact q_iret rfl k.1 k.2 (by decide +kernel)
  · have e := it_f c_1 e
    refine sl_ok ok_Lines_bendsOf [.iload 4] (pc1 := 16) (ls1 := [some (.ref 24), some (.ref o1), some (.int x2), some (.int x3), some (.int x4), none]) (st1 := [.int x4]) (h1 := h) (P := True) (by decide +kernel) rfl trivial ?_
    refine q_if_eq (off := 17) (tgt := 33) (by decide +kernel) (by decide) (fun c_2 => ?_) (fun c_2 => ?_)
    · have e := it_t c_2 e
      refine sl_ok ok_Lines_bendsOf [.iconst 1] (pc1 := 34) (ls1 := [some (.ref 24), some (.ref o1), some (.int x2), some (.int x3), some (.int x4), none]) (st1 := [.int 1]) (h1 := h) (P := True) (by decide +kernel) rfl trivial ?_
      refine q_goto (off := 4) (tgt := 38) (by decide) (by decide +kernel) ?_
      exact b_Lines_bendsOf_J2 ho1 e k
    · have e := it_f c_2 e
      refine sl_ok ok_Lines_bendsOf [.aload_n 0, .aload_n 1, .iload 4, .iload 4, .iconst 1, .isub] (pc1 := 27) (ls1 := [some (.ref 24), some (.ref o1), some (.int x2), some (.int x3), some (.int x4), none]) (st1 := [.int (x4 - 1), .int x4, .ref o1, .ref 24]) (h1 := h) (P := True) (by decide +kernel) rfl trivial ?_
      obtain ⟨v_3, e_4, e⟩ := bi_s e
      refine q_callV ok_Lines_compareX (as := [.ref o1, .int x4, .int (x4 - 1)]) (st := []) ⟨wd_438, wd_439, wd_440, wd_414, ds_Lines_compareX, Nat.le_of_ble_eq_true rfl, Nat.le_of_ble_eq_true rfl⟩ (s_Lines_compareX ho1 e_4) rfl ⟨rfl, rfl⟩ (ci := 5) rfl (fun v hv => by cases hv; rfl) (Nat.le_of_ble_eq_true rfl) (by decide +kernel) rfl ?_
      refine q_if_eq (off := 7) (tgt := 37) (by decide +kernel) (by decide) (fun c_5 => ?_) (fun c_5 => ?_)
      · have e := it_t c_5 e
        refine sl_ok ok_Lines_bendsOf [.iconst 0] (pc1 := 38) (ls1 := [some (.ref 24), some (.ref o1), some (.int x2), some (.int x3), some (.int x4), none]) (st1 := [.int 0]) (h1 := h) (P := True) (by decide +kernel) rfl trivial ?_
        exact b_Lines_bendsOf_J2 ho1 e k
      · have e := it_f c_5 e
        refine sl_ok ok_Lines_bendsOf [.iconst 1] (pc1 := 34) (ls1 := [some (.ref 24), some (.ref o1), some (.int x2), some (.int x3), some (.int x4), none]) (st1 := [.int 1]) (h1 := h) (P := True) (by decide +kernel) rfl trivial ?_
        refine q_goto (off := 4) (tgt := 38) (by decide) (by decide +kernel) ?_
        exact b_Lines_bendsOf_J2 ho1 e k
def f_Lines_bendsOf (o1 : Nat) (x2 : Int32) (h : pH) : Option Int32 :=
  lp (fun s => f_Lines_bendsOf_L1 o1 x2 h s.1 s.2) lpN (0, 0)
set_option maxHeartbeats 4000000 in
theorem b_Lines_bendsOf {E : pE} {r : Option Value} {hr : pH} {o1 : Nat} {x2 : Int32} {h : pH} (ho1 : ak o1 = 0 ∧ cx o1 = 0) {b : Int32} (e : f_Lines_bendsOf o1 x2 h = some b) (k : (fun v : Int32 => r = some (.int v) ∧ hr = h) b) : Go E M_Lines_bendsOf 0 [some (.ref 24), some (.ref o1), some (.int x2), none, none, none] [] h r hr := by
  unfold f_Lines_bendsOf at e
  refine sl_ok ok_Lines_bendsOf [.iconst 0, .istore_n 3, .iconst 0, .istore 4] (pc1 := 5) (ls1 := [some (.ref 24), some (.ref o1), some (.int x2), some (.int 0), some (.int 0), none]) (st1 := []) (h1 := h) (P := True) (by decide +kernel) rfl trivial ?_
  exact lp_in e (fun s => Go E M_Lines_bendsOf 5 [some (.ref 24), some (.ref o1), some (.int x2), some (.int s.1), some (.int s.2), none] [] h r hr) (fun v : Int32 => r = some (.int v) ∧ hr = h) (fun _ _ e k => b_Lines_bendsOf_L1 ho1 e k) k
theorem s_Lines_bendsOf {E : pE} {o1 : Nat} {x2 : Int32} {h : pH} (ho1 : ak o1 = 0 ∧ cx o1 = 0) {v : Int32} (e : f_Lines_bendsOf o1 x2 h = some v) : Ct E M_Lines_bendsOf [.ref 24, .ref o1, .int x2] h (some (.int v)) h :=
  Ct_of ok_Lines_bendsOf [some (.ref 24), some (.ref o1), some (.int x2), none, none, none] (Nat.le_of_ble_eq_true rfl) rfl (b_Lines_bendsOf ho1 e ⟨rfl, rfl⟩)
def f_C_bends (x1 : Int32) (h : pH) : Option (Int32 × pH) :=
  if (f_Cloud_has 8 x1 h) = 0 then
    some ((-1), h)
  else
    (f_Lines_cross 8 h).bind fun v_2 =>
    (f_Lines_bendsOf 8 x1 v_2).bind fun v_4 =>
    some (v_4, v_2)
set_option maxHeartbeats 4000000 in
theorem b_C_bends {E : pE} {r : Option Value} {hr : pH} {x1 : Int32} {h : pH}  {b : (Int32 × pH)} (e : f_C_bends x1 h = some b) (k : (fun v : (Int32 × pH) => r = some (.int v.1) ∧ hr = v.2) b) : Go E M_C_bends 0 [some (.ref 0), some (.int x1)] [] h r hr := by
  unfold f_C_bends at e
  refine sl_ok ok_C_bends [.aload_n 0, .getfield 28, .iload_n 1] (pc1 := 5) (ls1 := [some (.ref 0), some (.int x1)]) (st1 := [.int x1, .ref 8]) (h1 := h) (P := (ak 0 = 0 ∧ cx 0 = 11) ∧ True) (by decide +kernel) rfl ⟨⟨rfl, rfl⟩, trivial⟩ ?_
  refine q_callV ok_Cloud_has (as := [.int x1]) (st := []) ⟨wd_175, wd_173, wd_174, wd_14, ds_Cloud_has, Nat.le_of_ble_eq_true rfl, Nat.le_of_ble_eq_true rfl⟩ (s_Cloud_has ⟨rfl, rfl⟩) rfl ⟨rfl, rfl⟩ (ci := 0) rfl (fun v hv => by cases hv; rfl) (Nat.le_of_ble_eq_true rfl) (by decide +kernel) rfl ?_
  refine q_if_ne (off := 5) (tgt := 13) (by decide +kernel) (by decide) (fun c_1 => ?_) (fun c_1 => ?_)
  · have e := it_f c_1 e
    refine sl_ok ok_C_bends [.aload_n 0, .getfield 59, .aload_n 0, .getfield 28] (pc1 := 21) (ls1 := [some (.ref 0), some (.int x1)]) (st1 := [.ref 8, .ref 24]) (h1 := h) (P := (ak 0 = 0 ∧ cx 0 = 11) ∧ (ak 0 = 0 ∧ cx 0 = 11) ∧ True) (by decide +kernel) rfl ⟨⟨rfl, rfl⟩, ⟨rfl, rfl⟩, trivial⟩ ?_
    obtain ⟨v_2, e_3, e⟩ := bi_s e
    refine q_callV ok_Lines_cross (as := [.ref 8]) (st := []) ⟨wd_445, wd_446, wd_447, wd_414, ds_Lines_cross, Nat.le_of_ble_eq_true rfl, Nat.le_of_ble_eq_true rfl⟩ (s_Lines_cross ⟨rfl, rfl⟩ e_3) rfl ⟨rfl, rfl⟩ (ci := 5) rfl (fun v hv => by cases hv) (Nat.le_of_ble_eq_true rfl) (by decide +kernel) rfl ?_
    refine sl_ok ok_C_bends [.aload_n 0, .getfield 59, .aload_n 0, .getfield 28, .iload_n 1] (pc1 := 33) (ls1 := [some (.ref 0), some (.int x1)]) (st1 := [.int x1, .ref 8, .ref 24]) (h1 := v_2) (P := (ak 0 = 0 ∧ cx 0 = 11) ∧ (ak 0 = 0 ∧ cx 0 = 11) ∧ True) (by decide +kernel) rfl ⟨⟨rfl, rfl⟩, ⟨rfl, rfl⟩, trivial⟩ ?_
    obtain ⟨v_4, e_5, e⟩ := bi_s e
    refine q_callV ok_Lines_bendsOf (as := [.ref 8, .int x1]) (st := []) ⟨wd_463, wd_464, wd_465, wd_414, ds_Lines_bendsOf, Nat.le_of_ble_eq_true rfl, Nat.le_of_ble_eq_true rfl⟩ (s_Lines_bendsOf ⟨rfl, rfl⟩ e_5) rfl ⟨rfl, rfl⟩ (ci := 5) rfl (fun v hv => by cases hv; rfl) (Nat.le_of_ble_eq_true rfl) (by decide +kernel) rfl ?_
    cases e
    exact q_iret rfl k.1 k.2 (by decide +kernel)
  · have e := it_t c_1 e
    refine sl_ok ok_C_bends [.iconst (-1)] (pc1 := 12) (ls1 := [some (.ref 0), some (.int x1)]) (st1 := [.int (-1)]) (h1 := h) (P := True) (by decide +kernel) rfl trivial ?_
    cases e
    exact q_iret rfl k.1 k.2 (by decide +kernel)
theorem s_C_bends {E : pE} {x1 : Int32} {h : pH}  {v : (Int32 × pH)} (e : f_C_bends x1 h = some v) : Ct E M_C_bends [.ref 0, .int x1] h (some (.int v.1)) v.2 :=
  Ct_of ok_C_bends [some (.ref 0), some (.int x1)] (Nat.le_of_ble_eq_true rfl) rfl (b_C_bends  e ⟨rfl, rfl⟩)
def f_R_bends_J2 (x1 : Int32) (x2 : Int32) (x3 : Int32) (x4 : Int32) (h : pH) : Option ((Int32 × Int32) ⊕ (Int32 × pH)) :=
  if x4 < 0 ∨ 66 ≤ x4.toNatClampNeg then none else
  (f_R_lineAt (hI h 98 x4.toNatClampNeg) (hI h 99 x4.toNatClampNeg) x1 (1 : Int32) h).bind fun v_2 =>
  (f_R_lineAt (hI h 98 x4.toNatClampNeg) (hI h 99 x4.toNatClampNeg) x1 (0 : Int32) h).bind fun v_4 =>
  if v_2 = v_4 then
    some (.inl (x3, (x4 + 1)))
  else
    some (.inl ((x3 + 1), (x4 + 1)))
set_option maxHeartbeats 4000000 in
theorem b_R_bends_J2 {E : pE} {r : Option Value} {hr : pH} {x1 : Int32} {x2 : Int32} {x3 : Int32} {x4 : Int32} {h : pH}  {b : ((Int32 × Int32) ⊕ (Int32 × pH))} (e : f_R_bends_J2 x1 x2 x3 x4 h = some b) (k : (Sum.elim (fun s : (Int32 × Int32) => Go E M_R_bends 26 [some (.ref 79), some (.int x1), some (.int x2), some (.int s.1), some (.int s.2)] [] h r hr) (fun v : (Int32 × pH) => r = some (.int v.1) ∧ hr = v.2)) b) : Go E M_R_bends 78 [some (.ref 79), some (.int x1), some (.int x2), some (.int x3), some (.int x4)] [] h r hr := by
  unfold f_R_bends_J2 at e
  obtain ⟨g_1, e⟩ := it_g e
  refine sl_ok ok_R_bends [.aload_n 0, .aload_n 0, .getfield 74, .iload 4, .iaload, .aload_n 0, .getfield 77, .iload 4, .iaload, .iload_n 1, .iconst 1] (pc1 := 95) (ls1 := [some (.ref 79), some (.int x1), some (.int x2), some (.int x3), some (.int x4)]) (st1 := [.int 1, .int x1, .int (hI h 99 x4.toNatClampNeg), .int (hI h 98 x4.toNatClampNeg), .ref 79]) (h1 := h) (P := (ak 79 = 0 ∧ cx 79 = 12) ∧ (ak 98 = 1 ∧ ¬ (x4 < 0 ∨ cx 98 ≤ x4.toNatClampNeg)) ∧ (ak 79 = 0 ∧ cx 79 = 12) ∧ (ak 99 = 1 ∧ ¬ (x4 < 0 ∨ cx 99 ≤ x4.toNatClampNeg)) ∧ True) (by decide +kernel) rfl ⟨⟨rfl, rfl⟩, ⟨rfl, g_1⟩, ⟨rfl, rfl⟩, ⟨rfl, g_1⟩, trivial⟩ ?_
  obtain ⟨v_2, e_3, e⟩ := bi_s e
  refine q_callV ok_R_lineAt (as := [.int (hI h 98 x4.toNatClampNeg), .int (hI h 99 x4.toNatClampNeg), .int x1, .int 1]) (st := []) ⟨wd_420, wd_421, wd_422, wd_7, ds_R_lineAt, Nat.le_of_ble_eq_true rfl, Nat.le_of_ble_eq_true rfl⟩ (s_R_lineAt  e_3) rfl ⟨rfl, rfl⟩ (ci := 12) rfl (fun v hv => by cases hv; rfl) (Nat.le_of_ble_eq_true rfl) (by decide +kernel) rfl ?_
  refine sl_ok ok_R_bends [.aload_n 0, .aload_n 0, .getfield 74, .iload 4, .iaload, .aload_n 0, .getfield 77, .iload 4, .iaload, .iload_n 1, .iconst 0] (pc1 := 115) (ls1 := [some (.ref 79), some (.int x1), some (.int x2), some (.int x3), some (.int x4)]) (st1 := [.int 0, .int x1, .int (hI h 99 x4.toNatClampNeg), .int (hI h 98 x4.toNatClampNeg), .ref 79, .int v_2]) (h1 := h) (P := (ak 79 = 0 ∧ cx 79 = 12) ∧ (ak 98 = 1 ∧ ¬ (x4 < 0 ∨ cx 98 ≤ x4.toNatClampNeg)) ∧ (ak 79 = 0 ∧ cx 79 = 12) ∧ (ak 99 = 1 ∧ ¬ (x4 < 0 ∨ cx 99 ≤ x4.toNatClampNeg)) ∧ True) (by decide +kernel) rfl ⟨⟨rfl, rfl⟩, ⟨rfl, g_1⟩, ⟨rfl, rfl⟩, ⟨rfl, g_1⟩, trivial⟩ ?_
  obtain ⟨v_4, e_5, e⟩ := bi_s e
  refine q_callV ok_R_lineAt (as := [.int (hI h 98 x4.toNatClampNeg), .int (hI h 99 x4.toNatClampNeg), .int x1, .int 0]) (st := [.int v_2]) ⟨wd_420, wd_421, wd_422, wd_7, ds_R_lineAt, Nat.le_of_ble_eq_true rfl, Nat.le_of_ble_eq_true rfl⟩ (s_R_lineAt  e_5) rfl ⟨rfl, rfl⟩ (ci := 12) rfl (fun v hv => by cases hv; rfl) (Nat.le_of_ble_eq_true rfl) (by decide +kernel) rfl ?_
  refine q_icmp_eq (off := 6) (tgt := 124) (by decide +kernel) (by decide) (fun c_6 => ?_) (fun c_6 => ?_)
  · have e := it_t c_6 e
    refine sl_ok ok_R_bends [.iinc 4 1] (pc1 := 127) (ls1 := [some (.ref 79), some (.int x1), some (.int x2), some (.int x3), some (.int (x4 + 1))]) (st1 := []) (h1 := h) (P := True) (by decide +kernel) rfl trivial ?_
    refine q_goto (off := -101) (tgt := 26) (by decide) (by decide +kernel) ?_
    cases e
    exact k
  · have e := it_f c_6 e
    refine sl_ok ok_R_bends [.iinc 3 1, .iinc 4 1] (pc1 := 127) (ls1 := [some (.ref 79), some (.int x1), some (.int x2), some (.int (x3 + 1)), some (.int (x4 + 1))]) (st1 := []) (h1 := h) (P := True) (by decide +kernel) rfl trivial ?_
    refine q_goto (off := -101) (tgt := 26) (by decide) (by decide +kernel) ?_
    cases e
    exact k
def f_R_bends_L1 (x1 : Int32) (x2 : Int32) (h : pH) (x3 : Int32) (x4 : Int32) : Option ((Int32 × Int32) ⊕ (Int32 × pH)) :=
  if x2 ≤ x4 then
    some (.inr (x3, h))
  else
    if x4 ≤ 0 then
      f_R_bends_J2 x1 x2 x3 x4 h
    else
      if x4 < 0 ∨ 66 ≤ x4.toNatClampNeg then none else
      if (x4 - 1) < 0 ∨ 66 ≤ (x4 - 1).toNatClampNeg then none else
      if (hI h 98 x4.toNatClampNeg) = (hI h 98 (x4 - 1).toNatClampNeg) then
        if (hI h 99 x4.toNatClampNeg) = (hI h 99 (x4 - 1).toNatClampNeg) then
          some (.inl (x3, (x4 + 1)))
        else
          f_R_bends_J2 x1 x2 x3 x4 h
      else
        f_R_bends_J2 x1 x2 x3 x4 h
set_option maxHeartbeats 4000000 in
theorem b_R_bends_L1 {E : pE} {r : Option Value} {hr : pH} {x1 : Int32} {x2 : Int32} {h : pH} {x3 : Int32} {x4 : Int32}  {b : ((Int32 × Int32) ⊕ (Int32 × pH))} (e : f_R_bends_L1 x1 x2 h x3 x4 = some b) (k : (Sum.elim (fun s : (Int32 × Int32) => Go E M_R_bends 26 [some (.ref 79), some (.int x1), some (.int x2), some (.int s.1), some (.int s.2)] [] h r hr) (fun v : (Int32 × pH) => r = some (.int v.1) ∧ hr = v.2)) b) : Go E M_R_bends 26 [some (.ref 79), some (.int x1), some (.int x2), some (.int x3), some (.int x4)] [] h r hr := by
  unfold f_R_bends_L1 at e
  refine sl_ok ok_R_bends [.iload 4, .iload_n 2] (pc1 := 29) (ls1 := [some (.ref 79), some (.int x1), some (.int x2), some (.int x3), some (.int x4)]) (st1 := [.int x2, .int x4]) (h1 := h) (P := True) (by decide +kernel) rfl trivial ?_
  refine q_icmp_ge (off := 101) (tgt := 130) (by decide +kernel) (by decide) (fun c_1 => ?_) (fun c_1 => ?_)
  · have e := it_t c_1 e
    refine sl_ok ok_R_bends [.iload_n 3] (pc1 := 131) (ls1 := [some (.ref 79), some (.int x1), some (.int x2), some (.int x3), some (.int x4)]) (st1 := [.int x3]) (h1 := h) (P := True) (by decide +kernel) rfl trivial ?_
    cases e
    exact q_iret rfl k.1 k.2 (by decide +kernel)
  · have e := it_f c_1 e
    refine sl_ok ok_R_bends [.iload 4] (pc1 := 34) (ls1 := [some (.ref 79), some (.int x1), some (.int x2), some (.int x3), some (.int x4)]) (st1 := [.int x4]) (h1 := h) (P := True) (by decide +kernel) rfl trivial ?_
    refine q_if_le (off := 44) (tgt := 78) (by decide +kernel) (by decide) (fun c_2 => ?_) (fun c_2 => ?_)
    · have e := it_t c_2 e
      exact b_R_bends_J2  e k
    · have e := it_f c_2 e
      obtain ⟨g_3, e⟩ := it_g e
      obtain ⟨g_4, e⟩ := it_g e
      refine sl_ok ok_R_bends [.aload_n 0, .getfield 74, .iload 4, .iaload, .aload_n 0, .getfield 74, .iload 4, .iconst 1, .isub, .iaload] (pc1 := 53) (ls1 := [some (.ref 79), some (.int x1), some (.int x2), some (.int x3), some (.int x4)]) (st1 := [.int (hI h 98 (x4 - 1).toNatClampNeg), .int (hI h 98 x4.toNatClampNeg)]) (h1 := h) (P := (ak 79 = 0 ∧ cx 79 = 12) ∧ (ak 98 = 1 ∧ ¬ (x4 < 0 ∨ cx 98 ≤ x4.toNatClampNeg)) ∧ (ak 79 = 0 ∧ cx 79 = 12) ∧ (ak 98 = 1 ∧ ¬ ((x4 - 1) < 0 ∨ cx 98 ≤ (x4 - 1).toNatClampNeg)) ∧ True) (by decide +kernel) rfl ⟨⟨rfl, rfl⟩, ⟨rfl, g_3⟩, ⟨rfl, rfl⟩, ⟨rfl, g_4⟩, trivial⟩ ?_
      refine q_icmp_ne (off := 25) (tgt := 78) (by decide +kernel) (by decide) (fun c_5 => ?_) (fun c_5 => ?_)
      · have e := it_f c_5 e
        exact b_R_bends_J2  e k
      · have e := it_t c_5 e
        refine sl_ok ok_R_bends [.aload_n 0, .getfield 77, .iload 4, .iaload, .aload_n 0, .getfield 77, .iload 4, .iconst 1, .isub, .iaload] (pc1 := 72) (ls1 := [some (.ref 79), some (.int x1), some (.int x2), some (.int x3), some (.int x4)]) (st1 := [.int (hI h 99 (x4 - 1).toNatClampNeg), .int (hI h 99 x4.toNatClampNeg)]) (h1 := h) (P := (ak 79 = 0 ∧ cx 79 = 12) ∧ (ak 99 = 1 ∧ ¬ (x4 < 0 ∨ cx 99 ≤ x4.toNatClampNeg)) ∧ (ak 79 = 0 ∧ cx 79 = 12) ∧ (ak 99 = 1 ∧ ¬ ((x4 - 1) < 0 ∨ cx 99 ≤ (x4 - 1).toNatClampNeg)) ∧ True) (by decide +kernel) rfl ⟨⟨rfl, rfl⟩, ⟨rfl, g_3⟩, ⟨rfl, rfl⟩, ⟨rfl, g_4⟩, trivial⟩ ?_
        refine q_icmp_ne (off := 6) (tgt := 78) (by decide +kernel) (by decide) (fun c_6 => ?_) (fun c_6 => ?_)
        · have e := it_f c_6 e
          exact b_R_bends_J2  e k
        · have e := it_t c_6 e
          refine q_goto (off := 49) (tgt := 124) (by decide) (by decide +kernel) ?_
          refine sl_ok ok_R_bends [.iinc 4 1] (pc1 := 127) (ls1 := [some (.ref 79), some (.int x1), some (.int x2), some (.int x3), some (.int (x4 + 1))]) (st1 := []) (h1 := h) (P := True) (by decide +kernel) rfl trivial ?_
          refine q_goto (off := -101) (tgt := 26) (by decide) (by decide +kernel) ?_
          cases e
          exact k
def f_R_bends (x1 : Int32) (h : pH) : Option (Int32 × pH) :=
  if (f_R_in x1 (0 : Int32) ((f_R_all h) - 1)) = 0 then
    some ((-1), h)
  else
    (f_R_laysCrossings h).bind fun v_2 =>
    lp (fun s => f_R_bends_L1 x1 v_2.1 v_2.2 s.1 s.2) lpN (0, 0)
set_option maxHeartbeats 4000000 in
theorem b_R_bends {E : pE} {r : Option Value} {hr : pH} {x1 : Int32} {h : pH}  {b : (Int32 × pH)} (e : f_R_bends x1 h = some b) (k : (fun v : (Int32 × pH) => r = some (.int v.1) ∧ hr = v.2) b) : Go E M_R_bends 0 [some (.ref 79), some (.int x1), none, none, none] [] h r hr := by
  unfold f_R_bends at e
  refine sl_ok ok_R_bends [.iload_n 1, .iconst 0, .aload_n 0] (pc1 := 3) (ls1 := [some (.ref 79), some (.int x1), none, none, none]) (st1 := [.ref 79, .int 0, .int x1]) (h1 := h) (P := True) (by decide +kernel) rfl trivial ?_
  refine q_callV ok_R_all (as := []) (st := [.int 0, .int x1]) ⟨wd_151, wd_152, wd_153, wd_7, ds_R_all, Nat.le_of_ble_eq_true rfl, Nat.le_of_ble_eq_true rfl⟩ (s_R_all ) rfl ⟨rfl, rfl⟩ (ci := 12) rfl (fun v hv => by cases hv; rfl) (Nat.le_of_ble_eq_true rfl) (by decide +kernel) rfl ?_
  refine sl_ok ok_R_bends [.iconst 1, .isub] (pc1 := 8) (ls1 := [some (.ref 79), some (.int x1), none, none, none]) (st1 := [.int ((f_R_all h) - 1), .int 0, .int x1]) (h1 := h) (P := True) (by decide +kernel) rfl trivial ?_
  refine q_callS ok_R_in (as := [.int x1, .int 0, .int ((f_R_all h) - 1)]) (st := []) ⟨wd_127, wd_128, wd_7, ds_R_in, Nat.le_of_ble_eq_true rfl, Nat.le_of_ble_eq_true rfl⟩ (s_R_in ) rfl (fun v hv => by cases hv; rfl) (Nat.le_of_ble_eq_true rfl) (by decide +kernel) rfl ?_
  refine q_if_ne (off := 5) (tgt := 16) (by decide +kernel) (by decide) (fun c_1 => ?_) (fun c_1 => ?_)
  · have e := it_f c_1 e
    refine sl_ok ok_R_bends [.aload_n 0] (pc1 := 17) (ls1 := [some (.ref 79), some (.int x1), none, none, none]) (st1 := [.ref 79]) (h1 := h) (P := True) (by decide +kernel) rfl trivial ?_
    obtain ⟨v_2, e_3, e⟩ := bi_s e
    refine q_callV ok_R_laysCrossings (as := []) (st := []) ⟨wd_457, wd_458, wd_459, wd_7, ds_R_laysCrossings, Nat.le_of_ble_eq_true rfl, Nat.le_of_ble_eq_true rfl⟩ (s_R_laysCrossings  e_3) rfl ⟨rfl, rfl⟩ (ci := 12) rfl (fun v hv => by cases hv; rfl) (Nat.le_of_ble_eq_true rfl) (by decide +kernel) rfl ?_
    refine sl_ok ok_R_bends [.istore_n 2, .iconst 0, .istore_n 3, .iconst 0, .istore 4] (pc1 := 26) (ls1 := [some (.ref 79), some (.int x1), some (.int v_2.1), some (.int 0), some (.int 0)]) (st1 := []) (h1 := v_2.2) (P := True) (by decide +kernel) rfl trivial ?_
    exact lp_in e (fun s => Go E M_R_bends 26 [some (.ref 79), some (.int x1), some (.int v_2.1), some (.int s.1), some (.int s.2)] [] v_2.2 r hr) (fun v : (Int32 × pH) => r = some (.int v.1) ∧ hr = v.2) (fun _ _ e k => b_R_bends_L1  e k) k
  · have e := it_t c_1 e
    refine sl_ok ok_R_bends [.iconst (-1)] (pc1 := 15) (ls1 := [some (.ref 79), some (.int x1), none, none, none]) (st1 := [.int (-1)]) (h1 := h) (P := True) (by decide +kernel) rfl trivial ?_
    cases e
    exact q_iret rfl k.1 k.2 (by decide +kernel)
theorem s_R_bends {E : pE} {x1 : Int32} {h : pH}  {v : (Int32 × pH)} (e : f_R_bends x1 h = some v) : Ct E M_R_bends [.ref 79, .int x1] h (some (.int v.1)) v.2 :=
  Ct_of ok_R_bends [some (.ref 79), some (.int x1), none, none, none] (Nat.le_of_ble_eq_true rfl) rfl (b_R_bends  e ⟨rfl, rfl⟩)
def f_Fits_arrange_L2 (o1 : Nat) (x2 : Int32) (x3 : Int32) (h : pH) : Option ((Int32 × pH) ⊕ ((Int32 × pH) ⊕ pH)) :=
  if x3 ≤ 0 then
    if x3 < 0 ∨ 12 ≤ x3.toNatClampNeg then none else
    some (.inr (.inl ((x2 + 1), (sI h 27 x3.toNatClampNeg x2))))
  else
    if (x3 - 1) < 0 ∨ 12 ≤ (x3 - 1).toNatClampNeg then none else
    if (hI h 27 (x3 - 1).toNatClampNeg) < 0 ∨ 12 ≤ (hI h 27 (x3 - 1).toNatClampNeg).toNatClampNeg then none else
    if x2 < 0 ∨ 12 ≤ x2.toNatClampNeg then none else
    if (hI h (rf o1 0) (hI h 27 (x3 - 1).toNatClampNeg).toNatClampNeg) ≤ (hI h (rf o1 0) x2.toNatClampNeg) then
      if x3 < 0 ∨ 12 ≤ x3.toNatClampNeg then none else
      some (.inr (.inl ((x2 + 1), (sI h 27 x3.toNatClampNeg x2))))
    else
      if x3 < 0 ∨ 12 ≤ x3.toNatClampNeg then none else
      some (.inl ((x3 + (-1)), (sI h 27 x3.toNatClampNeg (hI h 27 (x3 - 1).toNatClampNeg))))
set_option maxHeartbeats 4000000 in
theorem b_Fits_arrange_L2 {E : pE} {r : Option Value} {hr : pH} {o1 : Nat} {x2 : Int32} {x3 : Int32} {h : pH} (ho1 : ak o1 = 0 ∧ cx o1 = 0) {b : ((Int32 × pH) ⊕ ((Int32 × pH) ⊕ pH))} (e : f_Fits_arrange_L2 o1 x2 x3 h = some b) (k : (Sum.elim (fun s : (Int32 × pH) => Go E M_Fits_arrange 12 [some (.ref 26), some (.ref o1), some (.int x2), some (.int s.1)] [] s.2 r hr) (Sum.elim (fun s : (Int32 × pH) => Go E M_Fits_arrange 2 [some (.ref 26), some (.ref o1), some (.int s.1), none] [] s.2 r hr) (fun v : pH => r = none ∧ hr = v))) b) : Go E M_Fits_arrange 12 [some (.ref 26), some (.ref o1), some (.int x2), some (.int x3)] [] h r hr := by
  unfold f_Fits_arrange_L2 at e
  refine sl_ok ok_Fits_arrange [.iload_n 3] (pc1 := 13) (ls1 := [some (.ref 26), some (.ref o1), some (.int x2), some (.int x3)]) (st1 := [.int x3]) (h1 := h) (P := True) (by decide +kernel) rfl trivial ?_
  refine q_if_le (off := 45) (tgt := 58) (by decide +kernel) (by decide) (fun c_1 => ?_) (fun c_1 => ?_)
  · have e := it_t c_1 e
    obtain ⟨g_2, e⟩ := it_g e
    refine sl_ok ok_Fits_arrange [.aload_n 0, .getfield 9, .iload_n 3, .iload_n 2, .iastore, .iinc 2 1] (pc1 := 68) (ls1 := [some (.ref 26), some (.ref o1), some (.int (x2 + 1)), some (.int x3)]) (st1 := []) (h1 := (sI h 27 x3.toNatClampNeg x2)) (P := (ak 26 = 0 ∧ cx 26 = 3) ∧ (ak 27 = 1 ∧ ¬ (x3 < 0 ∨ cx 27 ≤ x3.toNatClampNeg)) ∧ True) (by decide +kernel) rfl ⟨⟨rfl, rfl⟩, ⟨rfl, g_2⟩, trivial⟩ ?_
    refine q_goto (off := -66) (tgt := 2) (by decide) (by decide +kernel) ?_
    cases e
    refine Go.sb [some (.ref 26), some (.ref o1), some (.int (x2 + 1)), none] (And.intro rfl (And.intro rfl (And.intro rfl trivial))) ?_
    exact k
  · have e := it_f c_1 e
    obtain ⟨g_3, e⟩ := it_g e
    obtain ⟨g_4, e⟩ := it_g e
    obtain ⟨g_5, e⟩ := it_g e
    refine sl_ok ok_Fits_arrange [.aload_n 1, .getfield 24, .aload_n 0, .getfield 9, .iload_n 3, .iconst 1, .isub, .iaload, .iaload, .aload_n 1, .getfield 24, .iload_n 2, .iaload] (pc1 := 35) (ls1 := [some (.ref 26), some (.ref o1), some (.int x2), some (.int x3)]) (st1 := [.int (hI h (rf o1 0) x2.toNatClampNeg), .int (hI h (rf o1 0) (hI h 27 (x3 - 1).toNatClampNeg).toNatClampNeg)]) (h1 := h) (P := (ak o1 = 0 ∧ cx o1 = 0) ∧ (ak 26 = 0 ∧ cx 26 = 3) ∧ (ak 27 = 1 ∧ ¬ ((x3 - 1) < 0 ∨ cx 27 ≤ (x3 - 1).toNatClampNeg)) ∧ (ak (rf o1 0) = 1 ∧ ¬ ((hI h 27 (x3 - 1).toNatClampNeg) < 0 ∨ cx (rf o1 0) ≤ (hI h 27 (x3 - 1).toNatClampNeg).toNatClampNeg)) ∧ (ak o1 = 0 ∧ cx o1 = 0) ∧ (ak (rf o1 0) = 1 ∧ ¬ (x2 < 0 ∨ cx (rf o1 0) ≤ x2.toNatClampNeg)) ∧ True) (by decide +kernel) rfl ⟨ho1, ⟨rfl, rfl⟩, ⟨rfl, g_3⟩, ⟨(st_0_0 ho1).1, (by rw [(st_0_0 ho1).2]; exact g_4)⟩, ho1, ⟨(st_0_0 ho1).1, (by rw [(st_0_0 ho1).2]; exact g_5)⟩, trivial⟩ ?_
    refine q_icmp_le (off := 23) (tgt := 58) (by decide +kernel) (by decide) (fun c_6 => ?_) (fun c_6 => ?_)
    · have e := it_t c_6 e
      obtain ⟨g_7, e⟩ := it_g e
      refine sl_ok ok_Fits_arrange [.aload_n 0, .getfield 9, .iload_n 3, .iload_n 2, .iastore, .iinc 2 1] (pc1 := 68) (ls1 := [some (.ref 26), some (.ref o1), some (.int (x2 + 1)), some (.int x3)]) (st1 := []) (h1 := (sI h 27 x3.toNatClampNeg x2)) (P := (ak 26 = 0 ∧ cx 26 = 3) ∧ (ak 27 = 1 ∧ ¬ (x3 < 0 ∨ cx 27 ≤ x3.toNatClampNeg)) ∧ True) (by decide +kernel) rfl ⟨⟨rfl, rfl⟩, ⟨rfl, g_7⟩, trivial⟩ ?_
      refine q_goto (off := -66) (tgt := 2) (by decide) (by decide +kernel) ?_
      cases e
      refine Go.sb [some (.ref 26), some (.ref o1), some (.int (x2 + 1)), none] (And.intro rfl (And.intro rfl (And.intro rfl trivial))) ?_
      exact k
    · have e := it_f c_6 e
      obtain ⟨g_8, e⟩ := it_g e
      refine sl_ok ok_Fits_arrange [.aload_n 0, .getfield 9, .iload_n 3, .aload_n 0, .getfield 9, .iload_n 3, .iconst 1, .isub, .iaload, .iastore, .iinc 3 (-1)] (pc1 := 55) (ls1 := [some (.ref 26), some (.ref o1), some (.int x2), some (.int (x3 + (-1)))]) (st1 := []) (h1 := (sI h 27 x3.toNatClampNeg (hI h 27 (x3 - 1).toNatClampNeg))) (P := (ak 26 = 0 ∧ cx 26 = 3) ∧ (ak 26 = 0 ∧ cx 26 = 3) ∧ (ak 27 = 1 ∧ ¬ ((x3 - 1) < 0 ∨ cx 27 ≤ (x3 - 1).toNatClampNeg)) ∧ (ak 27 = 1 ∧ ¬ (x3 < 0 ∨ cx 27 ≤ x3.toNatClampNeg)) ∧ True) (by decide +kernel) rfl ⟨⟨rfl, rfl⟩, ⟨rfl, rfl⟩, ⟨rfl, g_3⟩, ⟨rfl, g_8⟩, trivial⟩ ?_
      refine q_goto (off := -43) (tgt := 12) (by decide) (by decide +kernel) ?_
      cases e
      exact k
def f_Fits_arrange_L1 (o1 : Nat) (x2 : Int32) (h : pH) : Option ((Int32 × pH) ⊕ pH) :=
  if (hI h o1 2) ≤ x2 then
    some (.inr h)
  else
    lp (fun s => f_Fits_arrange_L2 o1 x2 s.1 s.2) lpN (x2, h)
set_option maxHeartbeats 4000000 in
theorem b_Fits_arrange_L1 {E : pE} {r : Option Value} {hr : pH} {o1 : Nat} {x2 : Int32} {h : pH} (ho1 : ak o1 = 0 ∧ cx o1 = 0) {b : ((Int32 × pH) ⊕ pH)} (e : f_Fits_arrange_L1 o1 x2 h = some b) (k : (Sum.elim (fun s : (Int32 × pH) => Go E M_Fits_arrange 2 [some (.ref 26), some (.ref o1), some (.int s.1), none] [] s.2 r hr) (fun v : pH => r = none ∧ hr = v)) b) : Go E M_Fits_arrange 2 [some (.ref 26), some (.ref o1), some (.int x2), none] [] h r hr := by
  unfold f_Fits_arrange_L1 at e
  refine sl_ok ok_Fits_arrange [.iload_n 2, .aload_n 1, .getfield 19] (pc1 := 7) (ls1 := [some (.ref 26), some (.ref o1), some (.int x2), none]) (st1 := [.int (hI h o1 2), .int x2]) (h1 := h) (P := (ak o1 = 0 ∧ cx o1 = 0) ∧ True) (by decide +kernel) rfl ⟨ho1, trivial⟩ ?_
  refine q_icmp_ge (off := 64) (tgt := 71) (by decide +kernel) (by decide) (fun c_1 => ?_) (fun c_1 => ?_)
  · have e := it_t c_1 e
    cases e
    exact q_vret rfl k.1 k.2 (by decide +kernel)
  · have e := it_f c_1 e
    refine sl_ok ok_Fits_arrange [.iload_n 2, .istore_n 3] (pc1 := 12) (ls1 := [some (.ref 26), some (.ref o1), some (.int x2), some (.int x2)]) (st1 := []) (h1 := h) (P := True) (by decide +kernel) rfl trivial ?_
    exact lp_in e (fun s => Go E M_Fits_arrange 12 [some (.ref 26), some (.ref o1), some (.int x2), some (.int s.1)] [] s.2 r hr) (Sum.elim (fun s : (Int32 × pH) => Go E M_Fits_arrange 2 [some (.ref 26), some (.ref o1), some (.int s.1), none] [] s.2 r hr) (fun v : pH => r = none ∧ hr = v)) (fun _ _ e k => b_Fits_arrange_L2 ho1 e k) k
def f_Fits_arrange (o1 : Nat) (h : pH) : Option pH :=
  lp (fun s => f_Fits_arrange_L1 o1 s.1 s.2) lpN (0, h)
set_option maxHeartbeats 4000000 in
theorem b_Fits_arrange {E : pE} {r : Option Value} {hr : pH} {o1 : Nat} {h : pH} (ho1 : ak o1 = 0 ∧ cx o1 = 0) {b : pH} (e : f_Fits_arrange o1 h = some b) (k : (fun v : pH => r = none ∧ hr = v) b) : Go E M_Fits_arrange 0 [some (.ref 26), some (.ref o1), none, none] [] h r hr := by
  unfold f_Fits_arrange at e
  refine sl_ok ok_Fits_arrange [.iconst 0, .istore_n 2] (pc1 := 2) (ls1 := [some (.ref 26), some (.ref o1), some (.int 0), none]) (st1 := []) (h1 := h) (P := True) (by decide +kernel) rfl trivial ?_
  exact lp_in e (fun s => Go E M_Fits_arrange 2 [some (.ref 26), some (.ref o1), some (.int s.1), none] [] s.2 r hr) (fun v : pH => r = none ∧ hr = v) (fun _ _ e k => b_Fits_arrange_L1 ho1 e k) k
theorem s_Fits_arrange {E : pE} {o1 : Nat} {h : pH} (ho1 : ak o1 = 0 ∧ cx o1 = 0) {v : pH} (e : f_Fits_arrange o1 h = some v) : Ct E M_Fits_arrange [.ref 26, .ref o1] h none v :=
  Ct_of ok_Fits_arrange [some (.ref 26), some (.ref o1), none, none] (Nat.le_of_ble_eq_true rfl) rfl (b_Fits_arrange ho1 e ⟨rfl, rfl⟩)
