def f_R_laysMeetings_L6 (x1 : Int32) (x2 : Int32) (x3 : Int32) (x4 : Int32) (h : pH) : Option ((Int32 × pH) ⊕ ((Int32 × pH) ⊕ ((Int32 × pH) ⊕ ((Int32 × pH) ⊕ pH)))) :=
  if x1 ≤ x4 then
    some (.inr (.inl ((x3 + 1), h)))
  else
    if x3 ≤ x4 then
      some (.inl ((x4 + 1), h))
    else
      if x4 = x2 then
        some (.inl ((x4 + 1), h))
      else
        (f_R_areAcross x4 x1 x3 x2 h).bind fun v_4 =>
        if v_4 = 0 then
          some (.inl ((x4 + 1), h))
        else
          (f_R_meets ((jshl 1 x4) ||| (jshl 1 x1)) ((jshl 1 x3) ||| (jshl 1 x2)) h).bind fun v_7 =>
          some (.inl ((x4 + 1), v_7))
set_option maxHeartbeats 4000000 in
theorem b_R_laysMeetings_L6 {E : pE} {r : Option Value} {hr : pH} {x1 : Int32} {x2 : Int32} {x3 : Int32} {x4 : Int32} {h : pH}  {b : ((Int32 × pH) ⊕ ((Int32 × pH) ⊕ ((Int32 × pH) ⊕ ((Int32 × pH) ⊕ pH))))} (e : f_R_laysMeetings_L6 x1 x2 x3 x4 h = some b) (k : (Sum.elim (fun s : (Int32 × pH) => Go E M_R_laysMeetings 124 [some (.ref 79), some (.int x1), some (.int x2), some (.int x3), some (.int s.1)] [] s.2 r hr) (Sum.elim (fun s : (Int32 × pH) => Go E M_R_laysMeetings 27 [some (.ref 79), some (.int x1), some (.int x2), some (.int s.1), none] [] s.2 r hr) (Sum.elim (fun s : (Int32 × pH) => Go E M_R_laysMeetings 17 [some (.ref 79), some (.int x1), some (.int s.1), none, none] [] s.2 r hr) (Sum.elim (fun s : (Int32 × pH) => Go E M_R_laysMeetings 7 [some (.ref 79), some (.int s.1), none, none, none] [] s.2 r hr) (fun v : pH => r = none ∧ hr = v))))) b) : Go E M_R_laysMeetings 124 [some (.ref 79), some (.int x1), some (.int x2), some (.int x3), some (.int x4)] [] h r hr := by
  unfold f_R_laysMeetings_L6 at e
  refine sl_ok ok_R_laysMeetings [.iload 4, .iload_n 1] (pc1 := 127) (ls1 := [some (.ref 79), some (.int x1), some (.int x2), some (.int x3), some (.int x4)]) (st1 := [.int x1, .int x4]) (h1 := h) (P := True) (by decide +kernel) rfl trivial ?_
  refine q_icmp_ge (off := 52) (tgt := 179) (by decide +kernel) (by decide) (fun c_1 => ?_) (fun c_1 => ?_)
  · have e := it_t c_1 e
    refine sl_ok ok_R_laysMeetings [.iinc 3 1] (pc1 := 182) (ls1 := [some (.ref 79), some (.int x1), some (.int x2), some (.int (x3 + 1)), some (.int x4)]) (st1 := []) (h1 := h) (P := True) (by decide +kernel) rfl trivial ?_
    refine q_goto (off := -155) (tgt := 27) (by decide) (by decide +kernel) ?_
    cases e
    refine Go.sb [some (.ref 79), some (.int x1), some (.int x2), some (.int (x3 + 1)), none] (And.intro rfl (And.intro rfl (And.intro rfl (And.intro rfl trivial)))) ?_
    exact k
  · have e := it_f c_1 e
    refine sl_ok ok_R_laysMeetings [.iload 4, .iload_n 3] (pc1 := 133) (ls1 := [some (.ref 79), some (.int x1), some (.int x2), some (.int x3), some (.int x4)]) (st1 := [.int x3, .int x4]) (h1 := h) (P := True) (by decide +kernel) rfl trivial ?_
    refine q_icmp_ge (off := 40) (tgt := 173) (by decide +kernel) (by decide) (fun c_2 => ?_) (fun c_2 => ?_)
    · have e := it_t c_2 e
      refine sl_ok ok_R_laysMeetings [.iinc 4 1] (pc1 := 176) (ls1 := [some (.ref 79), some (.int x1), some (.int x2), some (.int x3), some (.int (x4 + 1))]) (st1 := []) (h1 := h) (P := True) (by decide +kernel) rfl trivial ?_
      refine q_goto (off := -52) (tgt := 124) (by decide) (by decide +kernel) ?_
      cases e
      exact k
    · have e := it_f c_2 e
      refine sl_ok ok_R_laysMeetings [.iload 4, .iload_n 2] (pc1 := 139) (ls1 := [some (.ref 79), some (.int x1), some (.int x2), some (.int x3), some (.int x4)]) (st1 := [.int x2, .int x4]) (h1 := h) (P := True) (by decide +kernel) rfl trivial ?_
      refine q_icmp_eq (off := 34) (tgt := 173) (by decide +kernel) (by decide) (fun c_3 => ?_) (fun c_3 => ?_)
      · have e := it_t c_3 e
        refine sl_ok ok_R_laysMeetings [.iinc 4 1] (pc1 := 176) (ls1 := [some (.ref 79), some (.int x1), some (.int x2), some (.int x3), some (.int (x4 + 1))]) (st1 := []) (h1 := h) (P := True) (by decide +kernel) rfl trivial ?_
        refine q_goto (off := -52) (tgt := 124) (by decide) (by decide +kernel) ?_
        cases e
        exact k
      · have e := it_f c_3 e
        refine sl_ok ok_R_laysMeetings [.aload_n 0, .iload 4, .iload_n 1, .iload_n 3, .iload_n 2] (pc1 := 148) (ls1 := [some (.ref 79), some (.int x1), some (.int x2), some (.int x3), some (.int x4)]) (st1 := [.int x2, .int x3, .int x1, .int x4, .ref 79]) (h1 := h) (P := True) (by decide +kernel) rfl trivial ?_
        obtain ⟨v_4, e_5, e⟩ := bi_s e
        refine q_callV ok_R_areAcross (as := [.int x4, .int x1, .int x3, .int x2]) (st := []) ⟨wd_362, wd_363, wd_364, wd_7, ds_R_areAcross, Nat.le_of_ble_eq_true rfl, Nat.le_of_ble_eq_true rfl⟩ (s_R_areAcross  e_5) rfl ⟨rfl, rfl⟩ (ci := 12) rfl (fun v hv => by cases hv; rfl) (Nat.le_of_ble_eq_true rfl) (by decide +kernel) rfl ?_
        refine q_if_eq (off := 22) (tgt := 173) (by decide +kernel) (by decide) (fun c_6 => ?_) (fun c_6 => ?_)
        · have e := it_t c_6 e
          refine sl_ok ok_R_laysMeetings [.iinc 4 1] (pc1 := 176) (ls1 := [some (.ref 79), some (.int x1), some (.int x2), some (.int x3), some (.int (x4 + 1))]) (st1 := []) (h1 := h) (P := True) (by decide +kernel) rfl trivial ?_
          refine q_goto (off := -52) (tgt := 124) (by decide) (by decide +kernel) ?_
          cases e
          exact k
        · have e := it_f c_6 e
          refine sl_ok ok_R_laysMeetings [.aload_n 0, .iconst 1, .iload 4, .ishl, .iconst 1, .iload_n 1, .ishl, .ior, .iconst 1, .iload_n 3, .ishl, .iconst 1, .iload_n 2, .ishl, .ior] (pc1 := 170) (ls1 := [some (.ref 79), some (.int x1), some (.int x2), some (.int x3), some (.int x4)]) (st1 := [.int ((jshl 1 x3) ||| (jshl 1 x2)), .int ((jshl 1 x4) ||| (jshl 1 x1)), .ref 79]) (h1 := h) (P := True) (by decide +kernel) rfl trivial ?_
          obtain ⟨v_7, e_8, e⟩ := bi_s e
          refine q_callV ok_R_meets (as := [.int ((jshl 1 x4) ||| (jshl 1 x1)), .int ((jshl 1 x3) ||| (jshl 1 x2))]) (st := []) ⟨wd_365, wd_366, wd_367, wd_7, ds_R_meets, Nat.le_of_ble_eq_true rfl, Nat.le_of_ble_eq_true rfl⟩ (s_R_meets  e_8) rfl ⟨rfl, rfl⟩ (ci := 12) rfl (fun v hv => by cases hv) (Nat.le_of_ble_eq_true rfl) (by decide +kernel) rfl ?_
          refine sl_ok ok_R_laysMeetings [.iinc 4 1] (pc1 := 176) (ls1 := [some (.ref 79), some (.int x1), some (.int x2), some (.int x3), some (.int (x4 + 1))]) (st1 := []) (h1 := v_7) (P := True) (by decide +kernel) rfl trivial ?_
          refine q_goto (off := -52) (tgt := 124) (by decide) (by decide +kernel) ?_
          cases e
          exact k
def f_R_laysMeetings_L5 (x1 : Int32) (x2 : Int32) (x3 : Int32) (x4 : Int32) (h : pH) : Option ((Int32 × pH) ⊕ ((Int32 × pH) ⊕ ((Int32 × pH) ⊕ ((Int32 × pH) ⊕ pH)))) :=
  if x3 ≤ x4 then
    mi (lp (fun s => f_R_laysMeetings_L6 x1 x2 x3 s.1 s.2) lpN (0, h))
  else
    if x4 = x1 then
      some (.inl ((x4 + 1), h))
    else
      (f_R_isWithin x1 x2 x3 x4 h).bind fun v_3 =>
      if v_3 = 0 then
        some (.inl ((x4 + 1), h))
      else
        (f_R_meets (jshl 1 x1) (((jshl 1 x2) ||| (jshl 1 x3)) ||| (jshl 1 x4)) h).bind fun v_6 =>
        some (.inl ((x4 + 1), v_6))
set_option maxHeartbeats 4000000 in
theorem b_R_laysMeetings_L5 {E : pE} {r : Option Value} {hr : pH} {x1 : Int32} {x2 : Int32} {x3 : Int32} {x4 : Int32} {h : pH}  {b : ((Int32 × pH) ⊕ ((Int32 × pH) ⊕ ((Int32 × pH) ⊕ ((Int32 × pH) ⊕ pH))))} (e : f_R_laysMeetings_L5 x1 x2 x3 x4 h = some b) (k : (Sum.elim (fun s : (Int32 × pH) => Go E M_R_laysMeetings 72 [some (.ref 79), some (.int x1), some (.int x2), some (.int x3), some (.int s.1)] [] s.2 r hr) (Sum.elim (fun s : (Int32 × pH) => Go E M_R_laysMeetings 27 [some (.ref 79), some (.int x1), some (.int x2), some (.int s.1), none] [] s.2 r hr) (Sum.elim (fun s : (Int32 × pH) => Go E M_R_laysMeetings 17 [some (.ref 79), some (.int x1), some (.int s.1), none, none] [] s.2 r hr) (Sum.elim (fun s : (Int32 × pH) => Go E M_R_laysMeetings 7 [some (.ref 79), some (.int s.1), none, none, none] [] s.2 r hr) (fun v : pH => r = none ∧ hr = v))))) b) : Go E M_R_laysMeetings 72 [some (.ref 79), some (.int x1), some (.int x2), some (.int x3), some (.int x4)] [] h r hr := by
  unfold f_R_laysMeetings_L5 at e
  refine sl_ok ok_R_laysMeetings [.iload 4, .iload_n 3] (pc1 := 75) (ls1 := [some (.ref 79), some (.int x1), some (.int x2), some (.int x3), some (.int x4)]) (st1 := [.int x3, .int x4]) (h1 := h) (P := True) (by decide +kernel) rfl trivial ?_
  refine q_icmp_ge (off := 46) (tgt := 121) (by decide +kernel) (by decide) (fun c_1 => ?_) (fun c_1 => ?_)
  · have e := it_t c_1 e
    refine sl_ok ok_R_laysMeetings [.iconst 0, .istore 4] (pc1 := 124) (ls1 := [some (.ref 79), some (.int x1), some (.int x2), some (.int x3), some (.int 0)]) (st1 := []) (h1 := h) (P := True) (by decide +kernel) rfl trivial ?_
    obtain ⟨_, e9, rfl⟩ := mi_s e
    have e := e9
    exact lp_in e (fun s => Go E M_R_laysMeetings 124 [some (.ref 79), some (.int x1), some (.int x2), some (.int x3), some (.int s.1)] [] s.2 r hr) (Sum.elim (fun s : (Int32 × pH) => Go E M_R_laysMeetings 27 [some (.ref 79), some (.int x1), some (.int x2), some (.int s.1), none] [] s.2 r hr) (Sum.elim (fun s : (Int32 × pH) => Go E M_R_laysMeetings 17 [some (.ref 79), some (.int x1), some (.int s.1), none, none] [] s.2 r hr) (Sum.elim (fun s : (Int32 × pH) => Go E M_R_laysMeetings 7 [some (.ref 79), some (.int s.1), none, none, none] [] s.2 r hr) (fun v : pH => r = none ∧ hr = v)))) (fun _ _ e k => b_R_laysMeetings_L6  e k) k
  · have e := it_f c_1 e
    refine sl_ok ok_R_laysMeetings [.iload 4, .iload_n 1] (pc1 := 81) (ls1 := [some (.ref 79), some (.int x1), some (.int x2), some (.int x3), some (.int x4)]) (st1 := [.int x1, .int x4]) (h1 := h) (P := True) (by decide +kernel) rfl trivial ?_
    refine q_icmp_eq (off := 34) (tgt := 115) (by decide +kernel) (by decide) (fun c_2 => ?_) (fun c_2 => ?_)
    · have e := it_t c_2 e
      refine sl_ok ok_R_laysMeetings [.iinc 4 1] (pc1 := 118) (ls1 := [some (.ref 79), some (.int x1), some (.int x2), some (.int x3), some (.int (x4 + 1))]) (st1 := []) (h1 := h) (P := True) (by decide +kernel) rfl trivial ?_
      refine q_goto (off := -46) (tgt := 72) (by decide) (by decide +kernel) ?_
      cases e
      exact k
    · have e := it_f c_2 e
      refine sl_ok ok_R_laysMeetings [.aload_n 0, .iload_n 1, .iload_n 2, .iload_n 3, .iload 4] (pc1 := 90) (ls1 := [some (.ref 79), some (.int x1), some (.int x2), some (.int x3), some (.int x4)]) (st1 := [.int x4, .int x3, .int x2, .int x1, .ref 79]) (h1 := h) (P := True) (by decide +kernel) rfl trivial ?_
      obtain ⟨v_3, e_4, e⟩ := bi_s e
      refine q_callV ok_R_isWithin (as := [.int x1, .int x2, .int x3, .int x4]) (st := []) ⟨wd_368, wd_369, wd_370, wd_7, ds_R_isWithin, Nat.le_of_ble_eq_true rfl, Nat.le_of_ble_eq_true rfl⟩ (s_R_isWithin  e_4) rfl ⟨rfl, rfl⟩ (ci := 12) rfl (fun v hv => by cases hv; rfl) (Nat.le_of_ble_eq_true rfl) (by decide +kernel) rfl ?_
      refine q_if_eq (off := 22) (tgt := 115) (by decide +kernel) (by decide) (fun c_5 => ?_) (fun c_5 => ?_)
      · have e := it_t c_5 e
        refine sl_ok ok_R_laysMeetings [.iinc 4 1] (pc1 := 118) (ls1 := [some (.ref 79), some (.int x1), some (.int x2), some (.int x3), some (.int (x4 + 1))]) (st1 := []) (h1 := h) (P := True) (by decide +kernel) rfl trivial ?_
        refine q_goto (off := -46) (tgt := 72) (by decide) (by decide +kernel) ?_
        cases e
        exact k
      · have e := it_f c_5 e
        refine sl_ok ok_R_laysMeetings [.aload_n 0, .iconst 1, .iload_n 1, .ishl, .iconst 1, .iload_n 2, .ishl, .iconst 1, .iload_n 3, .ishl, .ior, .iconst 1, .iload 4, .ishl, .ior] (pc1 := 112) (ls1 := [some (.ref 79), some (.int x1), some (.int x2), some (.int x3), some (.int x4)]) (st1 := [.int (((jshl 1 x2) ||| (jshl 1 x3)) ||| (jshl 1 x4)), .int (jshl 1 x1), .ref 79]) (h1 := h) (P := True) (by decide +kernel) rfl trivial ?_
        obtain ⟨v_6, e_7, e⟩ := bi_s e
        refine q_callV ok_R_meets (as := [.int (jshl 1 x1), .int (((jshl 1 x2) ||| (jshl 1 x3)) ||| (jshl 1 x4))]) (st := []) ⟨wd_365, wd_366, wd_367, wd_7, ds_R_meets, Nat.le_of_ble_eq_true rfl, Nat.le_of_ble_eq_true rfl⟩ (s_R_meets  e_7) rfl ⟨rfl, rfl⟩ (ci := 12) rfl (fun v hv => by cases hv) (Nat.le_of_ble_eq_true rfl) (by decide +kernel) rfl ?_
        refine sl_ok ok_R_laysMeetings [.iinc 4 1] (pc1 := 118) (ls1 := [some (.ref 79), some (.int x1), some (.int x2), some (.int x3), some (.int (x4 + 1))]) (st1 := []) (h1 := v_6) (P := True) (by decide +kernel) rfl trivial ?_
        refine q_goto (off := -46) (tgt := 72) (by decide) (by decide +kernel) ?_
        cases e
        exact k
def f_R_laysMeetings_J4 (x1 : Int32) (x2 : Int32) (x3 : Int32) (h : pH) : Option ((Int32 × pH) ⊕ ((Int32 × pH) ⊕ ((Int32 × pH) ⊕ pH))) :=
  if x1 = x2 then
    some (.inl ((x3 + 1), h))
  else
    if x1 = x3 then
      some (.inl ((x3 + 1), h))
    else
      lp (fun s => f_R_laysMeetings_L5 x1 x2 x3 s.1 s.2) lpN (0, h)
set_option maxHeartbeats 4000000 in
theorem b_R_laysMeetings_J4 {E : pE} {r : Option Value} {hr : pH} {x1 : Int32} {x2 : Int32} {x3 : Int32} {h : pH}  {b : ((Int32 × pH) ⊕ ((Int32 × pH) ⊕ ((Int32 × pH) ⊕ pH)))} (e : f_R_laysMeetings_J4 x1 x2 x3 h = some b) (k : (Sum.elim (fun s : (Int32 × pH) => Go E M_R_laysMeetings 27 [some (.ref 79), some (.int x1), some (.int x2), some (.int s.1), none] [] s.2 r hr) (Sum.elim (fun s : (Int32 × pH) => Go E M_R_laysMeetings 17 [some (.ref 79), some (.int x1), some (.int s.1), none, none] [] s.2 r hr) (Sum.elim (fun s : (Int32 × pH) => Go E M_R_laysMeetings 7 [some (.ref 79), some (.int s.1), none, none, none] [] s.2 r hr) (fun v : pH => r = none ∧ hr = v)))) b) : Go E M_R_laysMeetings 56 [some (.ref 79), some (.int x1), some (.int x2), some (.int x3), none] [] h r hr := by
  unfold f_R_laysMeetings_J4 at e
  refine sl_ok ok_R_laysMeetings [.iload_n 1, .iload_n 2] (pc1 := 58) (ls1 := [some (.ref 79), some (.int x1), some (.int x2), some (.int x3), none]) (st1 := [.int x2, .int x1]) (h1 := h) (P := True) (by decide +kernel) rfl trivial ?_
  refine q_icmp_eq (off := 121) (tgt := 179) (by decide +kernel) (by decide) (fun c_1 => ?_) (fun c_1 => ?_)
  · have e := it_t c_1 e
    refine sl_ok ok_R_laysMeetings [.iinc 3 1] (pc1 := 182) (ls1 := [some (.ref 79), some (.int x1), some (.int x2), some (.int (x3 + 1)), none]) (st1 := []) (h1 := h) (P := True) (by decide +kernel) rfl trivial ?_
    refine q_goto (off := -155) (tgt := 27) (by decide) (by decide +kernel) ?_
    cases e
    exact k
  · have e := it_f c_1 e
    refine sl_ok ok_R_laysMeetings [.iload_n 1, .iload_n 3] (pc1 := 63) (ls1 := [some (.ref 79), some (.int x1), some (.int x2), some (.int x3), none]) (st1 := [.int x3, .int x1]) (h1 := h) (P := True) (by decide +kernel) rfl trivial ?_
    refine q_icmp_ne (off := 6) (tgt := 69) (by decide +kernel) (by decide) (fun c_2 => ?_) (fun c_2 => ?_)
    · have e := it_f c_2 e
      refine sl_ok ok_R_laysMeetings [.iconst 0, .istore 4] (pc1 := 72) (ls1 := [some (.ref 79), some (.int x1), some (.int x2), some (.int x3), some (.int 0)]) (st1 := []) (h1 := h) (P := True) (by decide +kernel) rfl trivial ?_
      exact lp_in e (fun s => Go E M_R_laysMeetings 72 [some (.ref 79), some (.int x1), some (.int x2), some (.int x3), some (.int s.1)] [] s.2 r hr) (Sum.elim (fun s : (Int32 × pH) => Go E M_R_laysMeetings 27 [some (.ref 79), some (.int x1), some (.int x2), some (.int s.1), none] [] s.2 r hr) (Sum.elim (fun s : (Int32 × pH) => Go E M_R_laysMeetings 17 [some (.ref 79), some (.int x1), some (.int s.1), none, none] [] s.2 r hr) (Sum.elim (fun s : (Int32 × pH) => Go E M_R_laysMeetings 7 [some (.ref 79), some (.int s.1), none, none, none] [] s.2 r hr) (fun v : pH => r = none ∧ hr = v)))) (fun _ _ e k => b_R_laysMeetings_L5  e k) k
    · have e := it_t c_2 e
      refine q_goto (off := 113) (tgt := 179) (by decide) (by decide +kernel) ?_
      refine sl_ok ok_R_laysMeetings [.iinc 3 1] (pc1 := 182) (ls1 := [some (.ref 79), some (.int x1), some (.int x2), some (.int (x3 + 1)), none]) (st1 := []) (h1 := h) (P := True) (by decide +kernel) rfl trivial ?_
      refine q_goto (off := -155) (tgt := 27) (by decide) (by decide +kernel) ?_
      cases e
      exact k
def f_R_laysMeetings_L3 (x1 : Int32) (x2 : Int32) (x3 : Int32) (h : pH) : Option ((Int32 × pH) ⊕ ((Int32 × pH) ⊕ ((Int32 × pH) ⊕ pH))) :=
  if x2 ≤ x3 then
    some (.inr (.inl ((x2 + 1), h)))
  else
    (f_R_isBetween x1 x2 x3 h).bind fun v_2 =>
    if v_2 = 0 then
      f_R_laysMeetings_J4 x1 x2 x3 h
    else
      (f_R_meets (jshl 1 x1) ((jshl 1 x2) ||| (jshl 1 x3)) h).bind fun v_5 =>
      f_R_laysMeetings_J4 x1 x2 x3 v_5
set_option maxHeartbeats 4000000 in
theorem b_R_laysMeetings_L3 {E : pE} {r : Option Value} {hr : pH} {x1 : Int32} {x2 : Int32} {x3 : Int32} {h : pH}  {b : ((Int32 × pH) ⊕ ((Int32 × pH) ⊕ ((Int32 × pH) ⊕ pH)))} (e : f_R_laysMeetings_L3 x1 x2 x3 h = some b) (k : (Sum.elim (fun s : (Int32 × pH) => Go E M_R_laysMeetings 27 [some (.ref 79), some (.int x1), some (.int x2), some (.int s.1), none] [] s.2 r hr) (Sum.elim (fun s : (Int32 × pH) => Go E M_R_laysMeetings 17 [some (.ref 79), some (.int x1), some (.int s.1), none, none] [] s.2 r hr) (Sum.elim (fun s : (Int32 × pH) => Go E M_R_laysMeetings 7 [some (.ref 79), some (.int s.1), none, none, none] [] s.2 r hr) (fun v : pH => r = none ∧ hr = v)))) b) : Go E M_R_laysMeetings 27 [some (.ref 79), some (.int x1), some (.int x2), some (.int x3), none] [] h r hr := by
  unfold f_R_laysMeetings_L3 at e
  refine sl_ok ok_R_laysMeetings [.iload_n 3, .iload_n 2] (pc1 := 29) (ls1 := [some (.ref 79), some (.int x1), some (.int x2), some (.int x3), none]) (st1 := [.int x2, .int x3]) (h1 := h) (P := True) (by decide +kernel) rfl trivial ?_
  refine q_icmp_ge (off := 156) (tgt := 185) (by decide +kernel) (by decide) (fun c_1 => ?_) (fun c_1 => ?_)
  · have e := it_t c_1 e
    refine sl_ok ok_R_laysMeetings [.iinc 2 1] (pc1 := 188) (ls1 := [some (.ref 79), some (.int x1), some (.int (x2 + 1)), some (.int x3), none]) (st1 := []) (h1 := h) (P := True) (by decide +kernel) rfl trivial ?_
    refine q_goto (off := -171) (tgt := 17) (by decide) (by decide +kernel) ?_
    cases e
    refine Go.sb [some (.ref 79), some (.int x1), some (.int (x2 + 1)), none, none] (And.intro rfl (And.intro rfl (And.intro rfl trivial))) ?_
    exact k
  · have e := it_f c_1 e
    refine sl_ok ok_R_laysMeetings [.aload_n 0, .iload_n 1, .iload_n 2, .iload_n 3] (pc1 := 36) (ls1 := [some (.ref 79), some (.int x1), some (.int x2), some (.int x3), none]) (st1 := [.int x3, .int x2, .int x1, .ref 79]) (h1 := h) (P := True) (by decide +kernel) rfl trivial ?_
    obtain ⟨v_2, e_3, e⟩ := bi_s e
    refine q_callV ok_R_isBetween (as := [.int x1, .int x2, .int x3]) (st := []) ⟨wd_277, wd_278, wd_279, wd_7, ds_R_isBetween, Nat.le_of_ble_eq_true rfl, Nat.le_of_ble_eq_true rfl⟩ (s_R_isBetween  e_3) rfl ⟨rfl, rfl⟩ (ci := 12) rfl (fun v hv => by cases hv; rfl) (Nat.le_of_ble_eq_true rfl) (by decide +kernel) rfl ?_
    refine q_if_eq (off := 17) (tgt := 56) (by decide +kernel) (by decide) (fun c_4 => ?_) (fun c_4 => ?_)
    · have e := it_t c_4 e
      exact b_R_laysMeetings_J4  e k
    · have e := it_f c_4 e
      refine sl_ok ok_R_laysMeetings [.aload_n 0, .iconst 1, .iload_n 1, .ishl, .iconst 1, .iload_n 2, .ishl, .iconst 1, .iload_n 3, .ishl, .ior] (pc1 := 53) (ls1 := [some (.ref 79), some (.int x1), some (.int x2), some (.int x3), none]) (st1 := [.int ((jshl 1 x2) ||| (jshl 1 x3)), .int (jshl 1 x1), .ref 79]) (h1 := h) (P := True) (by decide +kernel) rfl trivial ?_
      obtain ⟨v_5, e_6, e⟩ := bi_s e
      refine q_callV ok_R_meets (as := [.int (jshl 1 x1), .int ((jshl 1 x2) ||| (jshl 1 x3))]) (st := []) ⟨wd_365, wd_366, wd_367, wd_7, ds_R_meets, Nat.le_of_ble_eq_true rfl, Nat.le_of_ble_eq_true rfl⟩ (s_R_meets  e_6) rfl ⟨rfl, rfl⟩ (ci := 12) rfl (fun v hv => by cases hv) (Nat.le_of_ble_eq_true rfl) (by decide +kernel) rfl ?_
      exact b_R_laysMeetings_J4  e k
def f_R_laysMeetings_L2 (x1 : Int32) (x2 : Int32) (h : pH) : Option ((Int32 × pH) ⊕ ((Int32 × pH) ⊕ pH)) :=
  if (f_R_all h) ≤ x2 then
    some (.inr (.inl ((x1 + 1), h)))
  else
    lp (fun s => f_R_laysMeetings_L3 x1 x2 s.1 s.2) lpN (0, h)
set_option maxHeartbeats 4000000 in
theorem b_R_laysMeetings_L2 {E : pE} {r : Option Value} {hr : pH} {x1 : Int32} {x2 : Int32} {h : pH}  {b : ((Int32 × pH) ⊕ ((Int32 × pH) ⊕ pH))} (e : f_R_laysMeetings_L2 x1 x2 h = some b) (k : (Sum.elim (fun s : (Int32 × pH) => Go E M_R_laysMeetings 17 [some (.ref 79), some (.int x1), some (.int s.1), none, none] [] s.2 r hr) (Sum.elim (fun s : (Int32 × pH) => Go E M_R_laysMeetings 7 [some (.ref 79), some (.int s.1), none, none, none] [] s.2 r hr) (fun v : pH => r = none ∧ hr = v))) b) : Go E M_R_laysMeetings 17 [some (.ref 79), some (.int x1), some (.int x2), none, none] [] h r hr := by
  unfold f_R_laysMeetings_L2 at e
  refine sl_ok ok_R_laysMeetings [.iload_n 2, .aload_n 0] (pc1 := 19) (ls1 := [some (.ref 79), some (.int x1), some (.int x2), none, none]) (st1 := [.ref 79, .int x2]) (h1 := h) (P := True) (by decide +kernel) rfl trivial ?_
  refine q_callV ok_R_all (as := []) (st := [.int x2]) ⟨wd_151, wd_152, wd_153, wd_7, ds_R_all, Nat.le_of_ble_eq_true rfl, Nat.le_of_ble_eq_true rfl⟩ (s_R_all ) rfl ⟨rfl, rfl⟩ (ci := 12) rfl (fun v hv => by cases hv; rfl) (Nat.le_of_ble_eq_true rfl) (by decide +kernel) rfl ?_
  refine q_icmp_ge (off := 169) (tgt := 191) (by decide +kernel) (by decide) (fun c_1 => ?_) (fun c_1 => ?_)
  · have e := it_t c_1 e
    refine sl_ok ok_R_laysMeetings [.iinc 1 1] (pc1 := 194) (ls1 := [some (.ref 79), some (.int (x1 + 1)), some (.int x2), none, none]) (st1 := []) (h1 := h) (P := True) (by decide +kernel) rfl trivial ?_
    refine q_goto (off := -187) (tgt := 7) (by decide) (by decide +kernel) ?_
    cases e
    refine Go.sb [some (.ref 79), some (.int (x1 + 1)), none, none, none] (And.intro rfl (And.intro rfl trivial)) ?_
    exact k
  · have e := it_f c_1 e
    refine sl_ok ok_R_laysMeetings [.iconst 0, .istore_n 3] (pc1 := 27) (ls1 := [some (.ref 79), some (.int x1), some (.int x2), some (.int 0), none]) (st1 := []) (h1 := h) (P := True) (by decide +kernel) rfl trivial ?_
    exact lp_in e (fun s => Go E M_R_laysMeetings 27 [some (.ref 79), some (.int x1), some (.int x2), some (.int s.1), none] [] s.2 r hr) (Sum.elim (fun s : (Int32 × pH) => Go E M_R_laysMeetings 17 [some (.ref 79), some (.int x1), some (.int s.1), none, none] [] s.2 r hr) (Sum.elim (fun s : (Int32 × pH) => Go E M_R_laysMeetings 7 [some (.ref 79), some (.int s.1), none, none, none] [] s.2 r hr) (fun v : pH => r = none ∧ hr = v))) (fun _ _ e k => b_R_laysMeetings_L3  e k) k
def f_R_laysMeetings_L1 (x1 : Int32) (h : pH) : Option ((Int32 × pH) ⊕ pH) :=
  if (f_R_all h) ≤ x1 then
    some (.inr h)
  else
    lp (fun s => f_R_laysMeetings_L2 x1 s.1 s.2) lpN (0, h)
set_option maxHeartbeats 4000000 in
theorem b_R_laysMeetings_L1 {E : pE} {r : Option Value} {hr : pH} {x1 : Int32} {h : pH}  {b : ((Int32 × pH) ⊕ pH)} (e : f_R_laysMeetings_L1 x1 h = some b) (k : (Sum.elim (fun s : (Int32 × pH) => Go E M_R_laysMeetings 7 [some (.ref 79), some (.int s.1), none, none, none] [] s.2 r hr) (fun v : pH => r = none ∧ hr = v)) b) : Go E M_R_laysMeetings 7 [some (.ref 79), some (.int x1), none, none, none] [] h r hr := by
  unfold f_R_laysMeetings_L1 at e
  refine sl_ok ok_R_laysMeetings [.iload_n 1, .aload_n 0] (pc1 := 9) (ls1 := [some (.ref 79), some (.int x1), none, none, none]) (st1 := [.ref 79, .int x1]) (h1 := h) (P := True) (by decide +kernel) rfl trivial ?_
  refine q_callV ok_R_all (as := []) (st := [.int x1]) ⟨wd_151, wd_152, wd_153, wd_7, ds_R_all, Nat.le_of_ble_eq_true rfl, Nat.le_of_ble_eq_true rfl⟩ (s_R_all ) rfl ⟨rfl, rfl⟩ (ci := 12) rfl (fun v hv => by cases hv; rfl) (Nat.le_of_ble_eq_true rfl) (by decide +kernel) rfl ?_
  refine q_icmp_ge (off := 185) (tgt := 197) (by decide +kernel) (by decide) (fun c_1 => ?_) (fun c_1 => ?_)
  · have e := it_t c_1 e
    cases e
    exact q_vret rfl k.1 k.2 (by decide +kernel)
  · have e := it_f c_1 e
    refine sl_ok ok_R_laysMeetings [.iconst 0, .istore_n 2] (pc1 := 17) (ls1 := [some (.ref 79), some (.int x1), some (.int 0), none, none]) (st1 := []) (h1 := h) (P := True) (by decide +kernel) rfl trivial ?_
    exact lp_in e (fun s => Go E M_R_laysMeetings 17 [some (.ref 79), some (.int x1), some (.int s.1), none, none] [] s.2 r hr) (Sum.elim (fun s : (Int32 × pH) => Go E M_R_laysMeetings 7 [some (.ref 79), some (.int s.1), none, none, none] [] s.2 r hr) (fun v : pH => r = none ∧ hr = v)) (fun _ _ e k => b_R_laysMeetings_L2  e k) k
def f_R_laysMeetings (h : pH) : Option pH :=
  lp (fun s => f_R_laysMeetings_L1 s.1 s.2) lpN (0, (sI h 79 31 0))
set_option maxHeartbeats 4000000 in
theorem b_R_laysMeetings {E : pE} {r : Option Value} {hr : pH} {h : pH}  {b : pH} (e : f_R_laysMeetings h = some b) (k : (fun v : pH => r = none ∧ hr = v) b) : Go E M_R_laysMeetings 0 [some (.ref 79), none, none, none, none] [] h r hr := by
  unfold f_R_laysMeetings at e
  refine sl_ok ok_R_laysMeetings [.aload_n 0, .iconst 0, .putfield 258, .iconst 0, .istore_n 1] (pc1 := 7) (ls1 := [some (.ref 79), some (.int 0), none, none, none]) (st1 := []) (h1 := (sI h 79 31 0)) (P := (ak 79 = 0 ∧ cx 79 = 12) ∧ True) (by decide +kernel) rfl ⟨⟨rfl, rfl⟩, trivial⟩ ?_
  exact lp_in e (fun s => Go E M_R_laysMeetings 7 [some (.ref 79), some (.int s.1), none, none, none] [] s.2 r hr) (fun v : pH => r = none ∧ hr = v) (fun _ _ e k => b_R_laysMeetings_L1  e k) k
theorem s_R_laysMeetings {E : pE} {h : pH}  {v : pH} (e : f_R_laysMeetings h = some v) : Ct E M_R_laysMeetings [.ref 79] h none v :=
  Ct_of ok_R_laysMeetings [some (.ref 79), none, none, none, none] (Nat.le_of_ble_eq_true rfl) rfl (b_R_laysMeetings  e ⟨rfl, rfl⟩)
def f_R_areParted_J2 (x1 : Int32) (x2 : Int32) (x3 : Int32) (x4 : Int32) (h : pH) : Option (Int32 ⊕ Int32) :=
  if (x3 &&& x1) = 0 then
    if (x4 &&& x1) = x4 then
      some (.inr 0)
    else
      some (.inl (x2 + 1))
  else
    some (.inl (x2 + 1))
set_option maxHeartbeats 4000000 in
theorem b_R_areParted_J2 {E : pE} {r : Option Value} {hr : pH} {x1 : Int32} {x2 : Int32} {x3 : Int32} {x4 : Int32} {h : pH}  {b : (Int32 ⊕ Int32)} (e : f_R_areParted_J2 x1 x2 x3 x4 h = some b) (k : (Sum.elim (fun s : Int32 => Go E M_R_areParted 2 [some (.ref 79), some (.int x1), some (.int s), none, none] [] h r hr) (fun v : Int32 => r = some (.int v) ∧ hr = h)) b) : Go E M_R_areParted 39 [some (.ref 79), some (.int x1), some (.int x2), some (.int x3), some (.int x4)] [] h r hr := by
  unfold f_R_areParted_J2 at e
  refine sl_ok ok_R_areParted [.iload_n 3, .iload_n 1, .iand] (pc1 := 42) (ls1 := [some (.ref 79), some (.int x1), some (.int x2), some (.int x3), some (.int x4)]) (st1 := [.int (x3 &&& x1)]) (h1 := h) (P := True) (by decide +kernel) rfl trivial ?_
  refine q_if_ne (off := 14) (tgt := 56) (by decide +kernel) (by decide) (fun c_1 => ?_) (fun c_1 => ?_)
  · have e := it_f c_1 e
    refine sl_ok ok_R_areParted [.iinc 2 1] (pc1 := 59) (ls1 := [some (.ref 79), some (.int x1), some (.int (x2 + 1)), some (.int x3), some (.int x4)]) (st1 := []) (h1 := h) (P := True) (by decide +kernel) rfl trivial ?_
    refine q_goto (off := -57) (tgt := 2) (by decide) (by decide +kernel) ?_
    cases e
    refine Go.sb [some (.ref 79), some (.int x1), some (.int (x2 + 1)), none, none] (And.intro rfl (And.intro rfl (And.intro rfl trivial))) ?_
    exact k
  · have e := it_t c_1 e
    refine sl_ok ok_R_areParted [.iload 4, .iload_n 1, .iand, .iload 4] (pc1 := 51) (ls1 := [some (.ref 79), some (.int x1), some (.int x2), some (.int x3), some (.int x4)]) (st1 := [.int x4, .int (x4 &&& x1)]) (h1 := h) (P := True) (by decide +kernel) rfl trivial ?_
    refine q_icmp_ne (off := 5) (tgt := 56) (by decide +kernel) (by decide) (fun c_2 => ?_) (fun c_2 => ?_)
    · have e := it_f c_2 e
      refine sl_ok ok_R_areParted [.iinc 2 1] (pc1 := 59) (ls1 := [some (.ref 79), some (.int x1), some (.int (x2 + 1)), some (.int x3), some (.int x4)]) (st1 := []) (h1 := h) (P := True) (by decide +kernel) rfl trivial ?_
      refine q_goto (off := -57) (tgt := 2) (by decide) (by decide +kernel) ?_
      cases e
      refine Go.sb [some (.ref 79), some (.int x1), some (.int (x2 + 1)), none, none] (And.intro rfl (And.intro rfl (And.intro rfl trivial))) ?_
      exact k
    · have e := it_t c_2 e
      refine sl_ok ok_R_areParted [.iconst 0] (pc1 := 55) (ls1 := [some (.ref 79), some (.int x1), some (.int x2), some (.int x3), some (.int x4)]) (st1 := [.int 0]) (h1 := h) (P := True) (by decide +kernel) rfl trivial ?_
      cases e
      exact q_zret rfl (Or.inl rfl) k.1 k.2 (by decide +kernel)
def f_R_areParted_L1 (x1 : Int32) (h : pH) (x2 : Int32) : Option (Int32 ⊕ Int32) :=
  if (hI h 79 31) ≤ x2 then
    some (.inr 1)
  else
    if x2 < 0 ∨ 900 ≤ x2.toNatClampNeg then none else
    if ((hI h 96 x2.toNatClampNeg) &&& x1) = (hI h 96 x2.toNatClampNeg) then
      if ((hI h 97 x2.toNatClampNeg) &&& x1) = 0 then
        some (.inr 0)
      else
        f_R_areParted_J2 x1 x2 (hI h 96 x2.toNatClampNeg) (hI h 97 x2.toNatClampNeg) h
    else
      f_R_areParted_J2 x1 x2 (hI h 96 x2.toNatClampNeg) (hI h 97 x2.toNatClampNeg) h
set_option maxHeartbeats 4000000 in
theorem b_R_areParted_L1 {E : pE} {r : Option Value} {hr : pH} {x1 : Int32} {h : pH} {x2 : Int32}  {b : (Int32 ⊕ Int32)} (e : f_R_areParted_L1 x1 h x2 = some b) (k : (Sum.elim (fun s : Int32 => Go E M_R_areParted 2 [some (.ref 79), some (.int x1), some (.int s), none, none] [] h r hr) (fun v : Int32 => r = some (.int v) ∧ hr = h)) b) : Go E M_R_areParted 2 [some (.ref 79), some (.int x1), some (.int x2), none, none] [] h r hr := by
  unfold f_R_areParted_L1 at e
  refine sl_ok ok_R_areParted [.iload_n 2, .aload_n 0, .getfield 258] (pc1 := 7) (ls1 := [some (.ref 79), some (.int x1), some (.int x2), none, none]) (st1 := [.int (hI h 79 31), .int x2]) (h1 := h) (P := (ak 79 = 0 ∧ cx 79 = 12) ∧ True) (by decide +kernel) rfl ⟨⟨rfl, rfl⟩, trivial⟩ ?_
  refine q_icmp_ge (off := 55) (tgt := 62) (by decide +kernel) (by decide) (fun c_1 => ?_) (fun c_1 => ?_)
  · have e := it_t c_1 e
    refine sl_ok ok_R_areParted [.iconst 1] (pc1 := 63) (ls1 := [some (.ref 79), some (.int x1), some (.int x2), none, none]) (st1 := [.int 1]) (h1 := h) (P := True) (by decide +kernel) rfl trivial ?_
    cases e
    exact q_zret rfl (Or.inr rfl) k.1 k.2 (by decide +kernel)
  · have e := it_f c_1 e
    obtain ⟨g_2, e⟩ := it_g e
    refine sl_ok ok_R_areParted [.aload_n 0, .getfield 68, .iload_n 2, .iaload, .istore_n 3, .aload_n 0, .getfield 71, .iload_n 2, .iaload, .istore 4, .iload_n 3, .iload_n 1, .iand, .iload_n 3] (pc1 := 29) (ls1 := [some (.ref 79), some (.int x1), some (.int x2), some (.int (hI h 96 x2.toNatClampNeg)), some (.int (hI h 97 x2.toNatClampNeg))]) (st1 := [.int (hI h 96 x2.toNatClampNeg), .int ((hI h 96 x2.toNatClampNeg) &&& x1)]) (h1 := h) (P := (ak 79 = 0 ∧ cx 79 = 12) ∧ (ak 96 = 1 ∧ ¬ (x2 < 0 ∨ cx 96 ≤ x2.toNatClampNeg)) ∧ (ak 79 = 0 ∧ cx 79 = 12) ∧ (ak 97 = 1 ∧ ¬ (x2 < 0 ∨ cx 97 ≤ x2.toNatClampNeg)) ∧ True) (by decide +kernel) rfl ⟨⟨rfl, rfl⟩, ⟨rfl, g_2⟩, ⟨rfl, rfl⟩, ⟨rfl, g_2⟩, trivial⟩ ?_
    refine q_icmp_ne (off := 10) (tgt := 39) (by decide +kernel) (by decide) (fun c_3 => ?_) (fun c_3 => ?_)
    · have e := it_f c_3 e
      exact b_R_areParted_J2  e k
    · have e := it_t c_3 e
      refine sl_ok ok_R_areParted [.iload 4, .iload_n 1, .iand] (pc1 := 36) (ls1 := [some (.ref 79), some (.int x1), some (.int x2), some (.int (hI h 96 x2.toNatClampNeg)), some (.int (hI h 97 x2.toNatClampNeg))]) (st1 := [.int ((hI h 97 x2.toNatClampNeg) &&& x1)]) (h1 := h) (P := True) (by decide +kernel) rfl trivial ?_
      refine q_if_eq (off := 18) (tgt := 54) (by decide +kernel) (by decide) (fun c_4 => ?_) (fun c_4 => ?_)
      · have e := it_t c_4 e
        refine sl_ok ok_R_areParted [.iconst 0] (pc1 := 55) (ls1 := [some (.ref 79), some (.int x1), some (.int x2), some (.int (hI h 96 x2.toNatClampNeg)), some (.int (hI h 97 x2.toNatClampNeg))]) (st1 := [.int 0]) (h1 := h) (P := True) (by decide +kernel) rfl trivial ?_
        cases e
        exact q_zret rfl (Or.inl rfl) k.1 k.2 (by decide +kernel)
      · have e := it_f c_4 e
        exact b_R_areParted_J2  e k
def f_R_areParted (x1 : Int32) (h : pH) : Option Int32 :=
  lp (fun s => f_R_areParted_L1 x1 h s) lpN 0
set_option maxHeartbeats 4000000 in
theorem b_R_areParted {E : pE} {r : Option Value} {hr : pH} {x1 : Int32} {h : pH}  {b : Int32} (e : f_R_areParted x1 h = some b) (k : (fun v : Int32 => r = some (.int v) ∧ hr = h) b) : Go E M_R_areParted 0 [some (.ref 79), some (.int x1), none, none, none] [] h r hr := by
  unfold f_R_areParted at e
  refine sl_ok ok_R_areParted [.iconst 0, .istore_n 2] (pc1 := 2) (ls1 := [some (.ref 79), some (.int x1), some (.int 0), none, none]) (st1 := []) (h1 := h) (P := True) (by decide +kernel) rfl trivial ?_
  exact lp_in e (fun s => Go E M_R_areParted 2 [some (.ref 79), some (.int x1), some (.int s), none, none] [] h r hr) (fun v : Int32 => r = some (.int v) ∧ hr = h) (fun _ _ e k => b_R_areParted_L1  e k) k
theorem s_R_areParted {E : pE} {x1 : Int32} {h : pH}  {v : Int32} (e : f_R_areParted x1 h = some v) : Ct E M_R_areParted [.ref 79, .int x1] h (some (.int v)) h :=
  Ct_of ok_R_areParted [some (.ref 79), some (.int x1), none, none, none] (Nat.le_of_ble_eq_true rfl) rfl (b_R_areParted  e ⟨rfl, rfl⟩)
def f_R_cutOff_L1 (x1 : Int32) (h : pH) (x2 : Int32) (x3 : Int32) : Option ((Int32 × Int32) ⊕ (Int32 × pH)) :=
  if (f_R_full h) < x3 then
    some (.inr (x2, h))
  else
    (f_R_bitsOf x3).bind fun v_2 =>
    if v_2 = x1 then
      (f_R_areParted x3 h).bind fun v_5 =>
      if v_5 = 0 then
        some (.inl (x2, (x3 + 1)))
      else
        some (.inl ((x2 + 1), (x3 + 1)))
    else
      some (.inl (x2, (x3 + 1)))
set_option maxHeartbeats 4000000 in
theorem b_R_cutOff_L1 {E : pE} {r : Option Value} {hr : pH} {x1 : Int32} {h : pH} {x2 : Int32} {x3 : Int32}  {b : ((Int32 × Int32) ⊕ (Int32 × pH))} (e : f_R_cutOff_L1 x1 h x2 x3 = some b) (k : (Sum.elim (fun s : (Int32 × Int32) => Go E M_R_cutOff 8 [some (.ref 79), some (.int x1), some (.int s.1), some (.int s.2)] [] h r hr) (fun v : (Int32 × pH) => r = some (.int v.1) ∧ hr = v.2)) b) : Go E M_R_cutOff 8 [some (.ref 79), some (.int x1), some (.int x2), some (.int x3)] [] h r hr := by
  unfold f_R_cutOff_L1 at e
  refine sl_ok ok_R_cutOff [.iload_n 3, .aload_n 0] (pc1 := 10) (ls1 := [some (.ref 79), some (.int x1), some (.int x2), some (.int x3)]) (st1 := [.ref 79, .int x3]) (h1 := h) (P := True) (by decide +kernel) rfl trivial ?_
  refine q_callV ok_R_full (as := []) (st := [.int x3]) ⟨wd_266, wd_267, wd_268, wd_7, ds_R_full, Nat.le_of_ble_eq_true rfl, Nat.le_of_ble_eq_true rfl⟩ (s_R_full ) rfl ⟨rfl, rfl⟩ (ci := 12) rfl (fun v hv => by cases hv; rfl) (Nat.le_of_ble_eq_true rfl) (by decide +kernel) rfl ?_
  refine q_icmp_gt (off := 28) (tgt := 41) (by decide +kernel) (by decide) (fun c_1 => ?_) (fun c_1 => ?_)
  · have e := it_t c_1 e
    refine sl_ok ok_R_cutOff [.iload_n 2] (pc1 := 42) (ls1 := [some (.ref 79), some (.int x1), some (.int x2), some (.int x3)]) (st1 := [.int x2]) (h1 := h) (P := True) (by decide +kernel) rfl trivial ?_
    cases e
    exact q_iret rfl k.1 k.2 (by decide +kernel)
  · have e := it_f c_1 e
    refine sl_ok ok_R_cutOff [.iload_n 3] (pc1 := 17) (ls1 := [some (.ref 79), some (.int x1), some (.int x2), some (.int x3)]) (st1 := [.int x3]) (h1 := h) (P := True) (by decide +kernel) rfl trivial ?_
    obtain ⟨v_2, e_3, e⟩ := bi_s e
    refine q_callS ok_R_bitsOf (as := [.int x3]) (st := []) ⟨wd_304, wd_305, wd_7, ds_R_bitsOf, Nat.le_of_ble_eq_true rfl, Nat.le_of_ble_eq_true rfl⟩ (s_R_bitsOf  e_3) rfl (fun v hv => by cases hv; rfl) (Nat.le_of_ble_eq_true rfl) (by decide +kernel) rfl ?_
    refine sl_ok ok_R_cutOff [.iload_n 1] (pc1 := 21) (ls1 := [some (.ref 79), some (.int x1), some (.int x2), some (.int x3)]) (st1 := [.int x1, .int v_2]) (h1 := h) (P := True) (by decide +kernel) rfl trivial ?_
    refine q_icmp_ne (off := 14) (tgt := 35) (by decide +kernel) (by decide) (fun c_4 => ?_) (fun c_4 => ?_)
    · have e := it_f c_4 e
      refine sl_ok ok_R_cutOff [.iinc 3 1] (pc1 := 38) (ls1 := [some (.ref 79), some (.int x1), some (.int x2), some (.int (x3 + 1))]) (st1 := []) (h1 := h) (P := True) (by decide +kernel) rfl trivial ?_
      refine q_goto (off := -30) (tgt := 8) (by decide) (by decide +kernel) ?_
      cases e
      exact k
    · have e := it_t c_4 e
      refine sl_ok ok_R_cutOff [.aload_n 0, .iload_n 3] (pc1 := 26) (ls1 := [some (.ref 79), some (.int x1), some (.int x2), some (.int x3)]) (st1 := [.int x3, .ref 79]) (h1 := h) (P := True) (by decide +kernel) rfl trivial ?_
      obtain ⟨v_5, e_6, e⟩ := bi_s e
      refine q_callV ok_R_areParted (as := [.int x3]) (st := []) ⟨wd_374, wd_375, wd_376, wd_7, ds_R_areParted, Nat.le_of_ble_eq_true rfl, Nat.le_of_ble_eq_true rfl⟩ (s_R_areParted  e_6) rfl ⟨rfl, rfl⟩ (ci := 12) rfl (fun v hv => by cases hv; rfl) (Nat.le_of_ble_eq_true rfl) (by decide +kernel) rfl ?_
      refine q_if_eq (off := 6) (tgt := 35) (by decide +kernel) (by decide) (fun c_7 => ?_) (fun c_7 => ?_)
      · have e := it_t c_7 e
        refine sl_ok ok_R_cutOff [.iinc 3 1] (pc1 := 38) (ls1 := [some (.ref 79), some (.int x1), some (.int x2), some (.int (x3 + 1))]) (st1 := []) (h1 := h) (P := True) (by decide +kernel) rfl trivial ?_
        refine q_goto (off := -30) (tgt := 8) (by decide) (by decide +kernel) ?_
        cases e
        exact k
      · have e := it_f c_7 e
        refine sl_ok ok_R_cutOff [.iinc 2 1, .iinc 3 1] (pc1 := 38) (ls1 := [some (.ref 79), some (.int x1), some (.int (x2 + 1)), some (.int (x3 + 1))]) (st1 := []) (h1 := h) (P := True) (by decide +kernel) rfl trivial ?_
        refine q_goto (off := -30) (tgt := 8) (by decide) (by decide +kernel) ?_
        cases e
        exact k
def f_R_cutOff (x1 : Int32) (h : pH) : Option (Int32 × pH) :=
  (f_R_laysMeetings h).bind fun v_1 =>
  lp (fun s => f_R_cutOff_L1 x1 v_1 s.1 s.2) lpN (0, 0)
set_option maxHeartbeats 4000000 in
theorem b_R_cutOff {E : pE} {r : Option Value} {hr : pH} {x1 : Int32} {h : pH}  {b : (Int32 × pH)} (e : f_R_cutOff x1 h = some b) (k : (fun v : (Int32 × pH) => r = some (.int v.1) ∧ hr = v.2) b) : Go E M_R_cutOff 0 [some (.ref 79), some (.int x1), none, none] [] h r hr := by
  unfold f_R_cutOff at e
  refine sl_ok ok_R_cutOff [.aload_n 0] (pc1 := 1) (ls1 := [some (.ref 79), some (.int x1), none, none]) (st1 := [.ref 79]) (h1 := h) (P := True) (by decide +kernel) rfl trivial ?_
  obtain ⟨v_1, e_2, e⟩ := bi_s e
  refine q_callV ok_R_laysMeetings (as := []) (st := []) ⟨wd_371, wd_372, wd_373, wd_7, ds_R_laysMeetings, Nat.le_of_ble_eq_true rfl, Nat.le_of_ble_eq_true rfl⟩ (s_R_laysMeetings  e_2) rfl ⟨rfl, rfl⟩ (ci := 12) rfl (fun v hv => by cases hv) (Nat.le_of_ble_eq_true rfl) (by decide +kernel) rfl ?_
  refine sl_ok ok_R_cutOff [.iconst 0, .istore_n 2, .iconst 0, .istore_n 3] (pc1 := 8) (ls1 := [some (.ref 79), some (.int x1), some (.int 0), some (.int 0)]) (st1 := []) (h1 := v_1) (P := True) (by decide +kernel) rfl trivial ?_
  exact lp_in e (fun s => Go E M_R_cutOff 8 [some (.ref 79), some (.int x1), some (.int s.1), some (.int s.2)] [] v_1 r hr) (fun v : (Int32 × pH) => r = some (.int v.1) ∧ hr = v.2) (fun _ _ e k => b_R_cutOff_L1  e k) k
theorem s_R_cutOff {E : pE} {x1 : Int32} {h : pH}  {v : (Int32 × pH)} (e : f_R_cutOff x1 h = some v) : Ct E M_R_cutOff [.ref 79, .int x1] h (some (.int v.1)) v.2 :=
  Ct_of ok_R_cutOff [some (.ref 79), some (.int x1), none, none] (Nat.le_of_ble_eq_true rfl) rfl (b_R_cutOff  e ⟨rfl, rfl⟩)
def f_Cloud_hasSet (o0 : Nat) (x1 : Int32) (h : pH) : Int32 :=
  if x1 < 0 then
    0
  else
    if (f_Cloud_everyone o0 h) < x1 then
      0
    else
      1
set_option maxHeartbeats 4000000 in
theorem b_Cloud_hasSet {E : pE} {r : Option Value} {hr : pH} {o0 : Nat} {x1 : Int32} {h : pH} (ho0 : ak o0 = 0 ∧ cx o0 = 0) {b : Int32} (e : f_Cloud_hasSet o0 x1 h = b) (k : (fun v : Int32 => r = some (.int v) ∧ hr = h) b) : Go E M_Cloud_hasSet 0 [some (.ref o0), some (.int x1)] [] h r hr := by
  unfold f_Cloud_hasSet at e
  refine sl_ok ok_Cloud_hasSet [.iload_n 1] (pc1 := 1) (ls1 := [some (.ref o0), some (.int x1)]) (st1 := [.int x1]) (h1 := h) (P := True) (by decide +kernel) rfl trivial ?_
  refine q_if_lt (off := 15) (tgt := 16) (by decide +kernel) (by decide) (fun c_1 => ?_) (fun c_1 => ?_)
  · have e := it_t c_1 e
    refine sl_ok ok_Cloud_hasSet [.iconst 0] (pc1 := 17) (ls1 := [some (.ref o0), some (.int x1)]) (st1 := [.int 0]) (h1 := h) (P := True) (by decide +kernel) rfl trivial ?_
    cases e
    exact q_zret rfl (Or.inl rfl) k.1 k.2 (by decide +kernel)
  · have e := it_f c_1 e
    refine sl_ok ok_Cloud_hasSet [.iload_n 1, .aload_n 0] (pc1 := 6) (ls1 := [some (.ref o0), some (.int x1)]) (st1 := [.ref o0, .int x1]) (h1 := h) (P := True) (by decide +kernel) rfl trivial ?_
    refine q_callV ok_Cloud_everyone (as := []) (st := [.int x1]) ⟨wd_377, wd_209, wd_210, wd_14, ds_Cloud_everyone, Nat.le_of_ble_eq_true rfl, Nat.le_of_ble_eq_true rfl⟩ (s_Cloud_everyone ho0) rfl ho0 (ci := 0) rfl (fun v hv => by cases hv; rfl) (Nat.le_of_ble_eq_true rfl) (by decide +kernel) rfl ?_
    refine q_icmp_gt (off := 7) (tgt := 16) (by decide +kernel) (by decide) (fun c_2 => ?_) (fun c_2 => ?_)
    · have e := it_t c_2 e
      refine sl_ok ok_Cloud_hasSet [.iconst 0] (pc1 := 17) (ls1 := [some (.ref o0), some (.int x1)]) (st1 := [.int 0]) (h1 := h) (P := True) (by decide +kernel) rfl trivial ?_
      cases e
      exact q_zret rfl (Or.inl rfl) k.1 k.2 (by decide +kernel)
    · have e := it_f c_2 e
      refine sl_ok ok_Cloud_hasSet [.iconst 1] (pc1 := 13) (ls1 := [some (.ref o0), some (.int x1)]) (st1 := [.int 1]) (h1 := h) (P := True) (by decide +kernel) rfl trivial ?_
      refine q_goto (off := 4) (tgt := 17) (by decide) (by decide +kernel) ?_
      cases e
      exact q_zret rfl (Or.inr rfl) k.1 k.2 (by decide +kernel)
theorem s_Cloud_hasSet {E : pE} {o0 : Nat} {x1 : Int32} {h : pH} (ho0 : ak o0 = 0 ∧ cx o0 = 0) : Ct E M_Cloud_hasSet [.ref o0, .int x1] h (some (.int (f_Cloud_hasSet o0 x1 h))) h :=
  Ct_of ok_Cloud_hasSet [some (.ref o0), some (.int x1)] (Nat.le_of_ble_eq_true rfl) rfl (b_Cloud_hasSet ho0 rfl ⟨rfl, rfl⟩)
def f_C_isCutOff (x1 : Int32) (h : pH) : Option (Int32 × pH) :=
  if (f_Cloud_hasSet 8 x1 h) = 0 then
    some ((-1), h)
  else
    (f_Cuts_find 8 h).bind fun v_2 =>
    (f_SetMarks_isMarked 22 x1 v_2).bind fun v_4 =>
    if v_4 = 0 then
      some (0, v_2)
    else
      some (1, v_2)
set_option maxHeartbeats 4000000 in
theorem b_C_isCutOff {E : pE} {r : Option Value} {hr : pH} {x1 : Int32} {h : pH}  {b : (Int32 × pH)} (e : f_C_isCutOff x1 h = some b) (k : (fun v : (Int32 × pH) => r = some (.int v.1) ∧ hr = v.2) b) : Go E M_C_isCutOff 0 [some (.ref 0), some (.int x1)] [] h r hr := by
  unfold f_C_isCutOff at e
  refine sl_ok ok_C_isCutOff [.aload_n 0, .getfield 28, .iload_n 1] (pc1 := 5) (ls1 := [some (.ref 0), some (.int x1)]) (st1 := [.int x1, .ref 8]) (h1 := h) (P := (ak 0 = 0 ∧ cx 0 = 11) ∧ True) (by decide +kernel) rfl ⟨⟨rfl, rfl⟩, trivial⟩ ?_
  refine q_callV ok_Cloud_hasSet (as := [.int x1]) (st := []) ⟨wd_378, wd_379, wd_380, wd_14, ds_Cloud_hasSet, Nat.le_of_ble_eq_true rfl, Nat.le_of_ble_eq_true rfl⟩ (s_Cloud_hasSet ⟨rfl, rfl⟩) rfl ⟨rfl, rfl⟩ (ci := 0) rfl (fun v hv => by cases hv; rfl) (Nat.le_of_ble_eq_true rfl) (by decide +kernel) rfl ?_
  refine q_if_ne (off := 5) (tgt := 13) (by decide +kernel) (by decide) (fun c_1 => ?_) (fun c_1 => ?_)
  · have e := it_f c_1 e
    refine sl_ok ok_C_isCutOff [.aload_n 0, .getfield 52, .aload_n 0, .getfield 28] (pc1 := 21) (ls1 := [some (.ref 0), some (.int x1)]) (st1 := [.ref 8, .ref 21]) (h1 := h) (P := (ak 0 = 0 ∧ cx 0 = 11) ∧ (ak 0 = 0 ∧ cx 0 = 11) ∧ True) (by decide +kernel) rfl ⟨⟨rfl, rfl⟩, ⟨rfl, rfl⟩, trivial⟩ ?_
    obtain ⟨v_2, e_3, e⟩ := bi_s e
    refine q_callV ok_Cuts_find (as := [.ref 8]) (st := []) ⟨wd_356, wd_357, wd_358, wd_342, ds_Cuts_find, Nat.le_of_ble_eq_true rfl, Nat.le_of_ble_eq_true rfl⟩ (s_Cuts_find ⟨rfl, rfl⟩ e_3) rfl ⟨rfl, rfl⟩ (ci := 1) rfl (fun v hv => by cases hv) (Nat.le_of_ble_eq_true rfl) (by decide +kernel) rfl ?_
    refine sl_ok ok_C_isCutOff [.aload_n 0, .getfield 52, .getfield 245, .iload_n 1] (pc1 := 32) (ls1 := [some (.ref 0), some (.int x1)]) (st1 := [.int x1, .ref 22]) (h1 := v_2) (P := (ak 0 = 0 ∧ cx 0 = 11) ∧ (ak 21 = 0 ∧ cx 21 = 1) ∧ True) (by decide +kernel) rfl ⟨⟨rfl, rfl⟩, ⟨rfl, rfl⟩, trivial⟩ ?_
    obtain ⟨v_4, e_5, e⟩ := bi_s e
    refine q_callV ok_SetMarks_isMarked (as := [.int x1]) (st := []) ⟨wd_381, wd_354, wd_355, wd_336, ds_SetMarks_isMarked, Nat.le_of_ble_eq_true rfl, Nat.le_of_ble_eq_true rfl⟩ (s_SetMarks_isMarked ⟨rfl, rfl⟩ e_5) rfl ⟨rfl, rfl⟩ (ci := 6) rfl (fun v hv => by cases hv; rfl) (Nat.le_of_ble_eq_true rfl) (by decide +kernel) rfl ?_
    refine q_if_eq (off := 7) (tgt := 42) (by decide +kernel) (by decide) (fun c_6 => ?_) (fun c_6 => ?_)
    · have e := it_t c_6 e
      refine sl_ok ok_C_isCutOff [.iconst 0] (pc1 := 43) (ls1 := [some (.ref 0), some (.int x1)]) (st1 := [.int 0]) (h1 := v_2) (P := True) (by decide +kernel) rfl trivial ?_
      cases e
      exact q_iret rfl k.1 k.2 (by decide +kernel)
    · have e := it_f c_6 e
      refine sl_ok ok_C_isCutOff [.iconst 1] (pc1 := 39) (ls1 := [some (.ref 0), some (.int x1)]) (st1 := [.int 1]) (h1 := v_2) (P := True) (by decide +kernel) rfl trivial ?_
      refine q_goto (off := 4) (tgt := 43) (by decide) (by decide +kernel) ?_
      cases e
      exact q_iret rfl k.1 k.2 (by decide +kernel)
  · have e := it_t c_1 e
    refine sl_ok ok_C_isCutOff [.iconst (-1)] (pc1 := 12) (ls1 := [some (.ref 0), some (.int x1)]) (st1 := [.int (-1)]) (h1 := h) (P := True) (by decide +kernel) rfl trivial ?_
    cases e
    exact q_iret rfl k.1 k.2 (by decide +kernel)
theorem s_C_isCutOff {E : pE} {x1 : Int32} {h : pH}  {v : (Int32 × pH)} (e : f_C_isCutOff x1 h = some v) : Ct E M_C_isCutOff [.ref 0, .int x1] h (some (.int v.1)) v.2 :=
  Ct_of ok_C_isCutOff [some (.ref 0), some (.int x1)] (Nat.le_of_ble_eq_true rfl) rfl (b_C_isCutOff  e ⟨rfl, rfl⟩)
def f_R_isCutOff (x1 : Int32) (h : pH) : Option (Int32 × pH) :=
  if (f_R_in x1 (0 : Int32) (f_R_full h)) = 0 then
    some ((-1), h)
  else
    (f_R_laysMeetings h).bind fun v_2 =>
    (f_R_areParted x1 v_2).bind fun v_4 =>
    if v_4 = 0 then
      some (0, v_2)
    else
      some (1, v_2)
set_option maxHeartbeats 4000000 in
theorem b_R_isCutOff {E : pE} {r : Option Value} {hr : pH} {x1 : Int32} {h : pH}  {b : (Int32 × pH)} (e : f_R_isCutOff x1 h = some b) (k : (fun v : (Int32 × pH) => r = some (.int v.1) ∧ hr = v.2) b) : Go E M_R_isCutOff 0 [some (.ref 79), some (.int x1)] [] h r hr := by
  unfold f_R_isCutOff at e
  refine sl_ok ok_R_isCutOff [.iload_n 1, .iconst 0, .aload_n 0] (pc1 := 3) (ls1 := [some (.ref 79), some (.int x1)]) (st1 := [.ref 79, .int 0, .int x1]) (h1 := h) (P := True) (by decide +kernel) rfl trivial ?_
  refine q_callV ok_R_full (as := []) (st := [.int 0, .int x1]) ⟨wd_266, wd_267, wd_268, wd_7, ds_R_full, Nat.le_of_ble_eq_true rfl, Nat.le_of_ble_eq_true rfl⟩ (s_R_full ) rfl ⟨rfl, rfl⟩ (ci := 12) rfl (fun v hv => by cases hv; rfl) (Nat.le_of_ble_eq_true rfl) (by decide +kernel) rfl ?_
  refine q_callS ok_R_in (as := [.int x1, .int 0, .int (f_R_full h)]) (st := []) ⟨wd_127, wd_128, wd_7, ds_R_in, Nat.le_of_ble_eq_true rfl, Nat.le_of_ble_eq_true rfl⟩ (s_R_in ) rfl (fun v hv => by cases hv; rfl) (Nat.le_of_ble_eq_true rfl) (by decide +kernel) rfl ?_
  refine q_if_ne (off := 5) (tgt := 14) (by decide +kernel) (by decide) (fun c_1 => ?_) (fun c_1 => ?_)
  · have e := it_f c_1 e
    refine sl_ok ok_R_isCutOff [.aload_n 0] (pc1 := 15) (ls1 := [some (.ref 79), some (.int x1)]) (st1 := [.ref 79]) (h1 := h) (P := True) (by decide +kernel) rfl trivial ?_
    obtain ⟨v_2, e_3, e⟩ := bi_s e
    refine q_callV ok_R_laysMeetings (as := []) (st := []) ⟨wd_371, wd_372, wd_373, wd_7, ds_R_laysMeetings, Nat.le_of_ble_eq_true rfl, Nat.le_of_ble_eq_true rfl⟩ (s_R_laysMeetings  e_3) rfl ⟨rfl, rfl⟩ (ci := 12) rfl (fun v hv => by cases hv) (Nat.le_of_ble_eq_true rfl) (by decide +kernel) rfl ?_
    refine sl_ok ok_R_isCutOff [.aload_n 0, .iload_n 1] (pc1 := 20) (ls1 := [some (.ref 79), some (.int x1)]) (st1 := [.int x1, .ref 79]) (h1 := v_2) (P := True) (by decide +kernel) rfl trivial ?_
    obtain ⟨v_4, e_5, e⟩ := bi_s e
    refine q_callV ok_R_areParted (as := [.int x1]) (st := []) ⟨wd_374, wd_375, wd_376, wd_7, ds_R_areParted, Nat.le_of_ble_eq_true rfl, Nat.le_of_ble_eq_true rfl⟩ (s_R_areParted  e_5) rfl ⟨rfl, rfl⟩ (ci := 12) rfl (fun v hv => by cases hv; rfl) (Nat.le_of_ble_eq_true rfl) (by decide +kernel) rfl ?_
    refine q_if_eq (off := 7) (tgt := 30) (by decide +kernel) (by decide) (fun c_6 => ?_) (fun c_6 => ?_)
    · have e := it_t c_6 e
      refine sl_ok ok_R_isCutOff [.iconst 0] (pc1 := 31) (ls1 := [some (.ref 79), some (.int x1)]) (st1 := [.int 0]) (h1 := v_2) (P := True) (by decide +kernel) rfl trivial ?_
      cases e
      exact q_iret rfl k.1 k.2 (by decide +kernel)
    · have e := it_f c_6 e
      refine sl_ok ok_R_isCutOff [.iconst 1] (pc1 := 27) (ls1 := [some (.ref 79), some (.int x1)]) (st1 := [.int 1]) (h1 := v_2) (P := True) (by decide +kernel) rfl trivial ?_
      refine q_goto (off := 4) (tgt := 31) (by decide) (by decide +kernel) ?_
      cases e
      exact q_iret rfl k.1 k.2 (by decide +kernel)
  · have e := it_t c_1 e
    refine sl_ok ok_R_isCutOff [.iconst (-1)] (pc1 := 13) (ls1 := [some (.ref 79), some (.int x1)]) (st1 := [.int (-1)]) (h1 := h) (P := True) (by decide +kernel) rfl trivial ?_
    cases e
    exact q_iret rfl k.1 k.2 (by decide +kernel)
theorem s_R_isCutOff {E : pE} {x1 : Int32} {h : pH}  {v : (Int32 × pH)} (e : f_R_isCutOff x1 h = some v) : Ct E M_R_isCutOff [.ref 79, .int x1] h (some (.int v.1)) v.2 :=
  Ct_of ok_R_isCutOff [some (.ref 79), some (.int x1)] (Nat.le_of_ble_eq_true rfl) rfl (b_R_isCutOff  e ⟨rfl, rfl⟩)
def f_C_isPlace (x0 : Int32) (x1 : Int32) : Int32 :=
  if x0 < (-200) then
    0
  else
    if 200 < x0 then
      0
    else
      if x1 < (-200) then
        0
      else
        if 200 < x1 then
          0
        else
          1
set_option maxHeartbeats 4000000 in
theorem b_C_isPlace {E : pE} {r : Option Value} {hr : pH} {x0 : Int32} {x1 : Int32} {h : pH}  {b : Int32} (e : f_C_isPlace x0 x1 = b) (k : (fun v : Int32 => r = some (.int v) ∧ hr = h) b) : Go E M_C_isPlace 0 [some (.int x0), some (.int x1)] [] h r hr := by
  unfold f_C_isPlace at e
  refine sl_ok ok_C_isPlace [.iload_n 0, .sipush (-200)] (pc1 := 4) (ls1 := [some (.int x0), some (.int x1)]) (st1 := [.int (-200), .int x0]) (h1 := h) (P := True) (by decide +kernel) rfl trivial ?_
  refine q_icmp_lt (off := 28) (tgt := 32) (by decide +kernel) (by decide) (fun c_1 => ?_) (fun c_1 => ?_)
  · have e := it_t c_1 e
    refine sl_ok ok_C_isPlace [.iconst 0] (pc1 := 33) (ls1 := [some (.int x0), some (.int x1)]) (st1 := [.int 0]) (h1 := h) (P := True) (by decide +kernel) rfl trivial ?_
    cases e
    exact q_zret rfl (Or.inl rfl) k.1 k.2 (by decide +kernel)
  · have e := it_f c_1 e
    refine sl_ok ok_C_isPlace [.iload_n 0, .sipush 200] (pc1 := 11) (ls1 := [some (.int x0), some (.int x1)]) (st1 := [.int 200, .int x0]) (h1 := h) (P := True) (by decide +kernel) rfl trivial ?_
    refine q_icmp_gt (off := 21) (tgt := 32) (by decide +kernel) (by decide) (fun c_2 => ?_) (fun c_2 => ?_)
    · have e := it_t c_2 e
      refine sl_ok ok_C_isPlace [.iconst 0] (pc1 := 33) (ls1 := [some (.int x0), some (.int x1)]) (st1 := [.int 0]) (h1 := h) (P := True) (by decide +kernel) rfl trivial ?_
      cases e
      exact q_zret rfl (Or.inl rfl) k.1 k.2 (by decide +kernel)
    · have e := it_f c_2 e
      refine sl_ok ok_C_isPlace [.iload_n 1, .sipush (-200)] (pc1 := 18) (ls1 := [some (.int x0), some (.int x1)]) (st1 := [.int (-200), .int x1]) (h1 := h) (P := True) (by decide +kernel) rfl trivial ?_
      refine q_icmp_lt (off := 14) (tgt := 32) (by decide +kernel) (by decide) (fun c_3 => ?_) (fun c_3 => ?_)
      · have e := it_t c_3 e
        refine sl_ok ok_C_isPlace [.iconst 0] (pc1 := 33) (ls1 := [some (.int x0), some (.int x1)]) (st1 := [.int 0]) (h1 := h) (P := True) (by decide +kernel) rfl trivial ?_
        cases e
        exact q_zret rfl (Or.inl rfl) k.1 k.2 (by decide +kernel)
      · have e := it_f c_3 e
        refine sl_ok ok_C_isPlace [.iload_n 1, .sipush 200] (pc1 := 25) (ls1 := [some (.int x0), some (.int x1)]) (st1 := [.int 200, .int x1]) (h1 := h) (P := True) (by decide +kernel) rfl trivial ?_
        refine q_icmp_gt (off := 7) (tgt := 32) (by decide +kernel) (by decide) (fun c_4 => ?_) (fun c_4 => ?_)
        · have e := it_t c_4 e
          refine sl_ok ok_C_isPlace [.iconst 0] (pc1 := 33) (ls1 := [some (.int x0), some (.int x1)]) (st1 := [.int 0]) (h1 := h) (P := True) (by decide +kernel) rfl trivial ?_
          cases e
          exact q_zret rfl (Or.inl rfl) k.1 k.2 (by decide +kernel)
        · have e := it_f c_4 e
          refine sl_ok ok_C_isPlace [.iconst 1] (pc1 := 29) (ls1 := [some (.int x0), some (.int x1)]) (st1 := [.int 1]) (h1 := h) (P := True) (by decide +kernel) rfl trivial ?_
          refine q_goto (off := 4) (tgt := 33) (by decide) (by decide +kernel) ?_
          cases e
          exact q_zret rfl (Or.inr rfl) k.1 k.2 (by decide +kernel)
theorem s_C_isPlace {E : pE} {x0 : Int32} {x1 : Int32} {h : pH}  : Ct E M_C_isPlace [.int x0, .int x1] h (some (.int (f_C_isPlace x0 x1))) h :=
  Ct_of ok_C_isPlace [some (.int x0), some (.int x1)] (Nat.le_of_ble_eq_true rfl) rfl (b_C_isPlace  rfl ⟨rfl, rfl⟩)
def f_C_depth (x1 : Int32) (x2 : Int32) (h : pH) : Option (Int32 × pH) :=
  if (f_C_isPlace x1 x2) = 0 then
    some ((-1), h)
  else
    (f_Depths_depthAt 8 x1 x2 h).bind fun v_2 =>
    some (v_2.1, v_2.2)
set_option maxHeartbeats 4000000 in
theorem b_C_depth {E : pE} {r : Option Value} {hr : pH} {x1 : Int32} {x2 : Int32} {h : pH}  {b : (Int32 × pH)} (e : f_C_depth x1 x2 h = some b) (k : (fun v : (Int32 × pH) => r = some (.int v.1) ∧ hr = v.2) b) : Go E M_C_depth 0 [some (.ref 0), some (.int x1), some (.int x2)] [] h r hr := by
  unfold f_C_depth at e
  refine sl_ok ok_C_depth [.iload_n 1, .iload_n 2] (pc1 := 2) (ls1 := [some (.ref 0), some (.int x1), some (.int x2)]) (st1 := [.int x2, .int x1]) (h1 := h) (P := True) (by decide +kernel) rfl trivial ?_
  refine q_callS ok_C_isPlace (as := [.int x1, .int x2]) (st := []) ⟨wd_382, wd_383, wd_48, ds_C_isPlace, Nat.le_of_ble_eq_true rfl, Nat.le_of_ble_eq_true rfl⟩ (s_C_isPlace ) rfl (fun v hv => by cases hv; rfl) (Nat.le_of_ble_eq_true rfl) (by decide +kernel) rfl ?_
  refine q_if_eq (off := 19) (tgt := 24) (by decide +kernel) (by decide) (fun c_1 => ?_) (fun c_1 => ?_)
  · have e := it_t c_1 e
    refine sl_ok ok_C_depth [.iconst (-1)] (pc1 := 25) (ls1 := [some (.ref 0), some (.int x1), some (.int x2)]) (st1 := [.int (-1)]) (h1 := h) (P := True) (by decide +kernel) rfl trivial ?_
    cases e
    exact q_iret rfl k.1 k.2 (by decide +kernel)
  · have e := it_f c_1 e
    refine sl_ok ok_C_depth [.aload_n 0, .getfield 45, .aload_n 0, .getfield 28, .iload_n 1, .iload_n 2] (pc1 := 18) (ls1 := [some (.ref 0), some (.int x1), some (.int x2)]) (st1 := [.int x2, .int x1, .ref 8, .ref 17]) (h1 := h) (P := (ak 0 = 0 ∧ cx 0 = 11) ∧ (ak 0 = 0 ∧ cx 0 = 11) ∧ True) (by decide +kernel) rfl ⟨⟨rfl, rfl⟩, ⟨rfl, rfl⟩, trivial⟩ ?_
    obtain ⟨v_2, e_3, e⟩ := bi_s e
    refine q_callV ok_Depths_depthAt (as := [.ref 8, .int x1, .int x2]) (st := []) ⟨wd_249, wd_250, wd_251, wd_217, ds_Depths_depthAt, Nat.le_of_ble_eq_true rfl, Nat.le_of_ble_eq_true rfl⟩ (s_Depths_depthAt ⟨rfl, rfl⟩ e_3) rfl ⟨rfl, rfl⟩ (ci := 2) rfl (fun v hv => by cases hv; rfl) (Nat.le_of_ble_eq_true rfl) (by decide +kernel) rfl ?_
    refine q_goto (off := 4) (tgt := 25) (by decide) (by decide +kernel) ?_
    cases e
    exact q_iret rfl k.1 k.2 (by decide +kernel)
theorem s_C_depth {E : pE} {x1 : Int32} {x2 : Int32} {h : pH}  {v : (Int32 × pH)} (e : f_C_depth x1 x2 h = some v) : Ct E M_C_depth [.ref 0, .int x1, .int x2] h (some (.int v.1)) v.2 :=
  Ct_of ok_C_depth [some (.ref 0), some (.int x1), some (.int x2)] (Nat.le_of_ble_eq_true rfl) rfl (b_C_depth  e ⟨rfl, rfl⟩)
def f_R_depth (x1 : Int32) (x2 : Int32) (h : pH) : Option Int32 :=
  if (f_R_in x1 ((-200) : Int32) (200 : Int32)) = 0 then
    some (-1)
  else
    if (f_R_in x2 ((-200) : Int32) (200 : Int32)) = 0 then
      some (-1)
    else
      (f_R_depthOf x1 x2 h).bind fun v_3 =>
      some v_3
set_option maxHeartbeats 4000000 in
theorem b_R_depth {E : pE} {r : Option Value} {hr : pH} {x1 : Int32} {x2 : Int32} {h : pH}  {b : Int32} (e : f_R_depth x1 x2 h = some b) (k : (fun v : Int32 => r = some (.int v) ∧ hr = h) b) : Go E M_R_depth 0 [some (.ref 79), some (.int x1), some (.int x2)] [] h r hr := by
  unfold f_R_depth at e
  refine sl_ok ok_R_depth [.iload_n 1, .sipush (-200), .sipush 200] (pc1 := 7) (ls1 := [some (.ref 79), some (.int x1), some (.int x2)]) (st1 := [.int 200, .int (-200), .int x1]) (h1 := h) (P := True) (by decide +kernel) rfl trivial ?_
  refine q_callS ok_R_in (as := [.int x1, .int (-200), .int 200]) (st := []) ⟨wd_127, wd_128, wd_7, ds_R_in, Nat.le_of_ble_eq_true rfl, Nat.le_of_ble_eq_true rfl⟩ (s_R_in ) rfl (fun v hv => by cases hv; rfl) (Nat.le_of_ble_eq_true rfl) (by decide +kernel) rfl ?_
  refine q_if_eq (off := 25) (tgt := 35) (by decide +kernel) (by decide) (fun c_1 => ?_) (fun c_1 => ?_)
  · have e := it_t c_1 e
    refine sl_ok ok_R_depth [.iconst (-1)] (pc1 := 36) (ls1 := [some (.ref 79), some (.int x1), some (.int x2)]) (st1 := [.int (-1)]) (h1 := h) (P := True) (by decide +kernel) rfl trivial ?_
    cases e
    exact q_iret rfl k.1 k.2 (by decide +kernel)
  · have e := it_f c_1 e
    refine sl_ok ok_R_depth [.iload_n 2, .sipush (-200), .sipush 200] (pc1 := 20) (ls1 := [some (.ref 79), some (.int x1), some (.int x2)]) (st1 := [.int 200, .int (-200), .int x2]) (h1 := h) (P := True) (by decide +kernel) rfl trivial ?_
    refine q_callS ok_R_in (as := [.int x2, .int (-200), .int 200]) (st := []) ⟨wd_127, wd_128, wd_7, ds_R_in, Nat.le_of_ble_eq_true rfl, Nat.le_of_ble_eq_true rfl⟩ (s_R_in ) rfl (fun v hv => by cases hv; rfl) (Nat.le_of_ble_eq_true rfl) (by decide +kernel) rfl ?_
    refine q_if_eq (off := 12) (tgt := 35) (by decide +kernel) (by decide) (fun c_2 => ?_) (fun c_2 => ?_)
    · have e := it_t c_2 e
      refine sl_ok ok_R_depth [.iconst (-1)] (pc1 := 36) (ls1 := [some (.ref 79), some (.int x1), some (.int x2)]) (st1 := [.int (-1)]) (h1 := h) (P := True) (by decide +kernel) rfl trivial ?_
      cases e
      exact q_iret rfl k.1 k.2 (by decide +kernel)
    · have e := it_f c_2 e
      refine sl_ok ok_R_depth [.aload_n 0, .iload_n 1, .iload_n 2] (pc1 := 29) (ls1 := [some (.ref 79), some (.int x1), some (.int x2)]) (st1 := [.int x2, .int x1, .ref 79]) (h1 := h) (P := True) (by decide +kernel) rfl trivial ?_
      obtain ⟨v_3, e_4, e⟩ := bi_s e
      refine q_callV ok_R_depthOf (as := [.int x1, .int x2]) (st := []) ⟨wd_295, wd_296, wd_297, wd_7, ds_R_depthOf, Nat.le_of_ble_eq_true rfl, Nat.le_of_ble_eq_true rfl⟩ (s_R_depthOf  e_4) rfl ⟨rfl, rfl⟩ (ci := 12) rfl (fun v hv => by cases hv; rfl) (Nat.le_of_ble_eq_true rfl) (by decide +kernel) rfl ?_
      refine q_goto (off := 4) (tgt := 36) (by decide) (by decide +kernel) ?_
      cases e
      exact q_iret rfl k.1 k.2 (by decide +kernel)
theorem s_R_depth {E : pE} {x1 : Int32} {x2 : Int32} {h : pH}  {v : Int32} (e : f_R_depth x1 x2 h = some v) : Ct E M_R_depth [.ref 79, .int x1, .int x2] h (some (.int v)) h :=
  Ct_of ok_R_depth [some (.ref 79), some (.int x1), some (.int x2)] (Nat.le_of_ble_eq_true rfl) rfl (b_R_depth  e ⟨rfl, rfl⟩)
def f_Depths_noteDepth_J1 (x1 : Int32) (h : pH) : pH :=
  if x1 = (hI h 17 4) then
    (sI h 17 5 ((hI h 17 5) + 1))
  else
    h
set_option maxHeartbeats 4000000 in
theorem b_Depths_noteDepth_J1 {E : pE} {r : Option Value} {hr : pH} {x1 : Int32} {h : pH}  {b : pH} (e : f_Depths_noteDepth_J1 x1 h = b) (k : (fun v : pH => r = none ∧ hr = v) b) : Go E M_Depths_noteDepth 28 [some (.ref 17), some (.int x1), none, none] [] h r hr := by
  unfold f_Depths_noteDepth_J1 at e
  refine sl_ok ok_Depths_noteDepth [.iload_n 1, .aload_n 0, .getfield 50] (pc1 := 33) (ls1 := [some (.ref 17), some (.int x1), none, none]) (st1 := [.int (hI h 17 4), .int x1]) (h1 := h) (P := (ak 17 = 0 ∧ cx 17 = 2) ∧ True) (by decide +kernel) rfl ⟨⟨rfl, rfl⟩, trivial⟩ ?_
  refine q_icmp_ne (off := 13) (tgt := 46) (by decide +kernel) (by decide) (fun c_1 => ?_) (fun c_1 => ?_)
  · have e := it_f c_1 e
    cases e
    exact q_vret rfl k.1 k.2 (by decide +kernel)
  · have e := it_t c_1 e
    refine sl_ok ok_Depths_noteDepth [.aload_n 0, .dup, .getfield 67, .iconst 1, .iadd, .putfield 67] (pc1 := 46) (ls1 := [some (.ref 17), some (.int x1), none, none]) (st1 := []) (h1 := (sI h 17 5 ((hI h 17 5) + 1))) (P := (ak 17 = 0 ∧ cx 17 = 2) ∧ (ak 17 = 0 ∧ cx 17 = 2) ∧ True) (by decide +kernel) rfl ⟨⟨rfl, rfl⟩, ⟨rfl, rfl⟩, trivial⟩ ?_
    cases e
    exact q_vret rfl k.1 k.2 (by decide +kernel)
def f_Depths_noteDepth (x1 : Int32) (x2 : Int32) (x3 : Int32) (h : pH) : pH :=
  if x1 ≤ (hI h 17 4) then
    f_Depths_noteDepth_J1 x1 h
  else
    f_Depths_noteDepth_J1 x1 (sI (sI (sI (sI h 17 4 x1) 17 5 0) 17 6 x2) 17 7 x3)
set_option maxHeartbeats 4000000 in
theorem b_Depths_noteDepth {E : pE} {r : Option Value} {hr : pH} {x1 : Int32} {x2 : Int32} {x3 : Int32} {h : pH}  {b : pH} (e : f_Depths_noteDepth x1 x2 x3 h = b) (k : (fun v : pH => r = none ∧ hr = v) b) : Go E M_Depths_noteDepth 0 [some (.ref 17), some (.int x1), some (.int x2), some (.int x3)] [] h r hr := by
  unfold f_Depths_noteDepth at e
  refine sl_ok ok_Depths_noteDepth [.iload_n 1, .aload_n 0, .getfield 50] (pc1 := 5) (ls1 := [some (.ref 17), some (.int x1), some (.int x2), some (.int x3)]) (st1 := [.int (hI h 17 4), .int x1]) (h1 := h) (P := (ak 17 = 0 ∧ cx 17 = 2) ∧ True) (by decide +kernel) rfl ⟨⟨rfl, rfl⟩, trivial⟩ ?_
  refine q_icmp_le (off := 23) (tgt := 28) (by decide +kernel) (by decide) (fun c_1 => ?_) (fun c_1 => ?_)
  · have e := it_t c_1 e
    refine Go.sb [some (.ref 17), some (.int x1), none, none] (And.intro rfl (And.intro rfl trivial)) ?_
    exact b_Depths_noteDepth_J1  e k
  · have e := it_f c_1 e
    refine sl_ok ok_Depths_noteDepth [.aload_n 0, .iload_n 1, .putfield 50, .aload_n 0, .iconst 0, .putfield 67, .aload_n 0, .iload_n 2, .putfield 70, .aload_n 0, .iload_n 3, .putfield 73] (pc1 := 28) (ls1 := [some (.ref 17), some (.int x1), some (.int x2), some (.int x3)]) (st1 := []) (h1 := (sI (sI (sI (sI h 17 4 x1) 17 5 0) 17 6 x2) 17 7 x3)) (P := (ak 17 = 0 ∧ cx 17 = 2) ∧ (ak 17 = 0 ∧ cx 17 = 2) ∧ (ak 17 = 0 ∧ cx 17 = 2) ∧ (ak 17 = 0 ∧ cx 17 = 2) ∧ True) (by decide +kernel) rfl ⟨⟨rfl, rfl⟩, ⟨rfl, rfl⟩, ⟨rfl, rfl⟩, ⟨rfl, rfl⟩, trivial⟩ ?_
    refine Go.sb [some (.ref 17), some (.int x1), none, none] (And.intro rfl (And.intro rfl trivial)) ?_
    exact b_Depths_noteDepth_J1  e k
theorem s_Depths_noteDepth {E : pE} {x1 : Int32} {x2 : Int32} {x3 : Int32} {h : pH}  : Ct E M_Depths_noteDepth [.ref 17, .int x1, .int x2, .int x3] h none (f_Depths_noteDepth x1 x2 x3 h) :=
  Ct_of ok_Depths_noteDepth [some (.ref 17), some (.int x1), some (.int x2), some (.int x3)] (Nat.le_of_ble_eq_true rfl) rfl (b_Depths_noteDepth  rfl ⟨rfl, rfl⟩)
def f_Depths_survey_L2 (o1 : Nat) (x3 : Int32) (x2 : Int32) (x4 : Int32) (h : pH) : Option ((Int32 × Int32 × pH) ⊕ ((Int32 × Int32 × pH) ⊕ pH)) :=
  if (hI h o1 3) < x4 then
    some (.inr (.inl (x2, (x3 + 1), h)))
  else
    (f_Depths_depthAt o1 x4 x3 h).bind fun v_2 =>
    if 1681 ≤ x2 then
      some (.inl (x2, (x4 + 1), (f_Depths_noteDepth v_2.1 x4 x3 v_2.2)))
    else
      if x2 < 0 ∨ 1681 ≤ x2.toNatClampNeg then none else
      some (.inl ((x2 + 1), (x4 + 1), (sI (f_Depths_noteDepth v_2.1 x4 x3 v_2.2) 18 x2.toNatClampNeg v_2.1)))
set_option maxHeartbeats 4000000 in
theorem b_Depths_survey_L2 {E : pE} {r : Option Value} {hr : pH} {o1 : Nat} {x3 : Int32} {x2 : Int32} {x4 : Int32} {h : pH} (ho1 : ak o1 = 0 ∧ cx o1 = 0) {b : ((Int32 × Int32 × pH) ⊕ ((Int32 × Int32 × pH) ⊕ pH))} (e : f_Depths_survey_L2 o1 x3 x2 x4 h = some b) (k : (Sum.elim (fun s : (Int32 × Int32 × pH) => Go E M_Depths_survey 48 [some (.ref 17), some (.ref o1), some (.int s.1), some (.int x3), some (.int s.2.1), none] [] s.2.2 r hr) (Sum.elim (fun s : (Int32 × Int32 × pH) => Go E M_Depths_survey 33 [some (.ref 17), some (.ref o1), some (.int s.1), some (.int s.2.1), none, none] [] s.2.2 r hr) (fun v : pH => r = none ∧ hr = v))) b) : Go E M_Depths_survey 48 [some (.ref 17), some (.ref o1), some (.int x2), some (.int x3), some (.int x4), none] [] h r hr := by
  unfold f_Depths_survey_L2 at e
  refine sl_ok ok_Depths_survey [.iload 4, .aload_n 1, .getfield 53] (pc1 := 54) (ls1 := [some (.ref 17), some (.ref o1), some (.int x2), some (.int x3), some (.int x4), none]) (st1 := [.int (hI h o1 3), .int x4]) (h1 := h) (P := (ak o1 = 0 ∧ cx o1 = 0) ∧ True) (by decide +kernel) rfl ⟨ho1, trivial⟩ ?_
  refine q_icmp_gt (off := 46) (tgt := 100) (by decide +kernel) (by decide) (fun c_1 => ?_) (fun c_1 => ?_)
  · have e := it_t c_1 e
    refine sl_ok ok_Depths_survey [.iinc 3 1] (pc1 := 103) (ls1 := [some (.ref 17), some (.ref o1), some (.int x2), some (.int (x3 + 1)), some (.int x4), none]) (st1 := []) (h1 := h) (P := True) (by decide +kernel) rfl trivial ?_
    refine q_goto (off := -70) (tgt := 33) (by decide) (by decide +kernel) ?_
    cases e
    refine Go.sb [some (.ref 17), some (.ref o1), some (.int x2), some (.int (x3 + 1)), none, none] (And.intro rfl (And.intro rfl (And.intro rfl (And.intro rfl trivial)))) ?_
    exact k
  · have e := it_f c_1 e
    refine sl_ok ok_Depths_survey [.aload_n 0, .aload_n 1, .iload 4, .iload_n 3] (pc1 := 62) (ls1 := [some (.ref 17), some (.ref o1), some (.int x2), some (.int x3), some (.int x4), none]) (st1 := [.int x3, .int x4, .ref o1, .ref 17]) (h1 := h) (P := True) (by decide +kernel) rfl trivial ?_
    obtain ⟨v_2, e_3, e⟩ := bi_s e
    refine q_callV ok_Depths_depthAt (as := [.ref o1, .int x4, .int x3]) (st := []) ⟨wd_384, wd_250, wd_251, wd_217, ds_Depths_depthAt, Nat.le_of_ble_eq_true rfl, Nat.le_of_ble_eq_true rfl⟩ (s_Depths_depthAt ho1 e_3) rfl ⟨rfl, rfl⟩ (ci := 2) rfl (fun v hv => by cases hv; rfl) (Nat.le_of_ble_eq_true rfl) (by decide +kernel) rfl ?_
    refine sl_ok ok_Depths_survey [.istore 5, .aload_n 0, .iload 5, .iload 4, .iload_n 3] (pc1 := 73) (ls1 := [some (.ref 17), some (.ref o1), some (.int x2), some (.int x3), some (.int x4), some (.int v_2.1)]) (st1 := [.int x3, .int x4, .int v_2.1, .ref 17]) (h1 := v_2.2) (P := True) (by decide +kernel) rfl trivial ?_
    refine q_callV ok_Depths_noteDepth (as := [.int v_2.1, .int x4, .int x3]) (st := []) ⟨wd_385, wd_386, wd_387, wd_217, ds_Depths_noteDepth, Nat.le_of_ble_eq_true rfl, Nat.le_of_ble_eq_true rfl⟩ (s_Depths_noteDepth ) rfl ⟨rfl, rfl⟩ (ci := 2) rfl (fun v hv => by cases hv) (Nat.le_of_ble_eq_true rfl) (by decide +kernel) rfl ?_
    refine sl_ok ok_Depths_survey [.iload_n 2, .sipush 1681] (pc1 := 80) (ls1 := [some (.ref 17), some (.ref o1), some (.int x2), some (.int x3), some (.int x4), some (.int v_2.1)]) (st1 := [.int 1681, .int x2]) (h1 := (f_Depths_noteDepth v_2.1 x4 x3 v_2.2)) (P := True) (by decide +kernel) rfl trivial ?_
    refine q_icmp_ge (off := 14) (tgt := 94) (by decide +kernel) (by decide) (fun c_4 => ?_) (fun c_4 => ?_)
    · have e := it_t c_4 e
      refine sl_ok ok_Depths_survey [.iinc 4 1] (pc1 := 97) (ls1 := [some (.ref 17), some (.ref o1), some (.int x2), some (.int x3), some (.int (x4 + 1)), some (.int v_2.1)]) (st1 := []) (h1 := (f_Depths_noteDepth v_2.1 x4 x3 v_2.2)) (P := True) (by decide +kernel) rfl trivial ?_
      refine q_goto (off := -49) (tgt := 48) (by decide) (by decide +kernel) ?_
      cases e
      refine Go.sb [some (.ref 17), some (.ref o1), some (.int x2), some (.int x3), some (.int (x4 + 1)), none] (And.intro rfl (And.intro rfl (And.intro rfl (And.intro rfl (And.intro rfl trivial))))) ?_
      exact k
    · have e := it_f c_4 e
      obtain ⟨g_5, e⟩ := it_g e
      refine sl_ok ok_Depths_survey [.aload_n 0, .getfield 9, .iload_n 2, .iload 5, .iastore, .iinc 2 1, .iinc 4 1] (pc1 := 97) (ls1 := [some (.ref 17), some (.ref o1), some (.int (x2 + 1)), some (.int x3), some (.int (x4 + 1)), some (.int v_2.1)]) (st1 := []) (h1 := (sI (f_Depths_noteDepth v_2.1 x4 x3 v_2.2) 18 x2.toNatClampNeg v_2.1)) (P := (ak 17 = 0 ∧ cx 17 = 2) ∧ (ak 18 = 1 ∧ ¬ (x2 < 0 ∨ cx 18 ≤ x2.toNatClampNeg)) ∧ True) (by decide +kernel) rfl ⟨⟨rfl, rfl⟩, ⟨rfl, g_5⟩, trivial⟩ ?_
      refine q_goto (off := -49) (tgt := 48) (by decide) (by decide +kernel) ?_
      cases e
      refine Go.sb [some (.ref 17), some (.ref o1), some (.int (x2 + 1)), some (.int x3), some (.int (x4 + 1)), none] (And.intro rfl (And.intro rfl (And.intro rfl (And.intro rfl (And.intro rfl trivial))))) ?_
      exact k
def f_Depths_survey_L1 (o1 : Nat) (x2 : Int32) (x3 : Int32) (h : pH) : Option ((Int32 × Int32 × pH) ⊕ pH) :=
  if (hI h o1 3) < x3 then
    some (.inr h)
  else
    lp (fun s => f_Depths_survey_L2 o1 x3 s.1 s.2.1 s.2.2) lpN (x2, (-(hI h o1 3)), h)
set_option maxHeartbeats 4000000 in
theorem b_Depths_survey_L1 {E : pE} {r : Option Value} {hr : pH} {o1 : Nat} {x2 : Int32} {x3 : Int32} {h : pH} (ho1 : ak o1 = 0 ∧ cx o1 = 0) {b : ((Int32 × Int32 × pH) ⊕ pH)} (e : f_Depths_survey_L1 o1 x2 x3 h = some b) (k : (Sum.elim (fun s : (Int32 × Int32 × pH) => Go E M_Depths_survey 33 [some (.ref 17), some (.ref o1), some (.int s.1), some (.int s.2.1), none, none] [] s.2.2 r hr) (fun v : pH => r = none ∧ hr = v)) b) : Go E M_Depths_survey 33 [some (.ref 17), some (.ref o1), some (.int x2), some (.int x3), none, none] [] h r hr := by
  unfold f_Depths_survey_L1 at e
  refine sl_ok ok_Depths_survey [.iload_n 3, .aload_n 1, .getfield 53] (pc1 := 38) (ls1 := [some (.ref 17), some (.ref o1), some (.int x2), some (.int x3), none, none]) (st1 := [.int (hI h o1 3), .int x3]) (h1 := h) (P := (ak o1 = 0 ∧ cx o1 = 0) ∧ True) (by decide +kernel) rfl ⟨ho1, trivial⟩ ?_
  refine q_icmp_gt (off := 68) (tgt := 106) (by decide +kernel) (by decide) (fun c_1 => ?_) (fun c_1 => ?_)
  · have e := it_t c_1 e
    cases e
    exact q_vret rfl k.1 k.2 (by decide +kernel)
  · have e := it_f c_1 e
    refine sl_ok ok_Depths_survey [.aload_n 1, .getfield 53, .ineg, .istore 4] (pc1 := 48) (ls1 := [some (.ref 17), some (.ref o1), some (.int x2), some (.int x3), some (.int (-(hI h o1 3))), none]) (st1 := []) (h1 := h) (P := (ak o1 = 0 ∧ cx o1 = 0) ∧ True) (by decide +kernel) rfl ⟨ho1, trivial⟩ ?_
    exact lp_in e (fun s => Go E M_Depths_survey 48 [some (.ref 17), some (.ref o1), some (.int s.1), some (.int x3), some (.int s.2.1), none] [] s.2.2 r hr) (Sum.elim (fun s : (Int32 × Int32 × pH) => Go E M_Depths_survey 33 [some (.ref 17), some (.ref o1), some (.int s.1), some (.int s.2.1), none, none] [] s.2.2 r hr) (fun v : pH => r = none ∧ hr = v)) (fun _ _ e k => b_Depths_survey_L2 ho1 e k) k
def f_Depths_survey (o1 : Nat) (h : pH) : Option pH :=
  if (hI h 17 3) = (hI h o1 4) then
    some h
  else
    lp (fun s => f_Depths_survey_L1 o1 s.1 s.2.1 s.2.2) lpN (0, (-(hI (sI (sI h 17 3 (hI h o1 4)) 17 4 (-1)) o1 3)), (sI (sI h 17 3 (hI h o1 4)) 17 4 (-1)))
set_option maxHeartbeats 4000000 in
theorem b_Depths_survey {E : pE} {r : Option Value} {hr : pH} {o1 : Nat} {h : pH} (ho1 : ak o1 = 0 ∧ cx o1 = 0) {b : pH} (e : f_Depths_survey o1 h = some b) (k : (fun v : pH => r = none ∧ hr = v) b) : Go E M_Depths_survey 0 [some (.ref 17), some (.ref o1), none, none, none, none] [] h r hr := by
  unfold f_Depths_survey at e
  refine sl_ok ok_Depths_survey [.aload_n 0, .getfield 21, .aload_n 1, .getfield 49] (pc1 := 8) (ls1 := [some (.ref 17), some (.ref o1), none, none, none, none]) (st1 := [.int (hI h o1 4), .int (hI h 17 3)]) (h1 := h) (P := (ak 17 = 0 ∧ cx 17 = 2) ∧ (ak o1 = 0 ∧ cx o1 = 0) ∧ True) (by decide +kernel) rfl ⟨⟨rfl, rfl⟩, ho1, trivial⟩ ?_
  refine q_icmp_ne (off := 4) (tgt := 12) (by decide +kernel) (by decide) (fun c_1 => ?_) (fun c_1 => ?_)
  · have e := it_f c_1 e
    refine sl_ok ok_Depths_survey [.aload_n 0, .aload_n 1, .getfield 49, .putfield 21, .aload_n 0, .iconst (-1), .putfield 50, .iconst 0, .istore_n 2, .aload_n 1, .getfield 53, .ineg, .istore_n 3] (pc1 := 33) (ls1 := [some (.ref 17), some (.ref o1), some (.int 0), some (.int (-(hI (sI (sI h 17 3 (hI h o1 4)) 17 4 (-1)) o1 3))), none, none]) (st1 := []) (h1 := (sI (sI h 17 3 (hI h o1 4)) 17 4 (-1))) (P := (ak o1 = 0 ∧ cx o1 = 0) ∧ (ak 17 = 0 ∧ cx 17 = 2) ∧ (ak 17 = 0 ∧ cx 17 = 2) ∧ (ak o1 = 0 ∧ cx o1 = 0) ∧ True) (by decide +kernel) rfl ⟨ho1, ⟨rfl, rfl⟩, ⟨rfl, rfl⟩, ho1, trivial⟩ ?_
    exact lp_in e (fun s => Go E M_Depths_survey 33 [some (.ref 17), some (.ref o1), some (.int s.1), some (.int s.2.1), none, none] [] s.2.2 r hr) (fun v : pH => r = none ∧ hr = v) (fun _ _ e k => b_Depths_survey_L1 ho1 e k) k
  · have e := it_t c_1 e
    cases e
    exact q_vret rfl k.1 k.2 (by decide +kernel)
theorem s_Depths_survey {E : pE} {o1 : Nat} {h : pH} (ho1 : ak o1 = 0 ∧ cx o1 = 0) {v : pH} (e : f_Depths_survey o1 h = some v) : Ct E M_Depths_survey [.ref 17, .ref o1] h none v :=
  Ct_of ok_Depths_survey [some (.ref 17), some (.ref o1), none, none, none, none] (Nat.le_of_ble_eq_true rfl) rfl (b_Depths_survey ho1 e ⟨rfl, rfl⟩)
def f_C_deepest (x1 : Int32) (h : pH) : Option (Int32 × pH) :=
  (f_Depths_survey 8 h).bind fun v_1 =>
  if x1 = 0 then
    some ((hI v_1 17 4), v_1)
  else
    if x1 = 1 then
      some ((hI v_1 17 5), v_1)
    else
      if x1 = 2 then
        some ((hI v_1 17 6), v_1)
      else
        if x1 = 3 then
          some ((hI v_1 17 7), v_1)
        else
          some ((-100000), v_1)
set_option maxHeartbeats 4000000 in
theorem b_C_deepest {E : pE} {r : Option Value} {hr : pH} {x1 : Int32} {h : pH}  {b : (Int32 × pH)} (e : f_C_deepest x1 h = some b) (k : (fun v : (Int32 × pH) => r = some (.int v.1) ∧ hr = v.2) b) : Go E M_C_deepest 0 [some (.ref 0), some (.int x1)] [] h r hr := by
  unfold f_C_deepest at e
  refine sl_ok ok_C_deepest [.aload_n 0, .getfield 45, .aload_n 0, .getfield 28] (pc1 := 8) (ls1 := [some (.ref 0), some (.int x1)]) (st1 := [.ref 8, .ref 17]) (h1 := h) (P := (ak 0 = 0 ∧ cx 0 = 11) ∧ (ak 0 = 0 ∧ cx 0 = 11) ∧ True) (by decide +kernel) rfl ⟨⟨rfl, rfl⟩, ⟨rfl, rfl⟩, trivial⟩ ?_
  obtain ⟨v_1, e_2, e⟩ := bi_s e
  refine q_callV ok_Depths_survey (as := [.ref 8]) (st := []) ⟨wd_388, wd_389, wd_390, wd_217, ds_Depths_survey, Nat.le_of_ble_eq_true rfl, Nat.le_of_ble_eq_true rfl⟩ (s_Depths_survey ⟨rfl, rfl⟩ e_2) rfl ⟨rfl, rfl⟩ (ci := 2) rfl (fun v hv => by cases hv) (Nat.le_of_ble_eq_true rfl) (by decide +kernel) rfl ?_
  refine sl_ok ok_C_deepest [.iload_n 1] (pc1 := 12) (ls1 := [some (.ref 0), some (.int x1)]) (st1 := [.int x1]) (h1 := v_1) (P := True) (by decide +kernel) rfl trivial ?_
  by_cases c_3 : x1 = 0
  · have e := it_t c_3 e
    refine q_tableIn (off := 32) (tgt := 44) (by decide +kernel : decode (mB M_C_deepest) 12 = .ok (.tableswitch 64 0 3 #[32, 40, 48, 56], 32)) (by rw [c_3]; decide) (by rw [c_3]; decide) (by rw [c_3]; decide) (by decide) ?_
    refine sl_ok ok_C_deepest [.aload_n 0, .getfield 45, .getfield 264] (pc1 := 51) (ls1 := [some (.ref 0), some (.int x1)]) (st1 := [.int (hI v_1 17 4)]) (h1 := v_1) (P := (ak 0 = 0 ∧ cx 0 = 11) ∧ (ak 17 = 0 ∧ cx 17 = 2) ∧ True) (by decide +kernel) rfl ⟨⟨rfl, rfl⟩, ⟨rfl, rfl⟩, trivial⟩ ?_
    cases e
    exact q_iret rfl k.1 k.2 (by decide +kernel)
  · have e := it_f c_3 e
    by_cases c_4 : x1 = 1
    · have e := it_t c_4 e
      refine q_tableIn (off := 40) (tgt := 52) (by decide +kernel : decode (mB M_C_deepest) 12 = .ok (.tableswitch 64 0 3 #[32, 40, 48, 56], 32)) (by rw [c_4]; decide) (by rw [c_4]; decide) (by rw [c_4]; decide) (by decide) ?_
      refine sl_ok ok_C_deepest [.aload_n 0, .getfield 45, .getfield 267] (pc1 := 59) (ls1 := [some (.ref 0), some (.int x1)]) (st1 := [.int (hI v_1 17 5)]) (h1 := v_1) (P := (ak 0 = 0 ∧ cx 0 = 11) ∧ (ak 17 = 0 ∧ cx 17 = 2) ∧ True) (by decide +kernel) rfl ⟨⟨rfl, rfl⟩, ⟨rfl, rfl⟩, trivial⟩ ?_
      cases e
      exact q_iret rfl k.1 k.2 (by decide +kernel)
    · have e := it_f c_4 e
      by_cases c_5 : x1 = 2
      · have e := it_t c_5 e
        refine q_tableIn (off := 48) (tgt := 60) (by decide +kernel : decode (mB M_C_deepest) 12 = .ok (.tableswitch 64 0 3 #[32, 40, 48, 56], 32)) (by rw [c_5]; decide) (by rw [c_5]; decide) (by rw [c_5]; decide) (by decide) ?_
        refine sl_ok ok_C_deepest [.aload_n 0, .getfield 45, .getfield 270] (pc1 := 67) (ls1 := [some (.ref 0), some (.int x1)]) (st1 := [.int (hI v_1 17 6)]) (h1 := v_1) (P := (ak 0 = 0 ∧ cx 0 = 11) ∧ (ak 17 = 0 ∧ cx 17 = 2) ∧ True) (by decide +kernel) rfl ⟨⟨rfl, rfl⟩, ⟨rfl, rfl⟩, trivial⟩ ?_
        cases e
        exact q_iret rfl k.1 k.2 (by decide +kernel)
      · have e := it_f c_5 e
        by_cases c_6 : x1 = 3
        · have e := it_t c_6 e
          refine q_tableIn (off := 56) (tgt := 68) (by decide +kernel : decode (mB M_C_deepest) 12 = .ok (.tableswitch 64 0 3 #[32, 40, 48, 56], 32)) (by rw [c_6]; decide) (by rw [c_6]; decide) (by rw [c_6]; decide) (by decide) ?_
          refine sl_ok ok_C_deepest [.aload_n 0, .getfield 45, .getfield 273] (pc1 := 75) (ls1 := [some (.ref 0), some (.int x1)]) (st1 := [.int (hI v_1 17 7)]) (h1 := v_1) (P := (ak 0 = 0 ∧ cx 0 = 11) ∧ (ak 17 = 0 ∧ cx 17 = 2) ∧ True) (by decide +kernel) rfl ⟨⟨rfl, rfl⟩, ⟨rfl, rfl⟩, trivial⟩ ?_
          cases e
          exact q_iret rfl k.1 k.2 (by decide +kernel)
        · have e := it_f c_6 e
          refine q_tableOut (tgt := 76) (by decide +kernel : decode (mB M_C_deepest) 12 = .ok (.tableswitch 64 0 3 #[32, 40, 48, 56], 32)) (sw_out [0, 1, 2, 3] (by decide) ⟨c_3, c_4, c_5, c_6, trivial⟩) (by decide) ?_
          refine sl_ok ok_C_deepest [.ldc 170] (pc1 := 78) (ls1 := [some (.ref 0), some (.int x1)]) (st1 := [.int (-100000)]) (h1 := v_1) (P := True) (by decide +kernel) rfl trivial ?_
          cases e
          exact q_iret rfl k.1 k.2 (by decide +kernel)
theorem s_C_deepest {E : pE} {x1 : Int32} {h : pH}  {v : (Int32 × pH)} (e : f_C_deepest x1 h = some v) : Ct E M_C_deepest [.ref 0, .int x1] h (some (.int v.1)) v.2 :=
  Ct_of ok_C_deepest [some (.ref 0), some (.int x1)] (Nat.le_of_ble_eq_true rfl) rfl (b_C_deepest  e ⟨rfl, rfl⟩)
def f_R_deepestOf_J3 (x1 : Int32) (x2 : Int32) (x3 : Int32) (x4 : Int32) (x5 : Int32) (h : pH) : Option ((Int32 × Int32 × pH) ⊕ ((Int32 × Int32 × pH) ⊕ (Int32 × pH))) :=
  if x5 = x2 then
    some (.inl (x2, (x4 + 1), (sI h 79 34 ((hI h 79 34) + 1))))
  else
    some (.inl (x2, (x4 + 1), h))
set_option maxHeartbeats 4000000 in
theorem b_R_deepestOf_J3 {E : pE} {r : Option Value} {hr : pH} {x1 : Int32} {x2 : Int32} {x3 : Int32} {x4 : Int32} {x5 : Int32} {h : pH}  {b : ((Int32 × Int32 × pH) ⊕ ((Int32 × Int32 × pH) ⊕ (Int32 × pH)))} (e : f_R_deepestOf_J3 x1 x2 x3 x4 x5 h = some b) (k : (Sum.elim (fun s : (Int32 × Int32 × pH) => Go E M_R_deepestOf 21 [some (.ref 79), some (.int x1), some (.int s.1), some (.int x3), some (.int s.2.1), none] [] s.2.2 r hr) (Sum.elim (fun s : (Int32 × Int32 × pH) => Go E M_R_deepestOf 12 [some (.ref 79), some (.int x1), some (.int s.1), some (.int s.2.1), none, none] [] s.2.2 r hr) (fun v : (Int32 × pH) => r = some (.int v.1) ∧ hr = v.2))) b) : Go E M_R_deepestOf 61 [some (.ref 79), some (.int x1), some (.int x2), some (.int x3), some (.int x4), some (.int x5)] [] h r hr := by
  unfold f_R_deepestOf_J3 at e
  refine sl_ok ok_R_deepestOf [.iload 5, .iload_n 2] (pc1 := 64) (ls1 := [some (.ref 79), some (.int x1), some (.int x2), some (.int x3), some (.int x4), some (.int x5)]) (st1 := [.int x2, .int x5]) (h1 := h) (P := True) (by decide +kernel) rfl trivial ?_
  refine q_icmp_ne (off := 13) (tgt := 77) (by decide +kernel) (by decide) (fun c_1 => ?_) (fun c_1 => ?_)
  · have e := it_f c_1 e
    refine sl_ok ok_R_deepestOf [.iinc 4 1] (pc1 := 80) (ls1 := [some (.ref 79), some (.int x1), some (.int x2), some (.int x3), some (.int (x4 + 1)), some (.int x5)]) (st1 := []) (h1 := h) (P := True) (by decide +kernel) rfl trivial ?_
    refine q_goto (off := -59) (tgt := 21) (by decide) (by decide +kernel) ?_
    cases e
    refine Go.sb [some (.ref 79), some (.int x1), some (.int x2), some (.int x3), some (.int (x4 + 1)), none] (And.intro rfl (And.intro rfl (And.intro rfl (And.intro rfl (And.intro rfl trivial))))) ?_
    exact k
  · have e := it_t c_1 e
    refine sl_ok ok_R_deepestOf [.aload_n 0, .dup, .getfield 299, .iconst 1, .iadd, .putfield 299, .iinc 4 1] (pc1 := 80) (ls1 := [some (.ref 79), some (.int x1), some (.int x2), some (.int x3), some (.int (x4 + 1)), some (.int x5)]) (st1 := []) (h1 := (sI h 79 34 ((hI h 79 34) + 1))) (P := (ak 79 = 0 ∧ cx 79 = 12) ∧ (ak 79 = 0 ∧ cx 79 = 12) ∧ True) (by decide +kernel) rfl ⟨⟨rfl, rfl⟩, ⟨rfl, rfl⟩, trivial⟩ ?_
    refine q_goto (off := -59) (tgt := 21) (by decide) (by decide +kernel) ?_
    cases e
    refine Go.sb [some (.ref 79), some (.int x1), some (.int x2), some (.int x3), some (.int (x4 + 1)), none] (And.intro rfl (And.intro rfl (And.intro rfl (And.intro rfl (And.intro rfl trivial))))) ?_
    exact k
def f_R_deepestOf_L2 (x1 : Int32) (x3 : Int32) (x2 : Int32) (x4 : Int32) (h : pH) : Option ((Int32 × Int32 × pH) ⊕ ((Int32 × Int32 × pH) ⊕ (Int32 × pH))) :=
  if x1 < x4 then
    some (.inr (.inl (x2, (x3 + 1), h)))
  else
    (f_R_depthOf x4 x3 h).bind fun v_2 =>
    if v_2 ≤ x2 then
      f_R_deepestOf_J3 x1 x2 x3 x4 v_2 h
    else
      f_R_deepestOf_J3 x1 v_2 x3 x4 v_2 (sI (sI (sI h 79 32 x4) 79 33 x3) 79 34 0)
set_option maxHeartbeats 4000000 in
theorem b_R_deepestOf_L2 {E : pE} {r : Option Value} {hr : pH} {x1 : Int32} {x3 : Int32} {x2 : Int32} {x4 : Int32} {h : pH}  {b : ((Int32 × Int32 × pH) ⊕ ((Int32 × Int32 × pH) ⊕ (Int32 × pH)))} (e : f_R_deepestOf_L2 x1 x3 x2 x4 h = some b) (k : (Sum.elim (fun s : (Int32 × Int32 × pH) => Go E M_R_deepestOf 21 [some (.ref 79), some (.int x1), some (.int s.1), some (.int x3), some (.int s.2.1), none] [] s.2.2 r hr) (Sum.elim (fun s : (Int32 × Int32 × pH) => Go E M_R_deepestOf 12 [some (.ref 79), some (.int x1), some (.int s.1), some (.int s.2.1), none, none] [] s.2.2 r hr) (fun v : (Int32 × pH) => r = some (.int v.1) ∧ hr = v.2))) b) : Go E M_R_deepestOf 21 [some (.ref 79), some (.int x1), some (.int x2), some (.int x3), some (.int x4), none] [] h r hr := by
  unfold f_R_deepestOf_L2 at e
  refine sl_ok ok_R_deepestOf [.iload 4, .iload_n 1] (pc1 := 24) (ls1 := [some (.ref 79), some (.int x1), some (.int x2), some (.int x3), some (.int x4), none]) (st1 := [.int x1, .int x4]) (h1 := h) (P := True) (by decide +kernel) rfl trivial ?_
  refine q_icmp_gt (off := 59) (tgt := 83) (by decide +kernel) (by decide) (fun c_1 => ?_) (fun c_1 => ?_)
  · have e := it_t c_1 e
    refine sl_ok ok_R_deepestOf [.iinc 3 1] (pc1 := 86) (ls1 := [some (.ref 79), some (.int x1), some (.int x2), some (.int (x3 + 1)), some (.int x4), none]) (st1 := []) (h1 := h) (P := True) (by decide +kernel) rfl trivial ?_
    refine q_goto (off := -74) (tgt := 12) (by decide) (by decide +kernel) ?_
    cases e
    refine Go.sb [some (.ref 79), some (.int x1), some (.int x2), some (.int (x3 + 1)), none, none] (And.intro rfl (And.intro rfl (And.intro rfl (And.intro rfl trivial)))) ?_
    exact k
  · have e := it_f c_1 e
    refine sl_ok ok_R_deepestOf [.aload_n 0, .iload 4, .iload_n 3] (pc1 := 31) (ls1 := [some (.ref 79), some (.int x1), some (.int x2), some (.int x3), some (.int x4), none]) (st1 := [.int x3, .int x4, .ref 79]) (h1 := h) (P := True) (by decide +kernel) rfl trivial ?_
    obtain ⟨v_2, e_3, e⟩ := bi_s e
    refine q_callV ok_R_depthOf (as := [.int x4, .int x3]) (st := []) ⟨wd_295, wd_296, wd_297, wd_7, ds_R_depthOf, Nat.le_of_ble_eq_true rfl, Nat.le_of_ble_eq_true rfl⟩ (s_R_depthOf  e_3) rfl ⟨rfl, rfl⟩ (ci := 12) rfl (fun v hv => by cases hv; rfl) (Nat.le_of_ble_eq_true rfl) (by decide +kernel) rfl ?_
    refine sl_ok ok_R_deepestOf [.istore 5, .iload 5, .iload_n 2] (pc1 := 39) (ls1 := [some (.ref 79), some (.int x1), some (.int x2), some (.int x3), some (.int x4), some (.int v_2)]) (st1 := [.int x2, .int v_2]) (h1 := h) (P := True) (by decide +kernel) rfl trivial ?_
    refine q_icmp_le (off := 22) (tgt := 61) (by decide +kernel) (by decide) (fun c_4 => ?_) (fun c_4 => ?_)
    · have e := it_t c_4 e
      exact b_R_deepestOf_J3  e k
    · have e := it_f c_4 e
      refine sl_ok ok_R_deepestOf [.iload 5, .istore_n 2, .aload_n 0, .iload 4, .putfield 293, .aload_n 0, .iload_n 3, .putfield 296, .aload_n 0, .iconst 0, .putfield 299] (pc1 := 61) (ls1 := [some (.ref 79), some (.int x1), some (.int v_2), some (.int x3), some (.int x4), some (.int v_2)]) (st1 := []) (h1 := (sI (sI (sI h 79 32 x4) 79 33 x3) 79 34 0)) (P := (ak 79 = 0 ∧ cx 79 = 12) ∧ (ak 79 = 0 ∧ cx 79 = 12) ∧ (ak 79 = 0 ∧ cx 79 = 12) ∧ True) (by decide +kernel) rfl ⟨⟨rfl, rfl⟩, ⟨rfl, rfl⟩, ⟨rfl, rfl⟩, trivial⟩ ?_
      exact b_R_deepestOf_J3  e k
def f_R_deepestOf_L1 (x1 : Int32) (x2 : Int32) (x3 : Int32) (h : pH) : Option ((Int32 × Int32 × pH) ⊕ (Int32 × pH)) :=
  if x1 < x3 then
    some (.inr (x2, h))
  else
    lp (fun s => f_R_deepestOf_L2 x1 x3 s.1 s.2.1 s.2.2) lpN (x2, (-x1), h)
set_option maxHeartbeats 4000000 in
theorem b_R_deepestOf_L1 {E : pE} {r : Option Value} {hr : pH} {x1 : Int32} {x2 : Int32} {x3 : Int32} {h : pH}  {b : ((Int32 × Int32 × pH) ⊕ (Int32 × pH))} (e : f_R_deepestOf_L1 x1 x2 x3 h = some b) (k : (Sum.elim (fun s : (Int32 × Int32 × pH) => Go E M_R_deepestOf 12 [some (.ref 79), some (.int x1), some (.int s.1), some (.int s.2.1), none, none] [] s.2.2 r hr) (fun v : (Int32 × pH) => r = some (.int v.1) ∧ hr = v.2)) b) : Go E M_R_deepestOf 12 [some (.ref 79), some (.int x1), some (.int x2), some (.int x3), none, none] [] h r hr := by
  unfold f_R_deepestOf_L1 at e
  refine sl_ok ok_R_deepestOf [.iload_n 3, .iload_n 1] (pc1 := 14) (ls1 := [some (.ref 79), some (.int x1), some (.int x2), some (.int x3), none, none]) (st1 := [.int x1, .int x3]) (h1 := h) (P := True) (by decide +kernel) rfl trivial ?_
  refine q_icmp_gt (off := 75) (tgt := 89) (by decide +kernel) (by decide) (fun c_1 => ?_) (fun c_1 => ?_)
  · have e := it_t c_1 e
    refine sl_ok ok_R_deepestOf [.iload_n 2] (pc1 := 90) (ls1 := [some (.ref 79), some (.int x1), some (.int x2), some (.int x3), none, none]) (st1 := [.int x2]) (h1 := h) (P := True) (by decide +kernel) rfl trivial ?_
    cases e
    exact q_iret rfl k.1 k.2 (by decide +kernel)
  · have e := it_f c_1 e
    refine sl_ok ok_R_deepestOf [.iload_n 1, .ineg, .istore 4] (pc1 := 21) (ls1 := [some (.ref 79), some (.int x1), some (.int x2), some (.int x3), some (.int (-x1)), none]) (st1 := []) (h1 := h) (P := True) (by decide +kernel) rfl trivial ?_
    exact lp_in e (fun s => Go E M_R_deepestOf 21 [some (.ref 79), some (.int x1), some (.int s.1), some (.int x3), some (.int s.2.1), none] [] s.2.2 r hr) (Sum.elim (fun s : (Int32 × Int32 × pH) => Go E M_R_deepestOf 12 [some (.ref 79), some (.int x1), some (.int s.1), some (.int s.2.1), none, none] [] s.2.2 r hr) (fun v : (Int32 × pH) => r = some (.int v.1) ∧ hr = v.2)) (fun _ _ e k => b_R_deepestOf_L2  e k) k
def f_R_deepestOf (h : pH) : Option (Int32 × pH) :=
  lp (fun s => f_R_deepestOf_L1 (hI h 87 1) s.1 s.2.1 s.2.2) lpN ((-1), (-(hI h 87 1)), h)
set_option maxHeartbeats 4000000 in
theorem b_R_deepestOf {E : pE} {r : Option Value} {hr : pH} {h : pH}  {b : (Int32 × pH)} (e : f_R_deepestOf h = some b) (k : (fun v : (Int32 × pH) => r = some (.int v.1) ∧ hr = v.2) b) : Go E M_R_deepestOf 0 [some (.ref 79), none, none, none, none, none] [] h r hr := by
  unfold f_R_deepestOf at e
  refine sl_ok ok_R_deepestOf [.aload_n 0, .getfield 40, .iconst 1, .iaload, .istore_n 1, .iconst (-1), .istore_n 2, .iload_n 1, .ineg, .istore_n 3] (pc1 := 12) (ls1 := [some (.ref 79), some (.int (hI h 87 1)), some (.int (-1)), some (.int (-(hI h 87 1))), none, none]) (st1 := []) (h1 := h) (P := (ak 79 = 0 ∧ cx 79 = 12) ∧ (ak 87 = 1 ∧ ¬ ((1 : Int32) < 0 ∨ cx 87 ≤ (1 : Int32).toNatClampNeg)) ∧ True) (by decide +kernel) rfl ⟨⟨rfl, rfl⟩, ⟨rfl, (by decide)⟩, trivial⟩ ?_
  exact lp_in e (fun s => Go E M_R_deepestOf 12 [some (.ref 79), some (.int (hI h 87 1)), some (.int s.1), some (.int s.2.1), none, none] [] s.2.2 r hr) (fun v : (Int32 × pH) => r = some (.int v.1) ∧ hr = v.2) (fun _ _ e k => b_R_deepestOf_L1  e k) k
theorem s_R_deepestOf {E : pE} {h : pH}  {v : (Int32 × pH)} (e : f_R_deepestOf h = some v) : Ct E M_R_deepestOf [.ref 79] h (some (.int v.1)) v.2 :=
  Ct_of ok_R_deepestOf [some (.ref 79), none, none, none, none, none] (Nat.le_of_ble_eq_true rfl) rfl (b_R_deepestOf  e ⟨rfl, rfl⟩)
def f_R_deepest (x1 : Int32) (h : pH) : Option (Int32 × pH) :=
  if (f_R_in x1 (0 : Int32) (3 : Int32)) = 0 then
    some ((-100000), h)
  else
    (f_R_deepestOf h).bind fun v_2 =>
    if x1 = 0 then
      some (v_2.1, v_2.2)
    else
      if x1 = 1 then
        some ((hI v_2.2 79 34), v_2.2)
      else
        if x1 = 2 then
          some ((hI v_2.2 79 32), v_2.2)
        else
          some ((hI v_2.2 79 33), v_2.2)
set_option maxHeartbeats 4000000 in
theorem b_R_deepest {E : pE} {r : Option Value} {hr : pH} {x1 : Int32} {h : pH}  {b : (Int32 × pH)} (e : f_R_deepest x1 h = some b) (k : (fun v : (Int32 × pH) => r = some (.int v.1) ∧ hr = v.2) b) : Go E M_R_deepest 0 [some (.ref 79), some (.int x1), none] [] h r hr := by
  unfold f_R_deepest at e
  refine sl_ok ok_R_deepest [.iload_n 1, .iconst 0, .iconst 3] (pc1 := 3) (ls1 := [some (.ref 79), some (.int x1), none]) (st1 := [.int 3, .int 0, .int x1]) (h1 := h) (P := True) (by decide +kernel) rfl trivial ?_
  refine q_callS ok_R_in (as := [.int x1, .int 0, .int 3]) (st := []) ⟨wd_127, wd_128, wd_7, ds_R_in, Nat.le_of_ble_eq_true rfl, Nat.le_of_ble_eq_true rfl⟩ (s_R_in ) rfl (fun v hv => by cases hv; rfl) (Nat.le_of_ble_eq_true rfl) (by decide +kernel) rfl ?_
  refine q_if_ne (off := 6) (tgt := 12) (by decide +kernel) (by decide) (fun c_1 => ?_) (fun c_1 => ?_)
  · have e := it_f c_1 e
    refine sl_ok ok_R_deepest [.aload_n 0] (pc1 := 13) (ls1 := [some (.ref 79), some (.int x1), none]) (st1 := [.ref 79]) (h1 := h) (P := True) (by decide +kernel) rfl trivial ?_
    obtain ⟨v_2, e_3, e⟩ := bi_s e
    refine q_callV ok_R_deepestOf (as := []) (st := []) ⟨wd_391, wd_392, wd_393, wd_7, ds_R_deepestOf, Nat.le_of_ble_eq_true rfl, Nat.le_of_ble_eq_true rfl⟩ (s_R_deepestOf  e_3) rfl ⟨rfl, rfl⟩ (ci := 12) rfl (fun v hv => by cases hv; rfl) (Nat.le_of_ble_eq_true rfl) (by decide +kernel) rfl ?_
    refine sl_ok ok_R_deepest [.istore_n 2, .iload_n 1] (pc1 := 18) (ls1 := [some (.ref 79), some (.int x1), some (.int v_2.1)]) (st1 := [.int x1]) (h1 := v_2.2) (P := True) (by decide +kernel) rfl trivial ?_
    refine q_if_ne (off := 7) (tgt := 25) (by decide +kernel) (by decide) (fun c_4 => ?_) (fun c_4 => ?_)
    · have e := it_f c_4 e
      refine sl_ok ok_R_deepest [.iload_n 1, .iconst 1] (pc1 := 27) (ls1 := [some (.ref 79), some (.int x1), some (.int v_2.1)]) (st1 := [.int 1, .int x1]) (h1 := v_2.2) (P := True) (by decide +kernel) rfl trivial ?_
      refine q_icmp_ne (off := 10) (tgt := 37) (by decide +kernel) (by decide) (fun c_5 => ?_) (fun c_5 => ?_)
      · have e := it_f c_5 e
        refine sl_ok ok_R_deepest [.iload_n 1, .iconst 2] (pc1 := 39) (ls1 := [some (.ref 79), some (.int x1), some (.int v_2.1)]) (st1 := [.int 2, .int x1]) (h1 := v_2.2) (P := True) (by decide +kernel) rfl trivial ?_
        refine q_icmp_ne (off := 10) (tgt := 49) (by decide +kernel) (by decide) (fun c_6 => ?_) (fun c_6 => ?_)
        · have e := it_f c_6 e
          refine sl_ok ok_R_deepest [.aload_n 0, .getfield 296] (pc1 := 53) (ls1 := [some (.ref 79), some (.int x1), some (.int v_2.1)]) (st1 := [.int (hI v_2.2 79 33)]) (h1 := v_2.2) (P := (ak 79 = 0 ∧ cx 79 = 12) ∧ True) (by decide +kernel) rfl ⟨⟨rfl, rfl⟩, trivial⟩ ?_
          cases e
          exact q_iret rfl k.1 k.2 (by decide +kernel)
        · have e := it_t c_6 e
          refine sl_ok ok_R_deepest [.aload_n 0, .getfield 293] (pc1 := 46) (ls1 := [some (.ref 79), some (.int x1), some (.int v_2.1)]) (st1 := [.int (hI v_2.2 79 32)]) (h1 := v_2.2) (P := (ak 79 = 0 ∧ cx 79 = 12) ∧ True) (by decide +kernel) rfl ⟨⟨rfl, rfl⟩, trivial⟩ ?_
          refine q_goto (off := 7) (tgt := 53) (by decide) (by decide +kernel) ?_
          cases e
          exact q_iret rfl k.1 k.2 (by decide +kernel)
      · have e := it_t c_5 e
        refine sl_ok ok_R_deepest [.aload_n 0, .getfield 299] (pc1 := 34) (ls1 := [some (.ref 79), some (.int x1), some (.int v_2.1)]) (st1 := [.int (hI v_2.2 79 34)]) (h1 := v_2.2) (P := (ak 79 = 0 ∧ cx 79 = 12) ∧ True) (by decide +kernel) rfl ⟨⟨rfl, rfl⟩, trivial⟩ ?_
        refine q_goto (off := 19) (tgt := 53) (by decide) (by decide +kernel) ?_
        cases e
        exact q_iret rfl k.1 k.2 (by decide +kernel)
    · have e := it_t c_4 e
      refine sl_ok ok_R_deepest [.iload_n 2] (pc1 := 22) (ls1 := [some (.ref 79), some (.int x1), some (.int v_2.1)]) (st1 := [.int v_2.1]) (h1 := v_2.2) (P := True) (by decide +kernel) rfl trivial ?_
      refine q_goto (off := 31) (tgt := 53) (by decide) (by decide +kernel) ?_
      cases e
      exact q_iret rfl k.1 k.2 (by decide +kernel)
  · have e := it_t c_1 e
    refine sl_ok ok_R_deepest [.ldc 220] (pc1 := 11) (ls1 := [some (.ref 79), some (.int x1), none]) (st1 := [.int (-100000)]) (h1 := h) (P := True) (by decide +kernel) rfl trivial ?_
    cases e
    exact q_iret rfl k.1 k.2 (by decide +kernel)
theorem s_R_deepest {E : pE} {x1 : Int32} {h : pH}  {v : (Int32 × pH)} (e : f_R_deepest x1 h = some v) : Ct E M_R_deepest [.ref 79, .int x1] h (some (.int v.1)) v.2 :=
  Ct_of ok_R_deepest [some (.ref 79), some (.int x1), none] (Nat.le_of_ble_eq_true rfl) rfl (b_R_deepest  e ⟨rfl, rfl⟩)
