def f_R_four_L1 (x5 : Int32) (h : pH) (x6 : Int32) : Option (Int32 ⊕ (Int32 × pH)) :=
  if (hI h 79 31) ≤ x6 then
    some (.inr ((-1), h))
  else
    if x6 < 0 ∨ 900 ≤ x6.toNatClampNeg then none else
    if ((hI h 96 x6.toNatClampNeg) ||| (hI h 97 x6.toNatClampNeg)) = x5 then
      (f_R_topmost (x5 &&& (-x5))).bind fun v_4 =>
      if (f_R_has (hI h 96 x6.toNatClampNeg) v_4) = 0 then
        some (.inr ((hI h 97 x6.toNatClampNeg), h))
      else
        some (.inr ((hI h 96 x6.toNatClampNeg), h))
    else
      some (.inl (x6 + 1))
set_option maxHeartbeats 4000000 in
theorem b_R_four_L1 {E : pE} {r : Option Value} {hr : pH} {x5 : Int32} {h : pH} {x6 : Int32}  {b : (Int32 ⊕ (Int32 × pH))} (e : f_R_four_L1 x5 h x6 = some b) (k : (Sum.elim (fun s : Int32 => Go E M_R_four 117 [some (.ref 79), none, none, none, none, some (.int x5), some (.int s)] [] h r hr) (fun v : (Int32 × pH) => r = some (.int v.1) ∧ hr = v.2)) b) : Go E M_R_four 117 [some (.ref 79), none, none, none, none, some (.int x5), some (.int x6)] [] h r hr := by
  unfold f_R_four_L1 at e
  refine sl_ok ok_R_four [.iload 6, .aload_n 0, .getfield 258] (pc1 := 123) (ls1 := [some (.ref 79), none, none, none, none, some (.int x5), some (.int x6)]) (st1 := [.int (hI h 79 31), .int x6]) (h1 := h) (P := (ak 79 = 0 ∧ cx 79 = 12) ∧ True) (by decide +kernel) rfl ⟨⟨rfl, rfl⟩, trivial⟩ ?_
  refine q_icmp_ge (off := 69) (tgt := 192) (by decide +kernel) (by decide) (fun c_1 => ?_) (fun c_1 => ?_)
  · have e := it_t c_1 e
    refine sl_ok ok_R_four [.iconst (-1)] (pc1 := 193) (ls1 := [some (.ref 79), none, none, none, none, some (.int x5), some (.int x6)]) (st1 := [.int (-1)]) (h1 := h) (P := True) (by decide +kernel) rfl trivial ?_
    cases e
    exact q_iret rfl k.1 k.2 (by decide +kernel)
  · have e := it_f c_1 e
    obtain ⟨g_2, e⟩ := it_g e
    refine sl_ok ok_R_four [.aload_n 0, .getfield 68, .iload 6, .iaload, .aload_n 0, .getfield 71, .iload 6, .iaload, .ior, .iload 5] (pc1 := 143) (ls1 := [some (.ref 79), none, none, none, none, some (.int x5), some (.int x6)]) (st1 := [.int x5, .int ((hI h 96 x6.toNatClampNeg) ||| (hI h 97 x6.toNatClampNeg))]) (h1 := h) (P := (ak 79 = 0 ∧ cx 79 = 12) ∧ (ak 96 = 1 ∧ ¬ (x6 < 0 ∨ cx 96 ≤ x6.toNatClampNeg)) ∧ (ak 79 = 0 ∧ cx 79 = 12) ∧ (ak 97 = 1 ∧ ¬ (x6 < 0 ∨ cx 97 ≤ x6.toNatClampNeg)) ∧ True) (by decide +kernel) rfl ⟨⟨rfl, rfl⟩, ⟨rfl, g_2⟩, ⟨rfl, rfl⟩, ⟨rfl, g_2⟩, trivial⟩ ?_
    refine q_icmp_ne (off := 43) (tgt := 186) (by decide +kernel) (by decide) (fun c_3 => ?_) (fun c_3 => ?_)
    · have e := it_f c_3 e
      refine sl_ok ok_R_four [.iinc 6 1] (pc1 := 189) (ls1 := [some (.ref 79), none, none, none, none, some (.int x5), some (.int (x6 + 1))]) (st1 := []) (h1 := h) (P := True) (by decide +kernel) rfl trivial ?_
      refine q_goto (off := -72) (tgt := 117) (by decide) (by decide +kernel) ?_
      cases e
      exact k
    · have e := it_t c_3 e
      refine sl_ok ok_R_four [.aload_n 0, .getfield 68, .iload 6, .iaload, .iload 5, .iload 5, .ineg, .iand] (pc1 := 159) (ls1 := [some (.ref 79), none, none, none, none, some (.int x5), some (.int x6)]) (st1 := [.int (x5 &&& (-x5)), .int (hI h 96 x6.toNatClampNeg)]) (h1 := h) (P := (ak 79 = 0 ∧ cx 79 = 12) ∧ (ak 96 = 1 ∧ ¬ (x6 < 0 ∨ cx 96 ≤ x6.toNatClampNeg)) ∧ True) (by decide +kernel) rfl ⟨⟨rfl, rfl⟩, ⟨rfl, g_2⟩, trivial⟩ ?_
      obtain ⟨v_4, e_5, e⟩ := bi_s e
      refine q_callS ok_R_topmost (as := [.int (x5 &&& (-x5))]) (st := [.int (hI h 96 x6.toNatClampNeg)]) ⟨wd_495, wd_496, wd_7, ds_R_topmost, Nat.le_of_ble_eq_true rfl, Nat.le_of_ble_eq_true rfl⟩ (s_R_topmost  e_5) rfl (fun v hv => by cases hv; rfl) (Nat.le_of_ble_eq_true rfl) (by decide +kernel) rfl ?_
      refine q_callS ok_R_has (as := [.int (hI h 96 x6.toNatClampNeg), .int v_4]) (st := []) ⟨wd_255, wd_256, wd_7, ds_R_has, Nat.le_of_ble_eq_true rfl, Nat.le_of_ble_eq_true rfl⟩ (s_R_has ) rfl (fun v hv => by cases hv; rfl) (Nat.le_of_ble_eq_true rfl) (by decide +kernel) rfl ?_
      refine q_if_eq (off := 13) (tgt := 178) (by decide +kernel) (by decide) (fun c_6 => ?_) (fun c_6 => ?_)
      · have e := it_t c_6 e
        refine sl_ok ok_R_four [.aload_n 0, .getfield 71, .iload 6, .iaload] (pc1 := 185) (ls1 := [some (.ref 79), none, none, none, none, some (.int x5), some (.int x6)]) (st1 := [.int (hI h 97 x6.toNatClampNeg)]) (h1 := h) (P := (ak 79 = 0 ∧ cx 79 = 12) ∧ (ak 97 = 1 ∧ ¬ (x6 < 0 ∨ cx 97 ≤ x6.toNatClampNeg)) ∧ True) (by decide +kernel) rfl ⟨⟨rfl, rfl⟩, ⟨rfl, g_2⟩, trivial⟩ ?_
        cases e
        exact q_iret rfl k.1 k.2 (by decide +kernel)
      · have e := it_f c_6 e
        refine sl_ok ok_R_four [.aload_n 0, .getfield 68, .iload 6, .iaload] (pc1 := 175) (ls1 := [some (.ref 79), none, none, none, none, some (.int x5), some (.int x6)]) (st1 := [.int (hI h 96 x6.toNatClampNeg)]) (h1 := h) (P := (ak 79 = 0 ∧ cx 79 = 12) ∧ (ak 96 = 1 ∧ ¬ (x6 < 0 ∨ cx 96 ≤ x6.toNatClampNeg)) ∧ True) (by decide +kernel) rfl ⟨⟨rfl, rfl⟩, ⟨rfl, g_2⟩, trivial⟩ ?_
        refine q_goto (off := 10) (tgt := 185) (by decide) (by decide +kernel) ?_
        cases e
        exact q_iret rfl k.1 k.2 (by decide +kernel)
def f_R_four (x1 : Int32) (x2 : Int32) (x3 : Int32) (x4 : Int32) (h : pH) : Option (Int32 × pH) :=
  if (f_R_isPoint x1 h) = 0 then
    some ((-1), h)
  else
    if (f_R_isPoint x2 h) = 0 then
      some ((-1), h)
    else
      if (f_R_isPoint x3 h) = 0 then
        some ((-1), h)
      else
        if (f_R_isPoint x4 h) = 0 then
          some ((-1), h)
        else
          (f_R_bitsOf ((((jshl 1 x1) ||| (jshl 1 x2)) ||| (jshl 1 x3)) ||| (jshl 1 x4))).bind fun v_5 =>
          if v_5 = 4 then
            (f_R_sideOf x1 x2 x3 h).bind fun v_8 =>
            if v_8 = 0 then
              some ((-2), h)
            else
              (f_R_sideOf x1 x2 x4 h).bind fun v_11 =>
              if v_11 = 0 then
                some ((-2), h)
              else
                (f_R_sideOf x1 x3 x4 h).bind fun v_14 =>
                if v_14 = 0 then
                  some ((-2), h)
                else
                  (f_R_sideOf x2 x3 x4 h).bind fun v_17 =>
                  if v_17 = 0 then
                    some ((-2), h)
                  else
                    (f_R_laysMeetings h).bind fun v_20 =>
                    lp (fun s => f_R_four_L1 ((((jshl 1 x1) ||| (jshl 1 x2)) ||| (jshl 1 x3)) ||| (jshl 1 x4)) v_20 s) lpN 0
          else
            some ((-1), h)
set_option maxHeartbeats 4000000 in
theorem b_R_four {E : pE} {r : Option Value} {hr : pH} {x1 : Int32} {x2 : Int32} {x3 : Int32} {x4 : Int32} {h : pH}  {b : (Int32 × pH)} (e : f_R_four x1 x2 x3 x4 h = some b) (k : (fun v : (Int32 × pH) => r = some (.int v.1) ∧ hr = v.2) b) : Go E M_R_four 0 [some (.ref 79), some (.int x1), some (.int x2), some (.int x3), some (.int x4), none, none] [] h r hr := by
  unfold f_R_four at e
  refine sl_ok ok_R_four [.aload_n 0, .iload_n 1] (pc1 := 2) (ls1 := [some (.ref 79), some (.int x1), some (.int x2), some (.int x3), some (.int x4), none, none]) (st1 := [.int x1, .ref 79]) (h1 := h) (P := True) (by decide +kernel) rfl trivial ?_
  refine q_callV ok_R_isPoint (as := [.int x1]) (st := []) ⟨wd_179, wd_180, wd_181, wd_7, ds_R_isPoint, Nat.le_of_ble_eq_true rfl, Nat.le_of_ble_eq_true rfl⟩ (s_R_isPoint ) rfl ⟨rfl, rfl⟩ (ci := 12) rfl (fun v hv => by cases hv; rfl) (Nat.le_of_ble_eq_true rfl) (by decide +kernel) rfl ?_
  refine q_if_eq (off := 28) (tgt := 33) (by decide +kernel) (by decide) (fun c_1 => ?_) (fun c_1 => ?_)
  · have e := it_t c_1 e
    refine sl_ok ok_R_four [.iconst (-1)] (pc1 := 34) (ls1 := [some (.ref 79), some (.int x1), some (.int x2), some (.int x3), some (.int x4), none, none]) (st1 := [.int (-1)]) (h1 := h) (P := True) (by decide +kernel) rfl trivial ?_
    cases e
    exact q_iret rfl k.1 k.2 (by decide +kernel)
  · have e := it_f c_1 e
    refine sl_ok ok_R_four [.aload_n 0, .iload_n 2] (pc1 := 10) (ls1 := [some (.ref 79), some (.int x1), some (.int x2), some (.int x3), some (.int x4), none, none]) (st1 := [.int x2, .ref 79]) (h1 := h) (P := True) (by decide +kernel) rfl trivial ?_
    refine q_callV ok_R_isPoint (as := [.int x2]) (st := []) ⟨wd_179, wd_180, wd_181, wd_7, ds_R_isPoint, Nat.le_of_ble_eq_true rfl, Nat.le_of_ble_eq_true rfl⟩ (s_R_isPoint ) rfl ⟨rfl, rfl⟩ (ci := 12) rfl (fun v hv => by cases hv; rfl) (Nat.le_of_ble_eq_true rfl) (by decide +kernel) rfl ?_
    refine q_if_eq (off := 20) (tgt := 33) (by decide +kernel) (by decide) (fun c_2 => ?_) (fun c_2 => ?_)
    · have e := it_t c_2 e
      refine sl_ok ok_R_four [.iconst (-1)] (pc1 := 34) (ls1 := [some (.ref 79), some (.int x1), some (.int x2), some (.int x3), some (.int x4), none, none]) (st1 := [.int (-1)]) (h1 := h) (P := True) (by decide +kernel) rfl trivial ?_
      cases e
      exact q_iret rfl k.1 k.2 (by decide +kernel)
    · have e := it_f c_2 e
      refine sl_ok ok_R_four [.aload_n 0, .iload_n 3] (pc1 := 18) (ls1 := [some (.ref 79), some (.int x1), some (.int x2), some (.int x3), some (.int x4), none, none]) (st1 := [.int x3, .ref 79]) (h1 := h) (P := True) (by decide +kernel) rfl trivial ?_
      refine q_callV ok_R_isPoint (as := [.int x3]) (st := []) ⟨wd_179, wd_180, wd_181, wd_7, ds_R_isPoint, Nat.le_of_ble_eq_true rfl, Nat.le_of_ble_eq_true rfl⟩ (s_R_isPoint ) rfl ⟨rfl, rfl⟩ (ci := 12) rfl (fun v hv => by cases hv; rfl) (Nat.le_of_ble_eq_true rfl) (by decide +kernel) rfl ?_
      refine q_if_eq (off := 12) (tgt := 33) (by decide +kernel) (by decide) (fun c_3 => ?_) (fun c_3 => ?_)
      · have e := it_t c_3 e
        refine sl_ok ok_R_four [.iconst (-1)] (pc1 := 34) (ls1 := [some (.ref 79), some (.int x1), some (.int x2), some (.int x3), some (.int x4), none, none]) (st1 := [.int (-1)]) (h1 := h) (P := True) (by decide +kernel) rfl trivial ?_
        cases e
        exact q_iret rfl k.1 k.2 (by decide +kernel)
      · have e := it_f c_3 e
        refine sl_ok ok_R_four [.aload_n 0, .iload 4] (pc1 := 27) (ls1 := [some (.ref 79), some (.int x1), some (.int x2), some (.int x3), some (.int x4), none, none]) (st1 := [.int x4, .ref 79]) (h1 := h) (P := True) (by decide +kernel) rfl trivial ?_
        refine q_callV ok_R_isPoint (as := [.int x4]) (st := []) ⟨wd_179, wd_180, wd_181, wd_7, ds_R_isPoint, Nat.le_of_ble_eq_true rfl, Nat.le_of_ble_eq_true rfl⟩ (s_R_isPoint ) rfl ⟨rfl, rfl⟩ (ci := 12) rfl (fun v hv => by cases hv; rfl) (Nat.le_of_ble_eq_true rfl) (by decide +kernel) rfl ?_
        refine q_if_ne (off := 5) (tgt := 35) (by decide +kernel) (by decide) (fun c_4 => ?_) (fun c_4 => ?_)
        · have e := it_f c_4 e
          refine sl_ok ok_R_four [.iconst 1, .iload_n 1, .ishl, .iconst 1, .iload_n 2, .ishl, .ior, .iconst 1, .iload_n 3, .ishl, .ior, .iconst 1, .iload 4, .ishl, .ior, .istore 5, .iload 5] (pc1 := 55) (ls1 := [some (.ref 79), some (.int x1), some (.int x2), some (.int x3), some (.int x4), some (.int ((((jshl 1 x1) ||| (jshl 1 x2)) ||| (jshl 1 x3)) ||| (jshl 1 x4))), none]) (st1 := [.int ((((jshl 1 x1) ||| (jshl 1 x2)) ||| (jshl 1 x3)) ||| (jshl 1 x4))]) (h1 := h) (P := True) (by decide +kernel) rfl trivial ?_
          obtain ⟨v_5, e_6, e⟩ := bi_s e
          refine q_callS ok_R_bitsOf (as := [.int ((((jshl 1 x1) ||| (jshl 1 x2)) ||| (jshl 1 x3)) ||| (jshl 1 x4))]) (st := []) ⟨wd_304, wd_305, wd_7, ds_R_bitsOf, Nat.le_of_ble_eq_true rfl, Nat.le_of_ble_eq_true rfl⟩ (s_R_bitsOf  e_6) rfl (fun v hv => by cases hv; rfl) (Nat.le_of_ble_eq_true rfl) (by decide +kernel) rfl ?_
          refine sl_ok ok_R_four [.iconst 4] (pc1 := 59) (ls1 := [some (.ref 79), some (.int x1), some (.int x2), some (.int x3), some (.int x4), some (.int ((((jshl 1 x1) ||| (jshl 1 x2)) ||| (jshl 1 x3)) ||| (jshl 1 x4))), none]) (st1 := [.int 4, .int v_5]) (h1 := h) (P := True) (by decide +kernel) rfl trivial ?_
          refine q_icmp_eq (off := 5) (tgt := 64) (by decide +kernel) (by decide) (fun c_7 => ?_) (fun c_7 => ?_)
          · have e := it_t c_7 e
            refine sl_ok ok_R_four [.aload_n 0, .iload_n 1, .iload_n 2, .iload_n 3] (pc1 := 68) (ls1 := [some (.ref 79), some (.int x1), some (.int x2), some (.int x3), some (.int x4), some (.int ((((jshl 1 x1) ||| (jshl 1 x2)) ||| (jshl 1 x3)) ||| (jshl 1 x4))), none]) (st1 := [.int x3, .int x2, .int x1, .ref 79]) (h1 := h) (P := True) (by decide +kernel) rfl trivial ?_
            obtain ⟨v_8, e_9, e⟩ := bi_s e
            refine q_callV ok_R_sideOf (as := [.int x1, .int x2, .int x3]) (st := []) ⟨wd_257, wd_258, wd_259, wd_7, ds_R_sideOf, Nat.le_of_ble_eq_true rfl, Nat.le_of_ble_eq_true rfl⟩ (s_R_sideOf  e_9) rfl ⟨rfl, rfl⟩ (ci := 12) rfl (fun v hv => by cases hv; rfl) (Nat.le_of_ble_eq_true rfl) (by decide +kernel) rfl ?_
            refine q_if_eq (off := 36) (tgt := 107) (by decide +kernel) (by decide) (fun c_10 => ?_) (fun c_10 => ?_)
            · have e := it_t c_10 e
              refine sl_ok ok_R_four [.bipush (-2)] (pc1 := 109) (ls1 := [some (.ref 79), some (.int x1), some (.int x2), some (.int x3), some (.int x4), some (.int ((((jshl 1 x1) ||| (jshl 1 x2)) ||| (jshl 1 x3)) ||| (jshl 1 x4))), none]) (st1 := [.int (-2)]) (h1 := h) (P := True) (by decide +kernel) rfl trivial ?_
              cases e
              exact q_iret rfl k.1 k.2 (by decide +kernel)
            · have e := it_f c_10 e
              refine sl_ok ok_R_four [.aload_n 0, .iload_n 1, .iload_n 2, .iload 4] (pc1 := 79) (ls1 := [some (.ref 79), some (.int x1), some (.int x2), some (.int x3), some (.int x4), some (.int ((((jshl 1 x1) ||| (jshl 1 x2)) ||| (jshl 1 x3)) ||| (jshl 1 x4))), none]) (st1 := [.int x4, .int x2, .int x1, .ref 79]) (h1 := h) (P := True) (by decide +kernel) rfl trivial ?_
              obtain ⟨v_11, e_12, e⟩ := bi_s e
              refine q_callV ok_R_sideOf (as := [.int x1, .int x2, .int x4]) (st := []) ⟨wd_257, wd_258, wd_259, wd_7, ds_R_sideOf, Nat.le_of_ble_eq_true rfl, Nat.le_of_ble_eq_true rfl⟩ (s_R_sideOf  e_12) rfl ⟨rfl, rfl⟩ (ci := 12) rfl (fun v hv => by cases hv; rfl) (Nat.le_of_ble_eq_true rfl) (by decide +kernel) rfl ?_
              refine q_if_eq (off := 25) (tgt := 107) (by decide +kernel) (by decide) (fun c_13 => ?_) (fun c_13 => ?_)
              · have e := it_t c_13 e
                refine sl_ok ok_R_four [.bipush (-2)] (pc1 := 109) (ls1 := [some (.ref 79), some (.int x1), some (.int x2), some (.int x3), some (.int x4), some (.int ((((jshl 1 x1) ||| (jshl 1 x2)) ||| (jshl 1 x3)) ||| (jshl 1 x4))), none]) (st1 := [.int (-2)]) (h1 := h) (P := True) (by decide +kernel) rfl trivial ?_
                cases e
                exact q_iret rfl k.1 k.2 (by decide +kernel)
              · have e := it_f c_13 e
                refine sl_ok ok_R_four [.aload_n 0, .iload_n 1, .iload_n 3, .iload 4] (pc1 := 90) (ls1 := [some (.ref 79), some (.int x1), some (.int x2), some (.int x3), some (.int x4), some (.int ((((jshl 1 x1) ||| (jshl 1 x2)) ||| (jshl 1 x3)) ||| (jshl 1 x4))), none]) (st1 := [.int x4, .int x3, .int x1, .ref 79]) (h1 := h) (P := True) (by decide +kernel) rfl trivial ?_
                obtain ⟨v_14, e_15, e⟩ := bi_s e
                refine q_callV ok_R_sideOf (as := [.int x1, .int x3, .int x4]) (st := []) ⟨wd_257, wd_258, wd_259, wd_7, ds_R_sideOf, Nat.le_of_ble_eq_true rfl, Nat.le_of_ble_eq_true rfl⟩ (s_R_sideOf  e_15) rfl ⟨rfl, rfl⟩ (ci := 12) rfl (fun v hv => by cases hv; rfl) (Nat.le_of_ble_eq_true rfl) (by decide +kernel) rfl ?_
                refine q_if_eq (off := 14) (tgt := 107) (by decide +kernel) (by decide) (fun c_16 => ?_) (fun c_16 => ?_)
                · have e := it_t c_16 e
                  refine sl_ok ok_R_four [.bipush (-2)] (pc1 := 109) (ls1 := [some (.ref 79), some (.int x1), some (.int x2), some (.int x3), some (.int x4), some (.int ((((jshl 1 x1) ||| (jshl 1 x2)) ||| (jshl 1 x3)) ||| (jshl 1 x4))), none]) (st1 := [.int (-2)]) (h1 := h) (P := True) (by decide +kernel) rfl trivial ?_
                  cases e
                  exact q_iret rfl k.1 k.2 (by decide +kernel)
                · have e := it_f c_16 e
                  refine sl_ok ok_R_four [.aload_n 0, .iload_n 2, .iload_n 3, .iload 4] (pc1 := 101) (ls1 := [some (.ref 79), some (.int x1), some (.int x2), some (.int x3), some (.int x4), some (.int ((((jshl 1 x1) ||| (jshl 1 x2)) ||| (jshl 1 x3)) ||| (jshl 1 x4))), none]) (st1 := [.int x4, .int x3, .int x2, .ref 79]) (h1 := h) (P := True) (by decide +kernel) rfl trivial ?_
                  obtain ⟨v_17, e_18, e⟩ := bi_s e
                  refine q_callV ok_R_sideOf (as := [.int x2, .int x3, .int x4]) (st := []) ⟨wd_257, wd_258, wd_259, wd_7, ds_R_sideOf, Nat.le_of_ble_eq_true rfl, Nat.le_of_ble_eq_true rfl⟩ (s_R_sideOf  e_18) rfl ⟨rfl, rfl⟩ (ci := 12) rfl (fun v hv => by cases hv; rfl) (Nat.le_of_ble_eq_true rfl) (by decide +kernel) rfl ?_
                  refine q_if_ne (off := 6) (tgt := 110) (by decide +kernel) (by decide) (fun c_19 => ?_) (fun c_19 => ?_)
                  · have e := it_f c_19 e
                    refine sl_ok ok_R_four [.aload_n 0] (pc1 := 111) (ls1 := [some (.ref 79), some (.int x1), some (.int x2), some (.int x3), some (.int x4), some (.int ((((jshl 1 x1) ||| (jshl 1 x2)) ||| (jshl 1 x3)) ||| (jshl 1 x4))), none]) (st1 := [.ref 79]) (h1 := h) (P := True) (by decide +kernel) rfl trivial ?_
                    obtain ⟨v_20, e_21, e⟩ := bi_s e
                    refine q_callV ok_R_laysMeetings (as := []) (st := []) ⟨wd_371, wd_372, wd_373, wd_7, ds_R_laysMeetings, Nat.le_of_ble_eq_true rfl, Nat.le_of_ble_eq_true rfl⟩ (s_R_laysMeetings  e_21) rfl ⟨rfl, rfl⟩ (ci := 12) rfl (fun v hv => by cases hv) (Nat.le_of_ble_eq_true rfl) (by decide +kernel) rfl ?_
                    refine sl_ok ok_R_four [.iconst 0, .istore 6] (pc1 := 117) (ls1 := [some (.ref 79), some (.int x1), some (.int x2), some (.int x3), some (.int x4), some (.int ((((jshl 1 x1) ||| (jshl 1 x2)) ||| (jshl 1 x3)) ||| (jshl 1 x4))), some (.int 0)]) (st1 := []) (h1 := v_20) (P := True) (by decide +kernel) rfl trivial ?_
                    refine Go.sb [some (.ref 79), none, none, none, none, some (.int ((((jshl 1 x1) ||| (jshl 1 x2)) ||| (jshl 1 x3)) ||| (jshl 1 x4))), some (.int 0)] (And.intro rfl (And.intro rfl (And.intro rfl trivial))) ?_
                    exact lp_in e (fun s => Go E M_R_four 117 [some (.ref 79), none, none, none, none, some (.int ((((jshl 1 x1) ||| (jshl 1 x2)) ||| (jshl 1 x3)) ||| (jshl 1 x4))), some (.int s)] [] v_20 r hr) (fun v : (Int32 × pH) => r = some (.int v.1) ∧ hr = v.2) (fun _ _ e k => b_R_four_L1  e k) k
                  · have e := it_t c_19 e
                    refine sl_ok ok_R_four [.bipush (-2)] (pc1 := 109) (ls1 := [some (.ref 79), some (.int x1), some (.int x2), some (.int x3), some (.int x4), some (.int ((((jshl 1 x1) ||| (jshl 1 x2)) ||| (jshl 1 x3)) ||| (jshl 1 x4))), none]) (st1 := [.int (-2)]) (h1 := h) (P := True) (by decide +kernel) rfl trivial ?_
                    cases e
                    exact q_iret rfl k.1 k.2 (by decide +kernel)
          · have e := it_f c_7 e
            refine sl_ok ok_R_four [.iconst (-1)] (pc1 := 63) (ls1 := [some (.ref 79), some (.int x1), some (.int x2), some (.int x3), some (.int x4), some (.int ((((jshl 1 x1) ||| (jshl 1 x2)) ||| (jshl 1 x3)) ||| (jshl 1 x4))), none]) (st1 := [.int (-1)]) (h1 := h) (P := True) (by decide +kernel) rfl trivial ?_
            cases e
            exact q_iret rfl k.1 k.2 (by decide +kernel)
        · have e := it_t c_4 e
          refine sl_ok ok_R_four [.iconst (-1)] (pc1 := 34) (ls1 := [some (.ref 79), some (.int x1), some (.int x2), some (.int x3), some (.int x4), none, none]) (st1 := [.int (-1)]) (h1 := h) (P := True) (by decide +kernel) rfl trivial ?_
          cases e
          exact q_iret rfl k.1 k.2 (by decide +kernel)
theorem s_R_four {E : pE} {x1 : Int32} {x2 : Int32} {x3 : Int32} {x4 : Int32} {h : pH}  {v : (Int32 × pH)} (e : f_R_four x1 x2 x3 x4 h = some v) : Ct E M_R_four [.ref 79, .int x1, .int x2, .int x3, .int x4] h (some (.int v.1)) v.2 :=
  Ct_of ok_R_four [some (.ref 79), some (.int x1), some (.int x2), some (.int x3), some (.int x4), none, none] (Nat.le_of_ble_eq_true rfl) rfl (b_R_four  e ⟨rfl, rfl⟩)
def f_Shapes_keepsTurns_L2 (o0 : Nat) (x1 : Int32) (x2 : Int32) (x3 : Int32) (x4 : Int32) (h : pH) (x5 : Int32) : Option (Int32 ⊕ (Int32 ⊕ Int32)) :=
  if (hI h o0 2) ≤ x5 then
    some (.inr (.inl (x4 + 1)))
  else
    if x4 = x1 then
      some (.inl (x5 + 1))
    else
      if x5 = x1 then
        some (.inl (x5 + 1))
      else
        (f_Cloud_turnAt o0 x4 x5 x2 x3 h).bind fun v_4 =>
        (f_Cloud_turnOf o0 x4 x5 x1 h).bind fun v_6 =>
        if (f_C_signOf v_4) = (f_C_signOf v_6) then
          some (.inl (x5 + 1))
        else
          some (.inr (.inr 0))
set_option maxHeartbeats 4000000 in
theorem b_Shapes_keepsTurns_L2 {E : pE} {r : Option Value} {hr : pH} {o0 : Nat} {x1 : Int32} {x2 : Int32} {x3 : Int32} {x4 : Int32} {h : pH} {x5 : Int32} (ho0 : ak o0 = 0 ∧ cx o0 = 0) {b : (Int32 ⊕ (Int32 ⊕ Int32))} (e : f_Shapes_keepsTurns_L2 o0 x1 x2 x3 x4 h x5 = some b) (k : (Sum.elim (fun s : Int32 => Go E M_Shapes_keepsTurns 18 [some (.ref o0), some (.int x1), some (.int x2), some (.int x3), some (.int x4), some (.int s)] [] h r hr) (Sum.elim (fun s : Int32 => Go E M_Shapes_keepsTurns 3 [some (.ref o0), some (.int x1), some (.int x2), some (.int x3), some (.int s), none] [] h r hr) (fun v : Int32 => r = some (.int v) ∧ hr = h))) b) : Go E M_Shapes_keepsTurns 18 [some (.ref o0), some (.int x1), some (.int x2), some (.int x3), some (.int x4), some (.int x5)] [] h r hr := by
  unfold f_Shapes_keepsTurns_L2 at e
  refine sl_ok ok_Shapes_keepsTurns [.iload 5, .aload_n 0, .getfield 18] (pc1 := 24) (ls1 := [some (.ref o0), some (.int x1), some (.int x2), some (.int x3), some (.int x4), some (.int x5)]) (st1 := [.int (hI h o0 2), .int x5]) (h1 := h) (P := (ak o0 = 0 ∧ cx o0 = 0) ∧ True) (by decide +kernel) rfl ⟨ho0, trivial⟩ ?_
  refine q_icmp_ge (off := 51) (tgt := 75) (by decide +kernel) (by decide) (fun c_1 => ?_) (fun c_1 => ?_)
  · have e := it_t c_1 e
    refine sl_ok ok_Shapes_keepsTurns [.iinc 4 1] (pc1 := 78) (ls1 := [some (.ref o0), some (.int x1), some (.int x2), some (.int x3), some (.int (x4 + 1)), some (.int x5)]) (st1 := []) (h1 := h) (P := True) (by decide +kernel) rfl trivial ?_
    refine q_goto (off := -75) (tgt := 3) (by decide) (by decide +kernel) ?_
    cases e
    refine Go.sb [some (.ref o0), some (.int x1), some (.int x2), some (.int x3), some (.int (x4 + 1)), none] (And.intro rfl (And.intro rfl (And.intro rfl (And.intro rfl (And.intro rfl trivial))))) ?_
    exact k
  · have e := it_f c_1 e
    refine sl_ok ok_Shapes_keepsTurns [.iload 4, .iload_n 1] (pc1 := 30) (ls1 := [some (.ref o0), some (.int x1), some (.int x2), some (.int x3), some (.int x4), some (.int x5)]) (st1 := [.int x1, .int x4]) (h1 := h) (P := True) (by decide +kernel) rfl trivial ?_
    refine q_icmp_eq (off := 39) (tgt := 69) (by decide +kernel) (by decide) (fun c_2 => ?_) (fun c_2 => ?_)
    · have e := it_t c_2 e
      refine sl_ok ok_Shapes_keepsTurns [.iinc 5 1] (pc1 := 72) (ls1 := [some (.ref o0), some (.int x1), some (.int x2), some (.int x3), some (.int x4), some (.int (x5 + 1))]) (st1 := []) (h1 := h) (P := True) (by decide +kernel) rfl trivial ?_
      refine q_goto (off := -54) (tgt := 18) (by decide) (by decide +kernel) ?_
      cases e
      exact k
    · have e := it_f c_2 e
      refine sl_ok ok_Shapes_keepsTurns [.iload 5, .iload_n 1] (pc1 := 36) (ls1 := [some (.ref o0), some (.int x1), some (.int x2), some (.int x3), some (.int x4), some (.int x5)]) (st1 := [.int x1, .int x5]) (h1 := h) (P := True) (by decide +kernel) rfl trivial ?_
      refine q_icmp_eq (off := 33) (tgt := 69) (by decide +kernel) (by decide) (fun c_3 => ?_) (fun c_3 => ?_)
      · have e := it_t c_3 e
        refine sl_ok ok_Shapes_keepsTurns [.iinc 5 1] (pc1 := 72) (ls1 := [some (.ref o0), some (.int x1), some (.int x2), some (.int x3), some (.int x4), some (.int (x5 + 1))]) (st1 := []) (h1 := h) (P := True) (by decide +kernel) rfl trivial ?_
        refine q_goto (off := -54) (tgt := 18) (by decide) (by decide +kernel) ?_
        cases e
        exact k
      · have e := it_f c_3 e
        refine sl_ok ok_Shapes_keepsTurns [.aload_n 0, .iload 4, .iload 5, .iload_n 2, .iload_n 3] (pc1 := 46) (ls1 := [some (.ref o0), some (.int x1), some (.int x2), some (.int x3), some (.int x4), some (.int x5)]) (st1 := [.int x3, .int x2, .int x5, .int x4, .ref o0]) (h1 := h) (P := True) (by decide +kernel) rfl trivial ?_
        obtain ⟨v_4, e_5, e⟩ := bi_s e
        refine q_callV ok_Cloud_turnAt (as := [.int x4, .int x5, .int x2, .int x3]) (st := []) ⟨wd_402, wd_198, wd_199, wd_14, ds_Cloud_turnAt, Nat.le_of_ble_eq_true rfl, Nat.le_of_ble_eq_true rfl⟩ (s_Cloud_turnAt ho0 e_5) rfl ho0 (ci := 0) rfl (fun v hv => by cases hv; rfl) (Nat.le_of_ble_eq_true rfl) (by decide +kernel) rfl ?_
        refine q_callSN ok_C_signOf (as := [.int v_4]) (st := []) ⟨(List.mem_of_getElem? (i := 17) rfl), wd_200, wd_48, ds_C_signOf, Nat.le_of_ble_eq_true rfl, Nat.le_of_ble_eq_true rfl⟩ (s_C_signOf ) rfl (fun v hv => by cases hv; rfl) (Nat.le_of_ble_eq_true rfl) (by decide +kernel) rfl ?_
        refine sl_ok ok_Shapes_keepsTurns [.aload_n 0, .iload 4, .iload 5, .iload_n 1] (pc1 := 58) (ls1 := [some (.ref o0), some (.int x1), some (.int x2), some (.int x3), some (.int x4), some (.int x5)]) (st1 := [.int x1, .int x5, .int x4, .ref o0, .int (f_C_signOf v_4)]) (h1 := h) (P := True) (by decide +kernel) rfl trivial ?_
        obtain ⟨v_6, e_7, e⟩ := bi_s e
        refine q_callV ok_Cloud_turnOf (as := [.int x4, .int x5, .int x1]) (st := [.int (f_C_signOf v_4)]) ⟨wd_403, wd_222, wd_223, wd_14, ds_Cloud_turnOf, Nat.le_of_ble_eq_true rfl, Nat.le_of_ble_eq_true rfl⟩ (s_Cloud_turnOf ho0 e_7) rfl ho0 (ci := 0) rfl (fun v hv => by cases hv; rfl) (Nat.le_of_ble_eq_true rfl) (by decide +kernel) rfl ?_
        refine q_callSN ok_C_signOf (as := [.int v_6]) (st := [.int (f_C_signOf v_4)]) ⟨(List.mem_of_getElem? (i := 17) rfl), wd_200, wd_48, ds_C_signOf, Nat.le_of_ble_eq_true rfl, Nat.le_of_ble_eq_true rfl⟩ (s_C_signOf ) rfl (fun v hv => by cases hv; rfl) (Nat.le_of_ble_eq_true rfl) (by decide +kernel) rfl ?_
        refine q_icmp_eq (off := 5) (tgt := 69) (by decide +kernel) (by decide) (fun c_8 => ?_) (fun c_8 => ?_)
        · have e := it_t c_8 e
          refine sl_ok ok_Shapes_keepsTurns [.iinc 5 1] (pc1 := 72) (ls1 := [some (.ref o0), some (.int x1), some (.int x2), some (.int x3), some (.int x4), some (.int (x5 + 1))]) (st1 := []) (h1 := h) (P := True) (by decide +kernel) rfl trivial ?_
          refine q_goto (off := -54) (tgt := 18) (by decide) (by decide +kernel) ?_
          cases e
          exact k
        · have e := it_f c_8 e
          refine sl_ok ok_Shapes_keepsTurns [.iconst 0] (pc1 := 68) (ls1 := [some (.ref o0), some (.int x1), some (.int x2), some (.int x3), some (.int x4), some (.int x5)]) (st1 := [.int 0]) (h1 := h) (P := True) (by decide +kernel) rfl trivial ?_
          cases e
          exact q_zret rfl (Or.inl rfl) k.1 k.2 (by decide +kernel)
def f_Shapes_keepsTurns_L1 (o0 : Nat) (x1 : Int32) (x2 : Int32) (x3 : Int32) (h : pH) (x4 : Int32) : Option (Int32 ⊕ Int32) :=
  if (hI h o0 2) ≤ x4 then
    some (.inr 1)
  else
    lp (fun s => f_Shapes_keepsTurns_L2 o0 x1 x2 x3 x4 h s) lpN (x4 + 1)
set_option maxHeartbeats 4000000 in
theorem b_Shapes_keepsTurns_L1 {E : pE} {r : Option Value} {hr : pH} {o0 : Nat} {x1 : Int32} {x2 : Int32} {x3 : Int32} {h : pH} {x4 : Int32} (ho0 : ak o0 = 0 ∧ cx o0 = 0) {b : (Int32 ⊕ Int32)} (e : f_Shapes_keepsTurns_L1 o0 x1 x2 x3 h x4 = some b) (k : (Sum.elim (fun s : Int32 => Go E M_Shapes_keepsTurns 3 [some (.ref o0), some (.int x1), some (.int x2), some (.int x3), some (.int s), none] [] h r hr) (fun v : Int32 => r = some (.int v) ∧ hr = h)) b) : Go E M_Shapes_keepsTurns 3 [some (.ref o0), some (.int x1), some (.int x2), some (.int x3), some (.int x4), none] [] h r hr := by
  unfold f_Shapes_keepsTurns_L1 at e
  refine sl_ok ok_Shapes_keepsTurns [.iload 4, .aload_n 0, .getfield 18] (pc1 := 9) (ls1 := [some (.ref o0), some (.int x1), some (.int x2), some (.int x3), some (.int x4), none]) (st1 := [.int (hI h o0 2), .int x4]) (h1 := h) (P := (ak o0 = 0 ∧ cx o0 = 0) ∧ True) (by decide +kernel) rfl ⟨ho0, trivial⟩ ?_
  refine q_icmp_ge (off := 72) (tgt := 81) (by decide +kernel) (by decide) (fun c_1 => ?_) (fun c_1 => ?_)
  · have e := it_t c_1 e
    refine sl_ok ok_Shapes_keepsTurns [.iconst 1] (pc1 := 82) (ls1 := [some (.ref o0), some (.int x1), some (.int x2), some (.int x3), some (.int x4), none]) (st1 := [.int 1]) (h1 := h) (P := True) (by decide +kernel) rfl trivial ?_
    cases e
    exact q_zret rfl (Or.inr rfl) k.1 k.2 (by decide +kernel)
  · have e := it_f c_1 e
    refine sl_ok ok_Shapes_keepsTurns [.iload 4, .iconst 1, .iadd, .istore 5] (pc1 := 18) (ls1 := [some (.ref o0), some (.int x1), some (.int x2), some (.int x3), some (.int x4), some (.int (x4 + 1))]) (st1 := []) (h1 := h) (P := True) (by decide +kernel) rfl trivial ?_
    exact lp_in e (fun s => Go E M_Shapes_keepsTurns 18 [some (.ref o0), some (.int x1), some (.int x2), some (.int x3), some (.int x4), some (.int s)] [] h r hr) (Sum.elim (fun s : Int32 => Go E M_Shapes_keepsTurns 3 [some (.ref o0), some (.int x1), some (.int x2), some (.int x3), some (.int s), none] [] h r hr) (fun v : Int32 => r = some (.int v) ∧ hr = h)) (fun _ _ e k => b_Shapes_keepsTurns_L2 ho0 e k) k
def f_Shapes_keepsTurns (o0 : Nat) (x1 : Int32) (x2 : Int32) (x3 : Int32) (h : pH) : Option Int32 :=
  lp (fun s => f_Shapes_keepsTurns_L1 o0 x1 x2 x3 h s) lpN 0
set_option maxHeartbeats 4000000 in
theorem b_Shapes_keepsTurns {E : pE} {r : Option Value} {hr : pH} {o0 : Nat} {x1 : Int32} {x2 : Int32} {x3 : Int32} {h : pH} (ho0 : ak o0 = 0 ∧ cx o0 = 0) {b : Int32} (e : f_Shapes_keepsTurns o0 x1 x2 x3 h = some b) (k : (fun v : Int32 => r = some (.int v) ∧ hr = h) b) : Go E M_Shapes_keepsTurns 0 [some (.ref o0), some (.int x1), some (.int x2), some (.int x3), none, none] [] h r hr := by
  unfold f_Shapes_keepsTurns at e
  refine sl_ok ok_Shapes_keepsTurns [.iconst 0, .istore 4] (pc1 := 3) (ls1 := [some (.ref o0), some (.int x1), some (.int x2), some (.int x3), some (.int 0), none]) (st1 := []) (h1 := h) (P := True) (by decide +kernel) rfl trivial ?_
  exact lp_in e (fun s => Go E M_Shapes_keepsTurns 3 [some (.ref o0), some (.int x1), some (.int x2), some (.int x3), some (.int s), none] [] h r hr) (fun v : Int32 => r = some (.int v) ∧ hr = h) (fun _ _ e k => b_Shapes_keepsTurns_L1 ho0 e k) k
theorem s_Shapes_keepsTurns {E : pE} {o0 : Nat} {x1 : Int32} {x2 : Int32} {x3 : Int32} {h : pH} (ho0 : ak o0 = 0 ∧ cx o0 = 0) {v : Int32} (e : f_Shapes_keepsTurns o0 x1 x2 x3 h = some v) : Ct E M_Shapes_keepsTurns [.ref o0, .int x1, .int x2, .int x3] h (some (.int v)) h :=
  Ct_of ok_Shapes_keepsTurns [some (.ref o0), some (.int x1), some (.int x2), some (.int x3), none, none] (Nat.le_of_ble_eq_true rfl) rfl (b_Shapes_keepsTurns ho0 e ⟨rfl, rfl⟩)
def f_Shapes_keepingPlaces_J3 (o1 : Nat) (x2 : Int32) (x3 : Int32) (x4 : Int32) (x5 : Int32) (t0 : Int32) (h : pH) : Option ((Int32 × Int32) ⊕ ((Int32 × Int32) ⊕ Int32)) :=
  if t0 = 0 then
    (f_Cloud_isTaken o1 x5 x4 h).bind fun v_2 =>
    if v_2 = 0 then
      (f_Shapes_keepsTurns o1 x2 x5 x4 h).bind fun v_5 =>
      if v_5 = 0 then
        some (.inl (x3, (x5 + 1)))
      else
        some (.inl ((x3 + 1), (x5 + 1)))
    else
      some (.inl (x3, (x5 + 1)))
  else
    some (.inl ((x3 + 1), (x5 + 1)))
set_option maxHeartbeats 4000000 in
theorem b_Shapes_keepingPlaces_J3 {E : pE} {r : Option Value} {hr : pH} {o1 : Nat} {x2 : Int32} {x3 : Int32} {x4 : Int32} {x5 : Int32} {t0 : Int32} {h : pH} (ho1 : ak o1 = 0 ∧ cx o1 = 0) {b : ((Int32 × Int32) ⊕ ((Int32 × Int32) ⊕ Int32))} (e : f_Shapes_keepingPlaces_J3 o1 x2 x3 x4 x5 t0 h = some b) (k : (Sum.elim (fun s : (Int32 × Int32) => Go E M_Shapes_keepingPlaces 25 [some (.ref 28), some (.ref o1), some (.int x2), some (.int s.1), some (.int x4), some (.int s.2), none] [] h r hr) (Sum.elim (fun s : (Int32 × Int32) => Go E M_Shapes_keepingPlaces 9 [some (.ref 28), some (.ref o1), some (.int x2), some (.int s.1), some (.int s.2), none, none] [] h r hr) (fun v : Int32 => r = some (.int v) ∧ hr = h))) b) : Go E M_Shapes_keepingPlaces 61 [some (.ref 28), some (.ref o1), some (.int x2), some (.int x3), some (.int x4), some (.int x5), none] [.int t0] h r hr := by
  unfold f_Shapes_keepingPlaces_J3 at e
  refine sl_ok ok_Shapes_keepingPlaces [.istore 6, .iload 6] (pc1 := 65) (ls1 := [some (.ref 28), some (.ref o1), some (.int x2), some (.int x3), some (.int x4), some (.int x5), some (.int t0)]) (st1 := [.int t0]) (h1 := h) (P := True) (by decide +kernel) rfl trivial ?_
  refine q_if_ne (off := 26) (tgt := 91) (by decide +kernel) (by decide) (fun c_1 => ?_) (fun c_1 => ?_)
  · have e := it_f c_1 e
    refine sl_ok ok_Shapes_keepingPlaces [.iinc 3 1, .iinc 5 1] (pc1 := 97) (ls1 := [some (.ref 28), some (.ref o1), some (.int x2), some (.int (x3 + 1)), some (.int x4), some (.int (x5 + 1)), some (.int t0)]) (st1 := []) (h1 := h) (P := True) (by decide +kernel) rfl trivial ?_
    refine q_goto (off := -72) (tgt := 25) (by decide) (by decide +kernel) ?_
    cases e
    refine Go.sb [some (.ref 28), some (.ref o1), some (.int x2), some (.int (x3 + 1)), some (.int x4), some (.int (x5 + 1)), none] (And.intro rfl (And.intro rfl (And.intro rfl (And.intro rfl (And.intro rfl (And.intro rfl trivial)))))) ?_
    exact k
  · have e := it_t c_1 e
    refine sl_ok ok_Shapes_keepingPlaces [.aload_n 1, .iload 5, .iload 4] (pc1 := 73) (ls1 := [some (.ref 28), some (.ref o1), some (.int x2), some (.int x3), some (.int x4), some (.int x5), some (.int t0)]) (st1 := [.int x4, .int x5, .ref o1]) (h1 := h) (P := True) (by decide +kernel) rfl trivial ?_
    obtain ⟨v_2, e_3, e⟩ := bi_s e
    refine q_callV ok_Cloud_isTaken (as := [.int x5, .int x4]) (st := []) ⟨wd_497, wd_50, wd_51, wd_14, ds_Cloud_isTaken, Nat.le_of_ble_eq_true rfl, Nat.le_of_ble_eq_true rfl⟩ (s_Cloud_isTaken ho1 e_3) rfl ho1 (ci := 0) rfl (fun v hv => by cases hv; rfl) (Nat.le_of_ble_eq_true rfl) (by decide +kernel) rfl ?_
    refine q_if_ne (off := 18) (tgt := 94) (by decide +kernel) (by decide) (fun c_4 => ?_) (fun c_4 => ?_)
    · have e := it_f c_4 e
      refine sl_ok ok_Shapes_keepingPlaces [.iinc 5 1] (pc1 := 97) (ls1 := [some (.ref 28), some (.ref o1), some (.int x2), some (.int x3), some (.int x4), some (.int (x5 + 1)), some (.int t0)]) (st1 := []) (h1 := h) (P := True) (by decide +kernel) rfl trivial ?_
      refine q_goto (off := -72) (tgt := 25) (by decide) (by decide +kernel) ?_
      cases e
      refine Go.sb [some (.ref 28), some (.ref o1), some (.int x2), some (.int x3), some (.int x4), some (.int (x5 + 1)), none] (And.intro rfl (And.intro rfl (And.intro rfl (And.intro rfl (And.intro rfl (And.intro rfl trivial)))))) ?_
      exact k
    · have e := it_t c_4 e
      refine sl_ok ok_Shapes_keepingPlaces [.aload_n 1, .iload_n 2, .iload 5, .iload 4] (pc1 := 85) (ls1 := [some (.ref 28), some (.ref o1), some (.int x2), some (.int x3), some (.int x4), some (.int x5), some (.int t0)]) (st1 := [.int x4, .int x5, .int x2, .ref o1]) (h1 := h) (P := True) (by decide +kernel) rfl trivial ?_
      obtain ⟨v_5, e_6, e⟩ := bi_s e
      refine q_callS ok_Shapes_keepsTurns (as := [.ref o1, .int x2, .int x5, .int x4]) (st := []) ⟨wd_498, wd_499, wd_231, ds_Shapes_keepsTurns, Nat.le_of_ble_eq_true rfl, Nat.le_of_ble_eq_true rfl⟩ (s_Shapes_keepsTurns ho1 e_6) rfl (fun v hv => by cases hv; rfl) (Nat.le_of_ble_eq_true rfl) (by decide +kernel) rfl ?_
      refine q_if_eq (off := 6) (tgt := 94) (by decide +kernel) (by decide) (fun c_7 => ?_) (fun c_7 => ?_)
      · have e := it_t c_7 e
        refine sl_ok ok_Shapes_keepingPlaces [.iinc 5 1] (pc1 := 97) (ls1 := [some (.ref 28), some (.ref o1), some (.int x2), some (.int x3), some (.int x4), some (.int (x5 + 1)), some (.int t0)]) (st1 := []) (h1 := h) (P := True) (by decide +kernel) rfl trivial ?_
        refine q_goto (off := -72) (tgt := 25) (by decide) (by decide +kernel) ?_
        cases e
        refine Go.sb [some (.ref 28), some (.ref o1), some (.int x2), some (.int x3), some (.int x4), some (.int (x5 + 1)), none] (And.intro rfl (And.intro rfl (And.intro rfl (And.intro rfl (And.intro rfl (And.intro rfl trivial)))))) ?_
        exact k
      · have e := it_f c_7 e
        refine sl_ok ok_Shapes_keepingPlaces [.iinc 3 1, .iinc 5 1] (pc1 := 97) (ls1 := [some (.ref 28), some (.ref o1), some (.int x2), some (.int (x3 + 1)), some (.int x4), some (.int (x5 + 1)), some (.int t0)]) (st1 := []) (h1 := h) (P := True) (by decide +kernel) rfl trivial ?_
        refine q_goto (off := -72) (tgt := 25) (by decide) (by decide +kernel) ?_
        cases e
        refine Go.sb [some (.ref 28), some (.ref o1), some (.int x2), some (.int (x3 + 1)), some (.int x4), some (.int (x5 + 1)), none] (And.intro rfl (And.intro rfl (And.intro rfl (And.intro rfl (And.intro rfl (And.intro rfl trivial)))))) ?_
        exact k
def f_Shapes_keepingPlaces_L2 (o1 : Nat) (x2 : Int32) (x4 : Int32) (h : pH) (x3 : Int32) (x5 : Int32) : Option ((Int32 × Int32) ⊕ ((Int32 × Int32) ⊕ Int32)) :=
  if (hI h o1 3) < x5 then
    some (.inr (.inl (x3, (x4 + 1))))
  else
    if x2 < 0 ∨ 12 ≤ x2.toNatClampNeg then none else
    if (hI h (rf o1 0) x2.toNatClampNeg) = x5 then
      if (hI h (rf o1 1) x2.toNatClampNeg) = x4 then
        f_Shapes_keepingPlaces_J3 o1 x2 x3 x4 x5 1 h
      else
        f_Shapes_keepingPlaces_J3 o1 x2 x3 x4 x5 0 h
    else
      f_Shapes_keepingPlaces_J3 o1 x2 x3 x4 x5 0 h
set_option maxHeartbeats 4000000 in
theorem b_Shapes_keepingPlaces_L2 {E : pE} {r : Option Value} {hr : pH} {o1 : Nat} {x2 : Int32} {x4 : Int32} {h : pH} {x3 : Int32} {x5 : Int32} (ho1 : ak o1 = 0 ∧ cx o1 = 0) {b : ((Int32 × Int32) ⊕ ((Int32 × Int32) ⊕ Int32))} (e : f_Shapes_keepingPlaces_L2 o1 x2 x4 h x3 x5 = some b) (k : (Sum.elim (fun s : (Int32 × Int32) => Go E M_Shapes_keepingPlaces 25 [some (.ref 28), some (.ref o1), some (.int x2), some (.int s.1), some (.int x4), some (.int s.2), none] [] h r hr) (Sum.elim (fun s : (Int32 × Int32) => Go E M_Shapes_keepingPlaces 9 [some (.ref 28), some (.ref o1), some (.int x2), some (.int s.1), some (.int s.2), none, none] [] h r hr) (fun v : Int32 => r = some (.int v) ∧ hr = h))) b) : Go E M_Shapes_keepingPlaces 25 [some (.ref 28), some (.ref o1), some (.int x2), some (.int x3), some (.int x4), some (.int x5), none] [] h r hr := by
  unfold f_Shapes_keepingPlaces_L2 at e
  refine sl_ok ok_Shapes_keepingPlaces [.iload 5, .aload_n 1, .getfield 106] (pc1 := 31) (ls1 := [some (.ref 28), some (.ref o1), some (.int x2), some (.int x3), some (.int x4), some (.int x5), none]) (st1 := [.int (hI h o1 3), .int x5]) (h1 := h) (P := (ak o1 = 0 ∧ cx o1 = 0) ∧ True) (by decide +kernel) rfl ⟨ho1, trivial⟩ ?_
  refine q_icmp_gt (off := 69) (tgt := 100) (by decide +kernel) (by decide) (fun c_1 => ?_) (fun c_1 => ?_)
  · have e := it_t c_1 e
    refine sl_ok ok_Shapes_keepingPlaces [.iinc 4 1] (pc1 := 103) (ls1 := [some (.ref 28), some (.ref o1), some (.int x2), some (.int x3), some (.int (x4 + 1)), some (.int x5), none]) (st1 := []) (h1 := h) (P := True) (by decide +kernel) rfl trivial ?_
    refine q_goto (off := -94) (tgt := 9) (by decide) (by decide +kernel) ?_
    cases e
    refine Go.sb [some (.ref 28), some (.ref o1), some (.int x2), some (.int x3), some (.int (x4 + 1)), none, none] (And.intro rfl (And.intro rfl (And.intro rfl (And.intro rfl (And.intro rfl trivial))))) ?_
    exact k
  · have e := it_f c_1 e
    obtain ⟨g_2, e⟩ := it_g e
    refine sl_ok ok_Shapes_keepingPlaces [.aload_n 1, .getfield 40, .iload_n 2, .iaload, .iload 5] (pc1 := 42) (ls1 := [some (.ref 28), some (.ref o1), some (.int x2), some (.int x3), some (.int x4), some (.int x5), none]) (st1 := [.int x5, .int (hI h (rf o1 0) x2.toNatClampNeg)]) (h1 := h) (P := (ak o1 = 0 ∧ cx o1 = 0) ∧ (ak (rf o1 0) = 1 ∧ ¬ (x2 < 0 ∨ cx (rf o1 0) ≤ x2.toNatClampNeg)) ∧ True) (by decide +kernel) rfl ⟨ho1, ⟨(st_0_0 ho1).1, (by rw [(st_0_0 ho1).2]; exact g_2)⟩, trivial⟩ ?_
    refine q_icmp_ne (off := 18) (tgt := 60) (by decide +kernel) (by decide) (fun c_3 => ?_) (fun c_3 => ?_)
    · have e := it_f c_3 e
      refine sl_ok ok_Shapes_keepingPlaces [.iconst 0] (pc1 := 61) (ls1 := [some (.ref 28), some (.ref o1), some (.int x2), some (.int x3), some (.int x4), some (.int x5), none]) (st1 := [.int 0]) (h1 := h) (P := True) (by decide +kernel) rfl trivial ?_
      exact b_Shapes_keepingPlaces_J3 ho1 e k
    · have e := it_t c_3 e
      refine sl_ok ok_Shapes_keepingPlaces [.aload_n 1, .getfield 44, .iload_n 2, .iaload, .iload 4] (pc1 := 53) (ls1 := [some (.ref 28), some (.ref o1), some (.int x2), some (.int x3), some (.int x4), some (.int x5), none]) (st1 := [.int x4, .int (hI h (rf o1 1) x2.toNatClampNeg)]) (h1 := h) (P := (ak o1 = 0 ∧ cx o1 = 0) ∧ (ak (rf o1 1) = 1 ∧ ¬ (x2 < 0 ∨ cx (rf o1 1) ≤ x2.toNatClampNeg)) ∧ True) (by decide +kernel) rfl ⟨ho1, ⟨(st_0_1 ho1).1, (by rw [(st_0_1 ho1).2]; exact g_2)⟩, trivial⟩ ?_
      refine q_icmp_ne (off := 7) (tgt := 60) (by decide +kernel) (by decide) (fun c_4 => ?_) (fun c_4 => ?_)
      · have e := it_f c_4 e
        refine sl_ok ok_Shapes_keepingPlaces [.iconst 0] (pc1 := 61) (ls1 := [some (.ref 28), some (.ref o1), some (.int x2), some (.int x3), some (.int x4), some (.int x5), none]) (st1 := [.int 0]) (h1 := h) (P := True) (by decide +kernel) rfl trivial ?_
        exact b_Shapes_keepingPlaces_J3 ho1 e k
      · have e := it_t c_4 e
        refine sl_ok ok_Shapes_keepingPlaces [.iconst 1] (pc1 := 57) (ls1 := [some (.ref 28), some (.ref o1), some (.int x2), some (.int x3), some (.int x4), some (.int x5), none]) (st1 := [.int 1]) (h1 := h) (P := True) (by decide +kernel) rfl trivial ?_
        refine q_goto (off := 4) (tgt := 61) (by decide) (by decide +kernel) ?_
        exact b_Shapes_keepingPlaces_J3 ho1 e k
def f_Shapes_keepingPlaces_L1 (o1 : Nat) (x2 : Int32) (h : pH) (x3 : Int32) (x4 : Int32) : Option ((Int32 × Int32) ⊕ Int32) :=
  if (hI h o1 3) < x4 then
    some (.inr x3)
  else
    lp (fun s => f_Shapes_keepingPlaces_L2 o1 x2 x4 h s.1 s.2) lpN (x3, (-(hI h o1 3)))
set_option maxHeartbeats 4000000 in
theorem b_Shapes_keepingPlaces_L1 {E : pE} {r : Option Value} {hr : pH} {o1 : Nat} {x2 : Int32} {h : pH} {x3 : Int32} {x4 : Int32} (ho1 : ak o1 = 0 ∧ cx o1 = 0) {b : ((Int32 × Int32) ⊕ Int32)} (e : f_Shapes_keepingPlaces_L1 o1 x2 h x3 x4 = some b) (k : (Sum.elim (fun s : (Int32 × Int32) => Go E M_Shapes_keepingPlaces 9 [some (.ref 28), some (.ref o1), some (.int x2), some (.int s.1), some (.int s.2), none, none] [] h r hr) (fun v : Int32 => r = some (.int v) ∧ hr = h)) b) : Go E M_Shapes_keepingPlaces 9 [some (.ref 28), some (.ref o1), some (.int x2), some (.int x3), some (.int x4), none, none] [] h r hr := by
  unfold f_Shapes_keepingPlaces_L1 at e
  refine sl_ok ok_Shapes_keepingPlaces [.iload 4, .aload_n 1, .getfield 106] (pc1 := 15) (ls1 := [some (.ref 28), some (.ref o1), some (.int x2), some (.int x3), some (.int x4), none, none]) (st1 := [.int (hI h o1 3), .int x4]) (h1 := h) (P := (ak o1 = 0 ∧ cx o1 = 0) ∧ True) (by decide +kernel) rfl ⟨ho1, trivial⟩ ?_
  refine q_icmp_gt (off := 91) (tgt := 106) (by decide +kernel) (by decide) (fun c_1 => ?_) (fun c_1 => ?_)
  · have e := it_t c_1 e
    refine sl_ok ok_Shapes_keepingPlaces [.iload_n 3] (pc1 := 107) (ls1 := [some (.ref 28), some (.ref o1), some (.int x2), some (.int x3), some (.int x4), none, none]) (st1 := [.int x3]) (h1 := h) (P := True) (by decide +kernel) rfl trivial ?_
    cases e
    exact q_iret rfl k.1 k.2 (by decide +kernel)
  · have e := it_f c_1 e
    refine sl_ok ok_Shapes_keepingPlaces [.aload_n 1, .getfield 106, .ineg, .istore 5] (pc1 := 25) (ls1 := [some (.ref 28), some (.ref o1), some (.int x2), some (.int x3), some (.int x4), some (.int (-(hI h o1 3))), none]) (st1 := []) (h1 := h) (P := (ak o1 = 0 ∧ cx o1 = 0) ∧ True) (by decide +kernel) rfl ⟨ho1, trivial⟩ ?_
    exact lp_in e (fun s => Go E M_Shapes_keepingPlaces 25 [some (.ref 28), some (.ref o1), some (.int x2), some (.int s.1), some (.int x4), some (.int s.2), none] [] h r hr) (Sum.elim (fun s : (Int32 × Int32) => Go E M_Shapes_keepingPlaces 9 [some (.ref 28), some (.ref o1), some (.int x2), some (.int s.1), some (.int s.2), none, none] [] h r hr) (fun v : Int32 => r = some (.int v) ∧ hr = h)) (fun _ _ e k => b_Shapes_keepingPlaces_L2 ho1 e k) k
def f_Shapes_keepingPlaces (o1 : Nat) (x2 : Int32) (h : pH) : Option Int32 :=
  lp (fun s => f_Shapes_keepingPlaces_L1 o1 x2 h s.1 s.2) lpN (0, (-(hI h o1 3)))
set_option maxHeartbeats 4000000 in
theorem b_Shapes_keepingPlaces {E : pE} {r : Option Value} {hr : pH} {o1 : Nat} {x2 : Int32} {h : pH} (ho1 : ak o1 = 0 ∧ cx o1 = 0) {b : Int32} (e : f_Shapes_keepingPlaces o1 x2 h = some b) (k : (fun v : Int32 => r = some (.int v) ∧ hr = h) b) : Go E M_Shapes_keepingPlaces 0 [some (.ref 28), some (.ref o1), some (.int x2), none, none, none, none] [] h r hr := by
  unfold f_Shapes_keepingPlaces at e
  refine sl_ok ok_Shapes_keepingPlaces [.iconst 0, .istore_n 3, .aload_n 1, .getfield 106, .ineg, .istore 4] (pc1 := 9) (ls1 := [some (.ref 28), some (.ref o1), some (.int x2), some (.int 0), some (.int (-(hI h o1 3))), none, none]) (st1 := []) (h1 := h) (P := (ak o1 = 0 ∧ cx o1 = 0) ∧ True) (by decide +kernel) rfl ⟨ho1, trivial⟩ ?_
  exact lp_in e (fun s => Go E M_Shapes_keepingPlaces 9 [some (.ref 28), some (.ref o1), some (.int x2), some (.int s.1), some (.int s.2), none, none] [] h r hr) (fun v : Int32 => r = some (.int v) ∧ hr = h) (fun _ _ e k => b_Shapes_keepingPlaces_L1 ho1 e k) k
theorem s_Shapes_keepingPlaces {E : pE} {o1 : Nat} {x2 : Int32} {h : pH} (ho1 : ak o1 = 0 ∧ cx o1 = 0) {v : Int32} (e : f_Shapes_keepingPlaces o1 x2 h = some v) : Ct E M_Shapes_keepingPlaces [.ref 28, .ref o1, .int x2] h (some (.int v)) h :=
  Ct_of ok_Shapes_keepingPlaces [some (.ref 28), some (.ref o1), some (.int x2), none, none, none, none] (Nat.le_of_ble_eq_true rfl) rfl (b_Shapes_keepingPlaces ho1 e ⟨rfl, rfl⟩)
def f_C_keeping (x1 : Int32) (h : pH) : Option Int32 :=
  if (f_Cloud_has 8 x1 h) = 0 then
    some (-1)
  else
    (f_Shapes_keepingPlaces 8 x1 h).bind fun v_2 =>
    some v_2
set_option maxHeartbeats 4000000 in
theorem b_C_keeping {E : pE} {r : Option Value} {hr : pH} {x1 : Int32} {h : pH}  {b : Int32} (e : f_C_keeping x1 h = some b) (k : (fun v : Int32 => r = some (.int v) ∧ hr = h) b) : Go E M_C_keeping 0 [some (.ref 0), some (.int x1)] [] h r hr := by
  unfold f_C_keeping at e
  refine sl_ok ok_C_keeping [.aload_n 0, .getfield 28, .iload_n 1] (pc1 := 5) (ls1 := [some (.ref 0), some (.int x1)]) (st1 := [.int x1, .ref 8]) (h1 := h) (P := (ak 0 = 0 ∧ cx 0 = 11) ∧ True) (by decide +kernel) rfl ⟨⟨rfl, rfl⟩, trivial⟩ ?_
  refine q_callV ok_Cloud_has (as := [.int x1]) (st := []) ⟨wd_175, wd_173, wd_174, wd_14, ds_Cloud_has, Nat.le_of_ble_eq_true rfl, Nat.le_of_ble_eq_true rfl⟩ (s_Cloud_has ⟨rfl, rfl⟩) rfl ⟨rfl, rfl⟩ (ci := 0) rfl (fun v hv => by cases hv; rfl) (Nat.le_of_ble_eq_true rfl) (by decide +kernel) rfl ?_
  refine q_if_eq (off := 18) (tgt := 26) (by decide +kernel) (by decide) (fun c_1 => ?_) (fun c_1 => ?_)
  · have e := it_t c_1 e
    refine sl_ok ok_C_keeping [.iconst (-1)] (pc1 := 27) (ls1 := [some (.ref 0), some (.int x1)]) (st1 := [.int (-1)]) (h1 := h) (P := True) (by decide +kernel) rfl trivial ?_
    cases e
    exact q_iret rfl k.1 k.2 (by decide +kernel)
  · have e := it_f c_1 e
    refine sl_ok ok_C_keeping [.aload_n 0, .getfield 73, .aload_n 0, .getfield 28, .iload_n 1] (pc1 := 20) (ls1 := [some (.ref 0), some (.int x1)]) (st1 := [.int x1, .ref 8, .ref 28]) (h1 := h) (P := (ak 0 = 0 ∧ cx 0 = 11) ∧ (ak 0 = 0 ∧ cx 0 = 11) ∧ True) (by decide +kernel) rfl ⟨⟨rfl, rfl⟩, ⟨rfl, rfl⟩, trivial⟩ ?_
    obtain ⟨v_2, e_3, e⟩ := bi_s e
    refine q_callV ok_Shapes_keepingPlaces (as := [.ref 8, .int x1]) (st := []) ⟨wd_500, wd_501, wd_502, wd_231, ds_Shapes_keepingPlaces, Nat.le_of_ble_eq_true rfl, Nat.le_of_ble_eq_true rfl⟩ (s_Shapes_keepingPlaces ⟨rfl, rfl⟩ e_3) rfl ⟨rfl, rfl⟩ (ci := 7) rfl (fun v hv => by cases hv; rfl) (Nat.le_of_ble_eq_true rfl) (by decide +kernel) rfl ?_
    refine q_goto (off := 4) (tgt := 27) (by decide) (by decide +kernel) ?_
    cases e
    exact q_iret rfl k.1 k.2 (by decide +kernel)
theorem s_C_keeping {E : pE} {x1 : Int32} {h : pH}  {v : Int32} (e : f_C_keeping x1 h = some v) : Ct E M_C_keeping [.ref 0, .int x1] h (some (.int v)) h :=
  Ct_of ok_C_keeping [some (.ref 0), some (.int x1)] (Nat.le_of_ble_eq_true rfl) rfl (b_C_keeping  e ⟨rfl, rfl⟩)
def f_R_keeps_J3 (x1 : Int32) (x2 : Int32) (x3 : Int32) (x5 : Int32) (x6 : Int32) (t0 : Int32) (h : pH) : Option (Int32 ⊕ (Int32 ⊕ Int32)) :=
  (f_R_sideOf x5 x6 x1 h).bind fun v_1 =>
  if t0 = v_1 then
    some (.inl (x6 + 1))
  else
    some (.inr (.inr 0))
set_option maxHeartbeats 4000000 in
theorem b_R_keeps_J3 {E : pE} {r : Option Value} {hr : pH} {x1 : Int32} {x2 : Int32} {x3 : Int32} {x5 : Int32} {x6 : Int32} {t0 : Int32} {h : pH}  {b : (Int32 ⊕ (Int32 ⊕ Int32))} (e : f_R_keeps_J3 x1 x2 x3 x5 x6 t0 h = some b) (k : (Sum.elim (fun s : Int32 => Go E M_R_keeps 36 [some (.ref 79), some (.int x1), some (.int x2), some (.int x3), none, some (.int x5), some (.int s), none, none] [] h r hr) (Sum.elim (fun s : Int32 => Go E M_R_keeps 24 [some (.ref 79), some (.int x1), some (.int x2), some (.int x3), none, some (.int s), none, none, none] [] h r hr) (fun v : Int32 => r = some (.int v) ∧ hr = h))) b) : Go E M_R_keeps 89 [some (.ref 79), some (.int x1), some (.int x2), some (.int x3), none, some (.int x5), some (.int x6), none, none] [.int t0] h r hr := by
  unfold f_R_keeps_J3 at e
  refine sl_ok ok_R_keeps [.istore 8, .iload 8, .aload_n 0, .iload 5, .iload 6, .iload_n 1] (pc1 := 99) (ls1 := [some (.ref 79), some (.int x1), some (.int x2), some (.int x3), none, some (.int x5), some (.int x6), none, some (.int t0)]) (st1 := [.int x1, .int x6, .int x5, .ref 79, .int t0]) (h1 := h) (P := True) (by decide +kernel) rfl trivial ?_
  obtain ⟨v_1, e_2, e⟩ := bi_s e
  refine q_callV ok_R_sideOf (as := [.int x5, .int x6, .int x1]) (st := [.int t0]) ⟨wd_257, wd_258, wd_259, wd_7, ds_R_sideOf, Nat.le_of_ble_eq_true rfl, Nat.le_of_ble_eq_true rfl⟩ (s_R_sideOf  e_2) rfl ⟨rfl, rfl⟩ (ci := 12) rfl (fun v hv => by cases hv; rfl) (Nat.le_of_ble_eq_true rfl) (by decide +kernel) rfl ?_
  refine q_icmp_eq (off := 5) (tgt := 107) (by decide +kernel) (by decide) (fun c_3 => ?_) (fun c_3 => ?_)
  · have e := it_t c_3 e
    refine sl_ok ok_R_keeps [.iinc 6 1] (pc1 := 110) (ls1 := [some (.ref 79), some (.int x1), some (.int x2), some (.int x3), none, some (.int x5), some (.int (x6 + 1)), none, some (.int t0)]) (st1 := []) (h1 := h) (P := True) (by decide +kernel) rfl trivial ?_
    refine q_goto (off := -74) (tgt := 36) (by decide) (by decide +kernel) ?_
    cases e
    refine Go.sb [some (.ref 79), some (.int x1), some (.int x2), some (.int x3), none, some (.int x5), some (.int (x6 + 1)), none, none] (And.intro rfl (And.intro rfl (And.intro rfl (And.intro rfl (And.intro rfl (And.intro rfl trivial)))))) ?_
    exact k
  · have e := it_f c_3 e
    refine sl_ok ok_R_keeps [.iconst 0] (pc1 := 106) (ls1 := [some (.ref 79), some (.int x1), some (.int x2), some (.int x3), none, some (.int x5), some (.int x6), none, some (.int t0)]) (st1 := [.int 0]) (h1 := h) (P := True) (by decide +kernel) rfl trivial ?_
    cases e
    exact q_zret rfl (Or.inl rfl) k.1 k.2 (by decide +kernel)
def f_R_keeps_L2 (x1 : Int32) (x2 : Int32) (x3 : Int32) (x5 : Int32) (h : pH) (x6 : Int32) : Option (Int32 ⊕ (Int32 ⊕ Int32)) :=
  if x5 ≤ x6 then
    some (.inr (.inl (x5 + 1)))
  else
    if x5 = x1 then
      some (.inl (x6 + 1))
    else
      if x6 = x1 then
        some (.inl (x6 + 1))
      else
        (f_R_turnOf x5 x6 x2 x3 h).bind fun v_4 =>
        if v_4 ≤ 0 then
          if 0 ≤ v_4 then
            f_R_keeps_J3 x1 x2 x3 x5 x6 0 h
          else
            f_R_keeps_J3 x1 x2 x3 x5 x6 (-1) h
        else
          f_R_keeps_J3 x1 x2 x3 x5 x6 1 h
set_option maxHeartbeats 4000000 in
theorem b_R_keeps_L2 {E : pE} {r : Option Value} {hr : pH} {x1 : Int32} {x2 : Int32} {x3 : Int32} {x5 : Int32} {h : pH} {x6 : Int32}  {b : (Int32 ⊕ (Int32 ⊕ Int32))} (e : f_R_keeps_L2 x1 x2 x3 x5 h x6 = some b) (k : (Sum.elim (fun s : Int32 => Go E M_R_keeps 36 [some (.ref 79), some (.int x1), some (.int x2), some (.int x3), none, some (.int x5), some (.int s), none, none] [] h r hr) (Sum.elim (fun s : Int32 => Go E M_R_keeps 24 [some (.ref 79), some (.int x1), some (.int x2), some (.int x3), none, some (.int s), none, none, none] [] h r hr) (fun v : Int32 => r = some (.int v) ∧ hr = h))) b) : Go E M_R_keeps 36 [some (.ref 79), some (.int x1), some (.int x2), some (.int x3), none, some (.int x5), some (.int x6), none, none] [] h r hr := by
  unfold f_R_keeps_L2 at e
  refine sl_ok ok_R_keeps [.iload 6, .iload 5] (pc1 := 40) (ls1 := [some (.ref 79), some (.int x1), some (.int x2), some (.int x3), none, some (.int x5), some (.int x6), none, none]) (st1 := [.int x5, .int x6]) (h1 := h) (P := True) (by decide +kernel) rfl trivial ?_
  refine q_icmp_ge (off := 73) (tgt := 113) (by decide +kernel) (by decide) (fun c_1 => ?_) (fun c_1 => ?_)
  · have e := it_t c_1 e
    refine sl_ok ok_R_keeps [.iinc 5 1] (pc1 := 116) (ls1 := [some (.ref 79), some (.int x1), some (.int x2), some (.int x3), none, some (.int (x5 + 1)), some (.int x6), none, none]) (st1 := []) (h1 := h) (P := True) (by decide +kernel) rfl trivial ?_
    refine q_goto (off := -92) (tgt := 24) (by decide) (by decide +kernel) ?_
    cases e
    refine Go.sb [some (.ref 79), some (.int x1), some (.int x2), some (.int x3), none, some (.int (x5 + 1)), none, none, none] (And.intro rfl (And.intro rfl (And.intro rfl (And.intro rfl (And.intro rfl trivial))))) ?_
    exact k
  · have e := it_f c_1 e
    refine sl_ok ok_R_keeps [.iload 5, .iload_n 1] (pc1 := 46) (ls1 := [some (.ref 79), some (.int x1), some (.int x2), some (.int x3), none, some (.int x5), some (.int x6), none, none]) (st1 := [.int x1, .int x5]) (h1 := h) (P := True) (by decide +kernel) rfl trivial ?_
    refine q_icmp_eq (off := 61) (tgt := 107) (by decide +kernel) (by decide) (fun c_2 => ?_) (fun c_2 => ?_)
    · have e := it_t c_2 e
      refine sl_ok ok_R_keeps [.iinc 6 1] (pc1 := 110) (ls1 := [some (.ref 79), some (.int x1), some (.int x2), some (.int x3), none, some (.int x5), some (.int (x6 + 1)), none, none]) (st1 := []) (h1 := h) (P := True) (by decide +kernel) rfl trivial ?_
      refine q_goto (off := -74) (tgt := 36) (by decide) (by decide +kernel) ?_
      cases e
      exact k
    · have e := it_f c_2 e
      refine sl_ok ok_R_keeps [.iload 6, .iload_n 1] (pc1 := 52) (ls1 := [some (.ref 79), some (.int x1), some (.int x2), some (.int x3), none, some (.int x5), some (.int x6), none, none]) (st1 := [.int x1, .int x6]) (h1 := h) (P := True) (by decide +kernel) rfl trivial ?_
      refine q_icmp_ne (off := 6) (tgt := 58) (by decide +kernel) (by decide) (fun c_3 => ?_) (fun c_3 => ?_)
      · have e := it_f c_3 e
        refine sl_ok ok_R_keeps [.aload_n 0, .iload 5, .iload 6, .iload_n 2, .iload_n 3] (pc1 := 65) (ls1 := [some (.ref 79), some (.int x1), some (.int x2), some (.int x3), none, some (.int x5), some (.int x6), none, none]) (st1 := [.int x3, .int x2, .int x6, .int x5, .ref 79]) (h1 := h) (P := True) (by decide +kernel) rfl trivial ?_
        obtain ⟨v_4, e_5, e⟩ := bi_s e
        refine q_callV ok_R_turnOf (as := [.int x5, .int x6, .int x2, .int x3]) (st := []) ⟨wd_252, wd_253, wd_254, wd_7, ds_R_turnOf, Nat.le_of_ble_eq_true rfl, Nat.le_of_ble_eq_true rfl⟩ (s_R_turnOf  e_5) rfl ⟨rfl, rfl⟩ (ci := 12) rfl (fun v hv => by cases hv; rfl) (Nat.le_of_ble_eq_true rfl) (by decide +kernel) rfl ?_
        refine sl_ok ok_R_keeps [.istore 7, .iload 7] (pc1 := 72) (ls1 := [some (.ref 79), some (.int x1), some (.int x2), some (.int x3), none, some (.int x5), some (.int x6), some (.int v_4), none]) (st1 := [.int v_4]) (h1 := h) (P := True) (by decide +kernel) rfl trivial ?_
        refine q_if_le (off := 7) (tgt := 79) (by decide +kernel) (by decide) (fun c_6 => ?_) (fun c_6 => ?_)
        · have e := it_t c_6 e
          refine sl_ok ok_R_keeps [.iload 7] (pc1 := 81) (ls1 := [some (.ref 79), some (.int x1), some (.int x2), some (.int x3), none, some (.int x5), some (.int x6), some (.int v_4), none]) (st1 := [.int v_4]) (h1 := h) (P := True) (by decide +kernel) rfl trivial ?_
          refine q_if_ge (off := 7) (tgt := 88) (by decide +kernel) (by decide) (fun c_7 => ?_) (fun c_7 => ?_)
          · have e := it_t c_7 e
            refine sl_ok ok_R_keeps [.iconst 0] (pc1 := 89) (ls1 := [some (.ref 79), some (.int x1), some (.int x2), some (.int x3), none, some (.int x5), some (.int x6), some (.int v_4), none]) (st1 := [.int 0]) (h1 := h) (P := True) (by decide +kernel) rfl trivial ?_
            refine Go.sb [some (.ref 79), some (.int x1), some (.int x2), some (.int x3), none, some (.int x5), some (.int x6), none, none] (And.intro rfl (And.intro rfl (And.intro rfl (And.intro rfl (And.intro rfl (And.intro rfl trivial)))))) ?_
            exact b_R_keeps_J3  e k
          · have e := it_f c_7 e
            refine sl_ok ok_R_keeps [.iconst (-1)] (pc1 := 85) (ls1 := [some (.ref 79), some (.int x1), some (.int x2), some (.int x3), none, some (.int x5), some (.int x6), some (.int v_4), none]) (st1 := [.int (-1)]) (h1 := h) (P := True) (by decide +kernel) rfl trivial ?_
            refine q_goto (off := 4) (tgt := 89) (by decide) (by decide +kernel) ?_
            refine Go.sb [some (.ref 79), some (.int x1), some (.int x2), some (.int x3), none, some (.int x5), some (.int x6), none, none] (And.intro rfl (And.intro rfl (And.intro rfl (And.intro rfl (And.intro rfl (And.intro rfl trivial)))))) ?_
            exact b_R_keeps_J3  e k
        · have e := it_f c_6 e
          refine sl_ok ok_R_keeps [.iconst 1] (pc1 := 76) (ls1 := [some (.ref 79), some (.int x1), some (.int x2), some (.int x3), none, some (.int x5), some (.int x6), some (.int v_4), none]) (st1 := [.int 1]) (h1 := h) (P := True) (by decide +kernel) rfl trivial ?_
          refine q_goto (off := 13) (tgt := 89) (by decide) (by decide +kernel) ?_
          refine Go.sb [some (.ref 79), some (.int x1), some (.int x2), some (.int x3), none, some (.int x5), some (.int x6), none, none] (And.intro rfl (And.intro rfl (And.intro rfl (And.intro rfl (And.intro rfl (And.intro rfl trivial)))))) ?_
          exact b_R_keeps_J3  e k
      · have e := it_t c_3 e
        refine q_goto (off := 52) (tgt := 107) (by decide) (by decide +kernel) ?_
        refine sl_ok ok_R_keeps [.iinc 6 1] (pc1 := 110) (ls1 := [some (.ref 79), some (.int x1), some (.int x2), some (.int x3), none, some (.int x5), some (.int (x6 + 1)), none, none]) (st1 := []) (h1 := h) (P := True) (by decide +kernel) rfl trivial ?_
        refine q_goto (off := -74) (tgt := 36) (by decide) (by decide +kernel) ?_
        cases e
        exact k
def f_R_keeps_L1 (x1 : Int32) (x2 : Int32) (x3 : Int32) (h : pH) (x5 : Int32) : Option (Int32 ⊕ Int32) :=
  if (f_R_all h) ≤ x5 then
    some (.inr 1)
  else
    lp (fun s => f_R_keeps_L2 x1 x2 x3 x5 h s) lpN 0
set_option maxHeartbeats 4000000 in
theorem b_R_keeps_L1 {E : pE} {r : Option Value} {hr : pH} {x1 : Int32} {x2 : Int32} {x3 : Int32} {h : pH} {x5 : Int32}  {b : (Int32 ⊕ Int32)} (e : f_R_keeps_L1 x1 x2 x3 h x5 = some b) (k : (Sum.elim (fun s : Int32 => Go E M_R_keeps 24 [some (.ref 79), some (.int x1), some (.int x2), some (.int x3), none, some (.int s), none, none, none] [] h r hr) (fun v : Int32 => r = some (.int v) ∧ hr = h)) b) : Go E M_R_keeps 24 [some (.ref 79), some (.int x1), some (.int x2), some (.int x3), none, some (.int x5), none, none, none] [] h r hr := by
  unfold f_R_keeps_L1 at e
  refine sl_ok ok_R_keeps [.iload 5, .aload_n 0] (pc1 := 27) (ls1 := [some (.ref 79), some (.int x1), some (.int x2), some (.int x3), none, some (.int x5), none, none, none]) (st1 := [.ref 79, .int x5]) (h1 := h) (P := True) (by decide +kernel) rfl trivial ?_
  refine q_callV ok_R_all (as := []) (st := [.int x5]) ⟨wd_151, wd_152, wd_153, wd_7, ds_R_all, Nat.le_of_ble_eq_true rfl, Nat.le_of_ble_eq_true rfl⟩ (s_R_all ) rfl ⟨rfl, rfl⟩ (ci := 12) rfl (fun v hv => by cases hv; rfl) (Nat.le_of_ble_eq_true rfl) (by decide +kernel) rfl ?_
  refine q_icmp_ge (off := 89) (tgt := 119) (by decide +kernel) (by decide) (fun c_1 => ?_) (fun c_1 => ?_)
  · have e := it_t c_1 e
    refine sl_ok ok_R_keeps [.iconst 1] (pc1 := 120) (ls1 := [some (.ref 79), some (.int x1), some (.int x2), some (.int x3), none, some (.int x5), none, none, none]) (st1 := [.int 1]) (h1 := h) (P := True) (by decide +kernel) rfl trivial ?_
    cases e
    exact q_zret rfl (Or.inr rfl) k.1 k.2 (by decide +kernel)
  · have e := it_f c_1 e
    refine sl_ok ok_R_keeps [.iconst 0, .istore 6] (pc1 := 36) (ls1 := [some (.ref 79), some (.int x1), some (.int x2), some (.int x3), none, some (.int x5), some (.int 0), none, none]) (st1 := []) (h1 := h) (P := True) (by decide +kernel) rfl trivial ?_
    exact lp_in e (fun s => Go E M_R_keeps 36 [some (.ref 79), some (.int x1), some (.int x2), some (.int x3), none, some (.int x5), some (.int s), none, none] [] h r hr) (Sum.elim (fun s : Int32 => Go E M_R_keeps 24 [some (.ref 79), some (.int x1), some (.int x2), some (.int x3), none, some (.int s), none, none, none] [] h r hr) (fun v : Int32 => r = some (.int v) ∧ hr = h)) (fun _ _ e k => b_R_keeps_L2  e k) k
def f_R_keeps (x1 : Int32) (x2 : Int32) (x3 : Int32) (h : pH) : Option Int32 :=
  (f_R_pointAt x2 x3 h).bind fun v_1 =>
  if v_1 < 0 then
    lp (fun s => f_R_keeps_L1 x1 x2 x3 h s) lpN 0
  else
    if v_1 = x1 then
      lp (fun s => f_R_keeps_L1 x1 x2 x3 h s) lpN 0
    else
      some 0
set_option maxHeartbeats 4000000 in
theorem b_R_keeps {E : pE} {r : Option Value} {hr : pH} {x1 : Int32} {x2 : Int32} {x3 : Int32} {h : pH}  {b : Int32} (e : f_R_keeps x1 x2 x3 h = some b) (k : (fun v : Int32 => r = some (.int v) ∧ hr = h) b) : Go E M_R_keeps 0 [some (.ref 79), some (.int x1), some (.int x2), some (.int x3), none, none, none, none, none] [] h r hr := by
  unfold f_R_keeps at e
  refine sl_ok ok_R_keeps [.aload_n 0, .iload_n 2, .iload_n 3] (pc1 := 3) (ls1 := [some (.ref 79), some (.int x1), some (.int x2), some (.int x3), none, none, none, none, none]) (st1 := [.int x3, .int x2, .ref 79]) (h1 := h) (P := True) (by decide +kernel) rfl trivial ?_
  obtain ⟨v_1, e_2, e⟩ := bi_s e
  refine q_callV ok_R_pointAt (as := [.int x2, .int x3]) (st := []) ⟨wd_160, wd_161, wd_162, wd_7, ds_R_pointAt, Nat.le_of_ble_eq_true rfl, Nat.le_of_ble_eq_true rfl⟩ (s_R_pointAt  e_2) rfl ⟨rfl, rfl⟩ (ci := 12) rfl (fun v hv => by cases hv; rfl) (Nat.le_of_ble_eq_true rfl) (by decide +kernel) rfl ?_
  refine sl_ok ok_R_keeps [.istore 4, .iload 4] (pc1 := 10) (ls1 := [some (.ref 79), some (.int x1), some (.int x2), some (.int x3), some (.int v_1), none, none, none, none]) (st1 := [.int v_1]) (h1 := h) (P := True) (by decide +kernel) rfl trivial ?_
  refine q_if_lt (off := 11) (tgt := 21) (by decide +kernel) (by decide) (fun c_3 => ?_) (fun c_3 => ?_)
  · have e := it_t c_3 e
    refine sl_ok ok_R_keeps [.iconst 0, .istore 5] (pc1 := 24) (ls1 := [some (.ref 79), some (.int x1), some (.int x2), some (.int x3), some (.int v_1), some (.int 0), none, none, none]) (st1 := []) (h1 := h) (P := True) (by decide +kernel) rfl trivial ?_
    refine Go.sb [some (.ref 79), some (.int x1), some (.int x2), some (.int x3), none, some (.int 0), none, none, none] (And.intro rfl (And.intro rfl (And.intro rfl (And.intro rfl (And.intro rfl trivial))))) ?_
    exact lp_in e (fun s => Go E M_R_keeps 24 [some (.ref 79), some (.int x1), some (.int x2), some (.int x3), none, some (.int s), none, none, none] [] h r hr) (fun v : Int32 => r = some (.int v) ∧ hr = h) (fun _ _ e k => b_R_keeps_L1  e k) k
  · have e := it_f c_3 e
    refine sl_ok ok_R_keeps [.iload 4, .iload_n 1] (pc1 := 16) (ls1 := [some (.ref 79), some (.int x1), some (.int x2), some (.int x3), some (.int v_1), none, none, none, none]) (st1 := [.int x1, .int v_1]) (h1 := h) (P := True) (by decide +kernel) rfl trivial ?_
    refine q_icmp_eq (off := 5) (tgt := 21) (by decide +kernel) (by decide) (fun c_4 => ?_) (fun c_4 => ?_)
    · have e := it_t c_4 e
      refine sl_ok ok_R_keeps [.iconst 0, .istore 5] (pc1 := 24) (ls1 := [some (.ref 79), some (.int x1), some (.int x2), some (.int x3), some (.int v_1), some (.int 0), none, none, none]) (st1 := []) (h1 := h) (P := True) (by decide +kernel) rfl trivial ?_
      refine Go.sb [some (.ref 79), some (.int x1), some (.int x2), some (.int x3), none, some (.int 0), none, none, none] (And.intro rfl (And.intro rfl (And.intro rfl (And.intro rfl (And.intro rfl trivial))))) ?_
      exact lp_in e (fun s => Go E M_R_keeps 24 [some (.ref 79), some (.int x1), some (.int x2), some (.int x3), none, some (.int s), none, none, none] [] h r hr) (fun v : Int32 => r = some (.int v) ∧ hr = h) (fun _ _ e k => b_R_keeps_L1  e k) k
    · have e := it_f c_4 e
      refine sl_ok ok_R_keeps [.iconst 0] (pc1 := 20) (ls1 := [some (.ref 79), some (.int x1), some (.int x2), some (.int x3), some (.int v_1), none, none, none, none]) (st1 := [.int 0]) (h1 := h) (P := True) (by decide +kernel) rfl trivial ?_
      cases e
      exact q_zret rfl (Or.inl rfl) k.1 k.2 (by decide +kernel)
theorem s_R_keeps {E : pE} {x1 : Int32} {x2 : Int32} {x3 : Int32} {h : pH}  {v : Int32} (e : f_R_keeps x1 x2 x3 h = some v) : Ct E M_R_keeps [.ref 79, .int x1, .int x2, .int x3] h (some (.int v)) h :=
  Ct_of ok_R_keeps [some (.ref 79), some (.int x1), some (.int x2), some (.int x3), none, none, none, none, none] (Nat.le_of_ble_eq_true rfl) rfl (b_R_keeps  e ⟨rfl, rfl⟩)
def f_R_keeping_L2 (x1 : Int32) (x2 : Int32) (x4 : Int32) (h : pH) (x3 : Int32) (x5 : Int32) : Option ((Int32 × Int32) ⊕ ((Int32 × Int32) ⊕ Int32)) :=
  if x2 < x5 then
    some (.inr (.inl (x3, (x4 + 1))))
  else
    (f_R_keeps x1 x5 x4 h).bind fun v_2 =>
    if v_2 = 0 then
      some (.inl (x3, (x5 + 1)))
    else
      some (.inl ((x3 + 1), (x5 + 1)))
set_option maxHeartbeats 4000000 in
theorem b_R_keeping_L2 {E : pE} {r : Option Value} {hr : pH} {x1 : Int32} {x2 : Int32} {x4 : Int32} {h : pH} {x3 : Int32} {x5 : Int32}  {b : ((Int32 × Int32) ⊕ ((Int32 × Int32) ⊕ Int32))} (e : f_R_keeping_L2 x1 x2 x4 h x3 x5 = some b) (k : (Sum.elim (fun s : (Int32 × Int32) => Go E M_R_keeping 33 [some (.ref 79), some (.int x1), some (.int x2), some (.int s.1), some (.int x4), some (.int s.2)] [] h r hr) (Sum.elim (fun s : (Int32 × Int32) => Go E M_R_keeping 23 [some (.ref 79), some (.int x1), some (.int x2), some (.int s.1), some (.int s.2), none] [] h r hr) (fun v : Int32 => r = some (.int v) ∧ hr = h))) b) : Go E M_R_keeping 33 [some (.ref 79), some (.int x1), some (.int x2), some (.int x3), some (.int x4), some (.int x5)] [] h r hr := by
  unfold f_R_keeping_L2 at e
  refine sl_ok ok_R_keeping [.iload 5, .iload_n 2] (pc1 := 36) (ls1 := [some (.ref 79), some (.int x1), some (.int x2), some (.int x3), some (.int x4), some (.int x5)]) (st1 := [.int x2, .int x5]) (h1 := h) (P := True) (by decide +kernel) rfl trivial ?_
  refine q_icmp_gt (off := 24) (tgt := 60) (by decide +kernel) (by decide) (fun c_1 => ?_) (fun c_1 => ?_)
  · have e := it_t c_1 e
    refine sl_ok ok_R_keeping [.iinc 4 1] (pc1 := 63) (ls1 := [some (.ref 79), some (.int x1), some (.int x2), some (.int x3), some (.int (x4 + 1)), some (.int x5)]) (st1 := []) (h1 := h) (P := True) (by decide +kernel) rfl trivial ?_
    refine q_goto (off := -40) (tgt := 23) (by decide) (by decide +kernel) ?_
    cases e
    refine Go.sb [some (.ref 79), some (.int x1), some (.int x2), some (.int x3), some (.int (x4 + 1)), none] (And.intro rfl (And.intro rfl (And.intro rfl (And.intro rfl (And.intro rfl trivial))))) ?_
    exact k
  · have e := it_f c_1 e
    refine sl_ok ok_R_keeping [.aload_n 0, .iload_n 1, .iload 5, .iload 4] (pc1 := 45) (ls1 := [some (.ref 79), some (.int x1), some (.int x2), some (.int x3), some (.int x4), some (.int x5)]) (st1 := [.int x4, .int x5, .int x1, .ref 79]) (h1 := h) (P := True) (by decide +kernel) rfl trivial ?_
    obtain ⟨v_2, e_3, e⟩ := bi_s e
    refine q_callV ok_R_keeps (as := [.int x1, .int x5, .int x4]) (st := []) ⟨wd_503, wd_504, wd_505, wd_7, ds_R_keeps, Nat.le_of_ble_eq_true rfl, Nat.le_of_ble_eq_true rfl⟩ (s_R_keeps  e_3) rfl ⟨rfl, rfl⟩ (ci := 12) rfl (fun v hv => by cases hv; rfl) (Nat.le_of_ble_eq_true rfl) (by decide +kernel) rfl ?_
    refine q_if_eq (off := 6) (tgt := 54) (by decide +kernel) (by decide) (fun c_4 => ?_) (fun c_4 => ?_)
    · have e := it_t c_4 e
      refine sl_ok ok_R_keeping [.iinc 5 1] (pc1 := 57) (ls1 := [some (.ref 79), some (.int x1), some (.int x2), some (.int x3), some (.int x4), some (.int (x5 + 1))]) (st1 := []) (h1 := h) (P := True) (by decide +kernel) rfl trivial ?_
      refine q_goto (off := -24) (tgt := 33) (by decide) (by decide +kernel) ?_
      cases e
      exact k
    · have e := it_f c_4 e
      refine sl_ok ok_R_keeping [.iinc 3 1, .iinc 5 1] (pc1 := 57) (ls1 := [some (.ref 79), some (.int x1), some (.int x2), some (.int (x3 + 1)), some (.int x4), some (.int (x5 + 1))]) (st1 := []) (h1 := h) (P := True) (by decide +kernel) rfl trivial ?_
      refine q_goto (off := -24) (tgt := 33) (by decide) (by decide +kernel) ?_
      cases e
      exact k
def f_R_keeping_L1 (x1 : Int32) (x2 : Int32) (h : pH) (x3 : Int32) (x4 : Int32) : Option ((Int32 × Int32) ⊕ Int32) :=
  if x2 < x4 then
    some (.inr x3)
  else
    lp (fun s => f_R_keeping_L2 x1 x2 x4 h s.1 s.2) lpN (x3, (-x2))
set_option maxHeartbeats 4000000 in
theorem b_R_keeping_L1 {E : pE} {r : Option Value} {hr : pH} {x1 : Int32} {x2 : Int32} {h : pH} {x3 : Int32} {x4 : Int32}  {b : ((Int32 × Int32) ⊕ Int32)} (e : f_R_keeping_L1 x1 x2 h x3 x4 = some b) (k : (Sum.elim (fun s : (Int32 × Int32) => Go E M_R_keeping 23 [some (.ref 79), some (.int x1), some (.int x2), some (.int s.1), some (.int s.2), none] [] h r hr) (fun v : Int32 => r = some (.int v) ∧ hr = h)) b) : Go E M_R_keeping 23 [some (.ref 79), some (.int x1), some (.int x2), some (.int x3), some (.int x4), none] [] h r hr := by
  unfold f_R_keeping_L1 at e
  refine sl_ok ok_R_keeping [.iload 4, .iload_n 2] (pc1 := 26) (ls1 := [some (.ref 79), some (.int x1), some (.int x2), some (.int x3), some (.int x4), none]) (st1 := [.int x2, .int x4]) (h1 := h) (P := True) (by decide +kernel) rfl trivial ?_
  refine q_icmp_gt (off := 40) (tgt := 66) (by decide +kernel) (by decide) (fun c_1 => ?_) (fun c_1 => ?_)
  · have e := it_t c_1 e
    refine sl_ok ok_R_keeping [.iload_n 3] (pc1 := 67) (ls1 := [some (.ref 79), some (.int x1), some (.int x2), some (.int x3), some (.int x4), none]) (st1 := [.int x3]) (h1 := h) (P := True) (by decide +kernel) rfl trivial ?_
    cases e
    exact q_iret rfl k.1 k.2 (by decide +kernel)
  · have e := it_f c_1 e
    refine sl_ok ok_R_keeping [.iload_n 2, .ineg, .istore 5] (pc1 := 33) (ls1 := [some (.ref 79), some (.int x1), some (.int x2), some (.int x3), some (.int x4), some (.int (-x2))]) (st1 := []) (h1 := h) (P := True) (by decide +kernel) rfl trivial ?_
    exact lp_in e (fun s => Go E M_R_keeping 33 [some (.ref 79), some (.int x1), some (.int x2), some (.int s.1), some (.int x4), some (.int s.2)] [] h r hr) (Sum.elim (fun s : (Int32 × Int32) => Go E M_R_keeping 23 [some (.ref 79), some (.int x1), some (.int x2), some (.int s.1), some (.int s.2), none] [] h r hr) (fun v : Int32 => r = some (.int v) ∧ hr = h)) (fun _ _ e k => b_R_keeping_L2  e k) k
def f_R_keeping (x1 : Int32) (h : pH) : Option Int32 :=
  if (f_R_isPoint x1 h) = 0 then
    some (-1)
  else
    lp (fun s => f_R_keeping_L1 x1 (hI h 87 1) h s.1 s.2) lpN (0, (-(hI h 87 1)))
set_option maxHeartbeats 4000000 in
theorem b_R_keeping {E : pE} {r : Option Value} {hr : pH} {x1 : Int32} {h : pH}  {b : Int32} (e : f_R_keeping x1 h = some b) (k : (fun v : Int32 => r = some (.int v) ∧ hr = h) b) : Go E M_R_keeping 0 [some (.ref 79), some (.int x1), none, none, none, none] [] h r hr := by
  unfold f_R_keeping at e
  refine sl_ok ok_R_keeping [.aload_n 0, .iload_n 1] (pc1 := 2) (ls1 := [some (.ref 79), some (.int x1), none, none, none, none]) (st1 := [.int x1, .ref 79]) (h1 := h) (P := True) (by decide +kernel) rfl trivial ?_
  refine q_callV ok_R_isPoint (as := [.int x1]) (st := []) ⟨wd_179, wd_180, wd_181, wd_7, ds_R_isPoint, Nat.le_of_ble_eq_true rfl, Nat.le_of_ble_eq_true rfl⟩ (s_R_isPoint ) rfl ⟨rfl, rfl⟩ (ci := 12) rfl (fun v hv => by cases hv; rfl) (Nat.le_of_ble_eq_true rfl) (by decide +kernel) rfl ?_
  refine q_if_ne (off := 5) (tgt := 10) (by decide +kernel) (by decide) (fun c_1 => ?_) (fun c_1 => ?_)
  · have e := it_f c_1 e
    refine sl_ok ok_R_keeping [.aload_n 0, .getfield 40, .iconst 1, .iaload, .istore_n 2, .iconst 0, .istore_n 3, .iload_n 2, .ineg, .istore 4] (pc1 := 23) (ls1 := [some (.ref 79), some (.int x1), some (.int (hI h 87 1)), some (.int 0), some (.int (-(hI h 87 1))), none]) (st1 := []) (h1 := h) (P := (ak 79 = 0 ∧ cx 79 = 12) ∧ (ak 87 = 1 ∧ ¬ ((1 : Int32) < 0 ∨ cx 87 ≤ (1 : Int32).toNatClampNeg)) ∧ True) (by decide +kernel) rfl ⟨⟨rfl, rfl⟩, ⟨rfl, (by decide)⟩, trivial⟩ ?_
    exact lp_in e (fun s => Go E M_R_keeping 23 [some (.ref 79), some (.int x1), some (.int (hI h 87 1)), some (.int s.1), some (.int s.2), none] [] h r hr) (fun v : Int32 => r = some (.int v) ∧ hr = h) (fun _ _ e k => b_R_keeping_L1  e k) k
  · have e := it_t c_1 e
    refine sl_ok ok_R_keeping [.iconst (-1)] (pc1 := 9) (ls1 := [some (.ref 79), some (.int x1), none, none, none, none]) (st1 := [.int (-1)]) (h1 := h) (P := True) (by decide +kernel) rfl trivial ?_
    cases e
    exact q_iret rfl k.1 k.2 (by decide +kernel)
theorem s_R_keeping {E : pE} {x1 : Int32} {h : pH}  {v : Int32} (e : f_R_keeping x1 h = some v) : Ct E M_R_keeping [.ref 79, .int x1] h (some (.int v)) h :=
  Ct_of ok_R_keeping [some (.ref 79), some (.int x1), none, none, none, none] (Nat.le_of_ble_eq_true rfl) rfl (b_R_keeping  e ⟨rfl, rfl⟩)
def f_Cuts_countAll_L1 (o1 : Nat) (h : pH) (x2 : Int32) (x3 : Int32) : Option ((Int32 × Int32) ⊕ Int32) :=
  if (f_Cloud_everyone o1 h) < x3 then
    some (.inr x2)
  else
    (f_SetMarks_isMarked 22 x3 h).bind fun v_2 =>
    if v_2 = 0 then
      some (.inl (x2, (x3 + 1)))
    else
      some (.inl ((x2 + 1), (x3 + 1)))
set_option maxHeartbeats 4000000 in
theorem b_Cuts_countAll_L1 {E : pE} {r : Option Value} {hr : pH} {o1 : Nat} {h : pH} {x2 : Int32} {x3 : Int32} (ho1 : ak o1 = 0 ∧ cx o1 = 0) {b : ((Int32 × Int32) ⊕ Int32)} (e : f_Cuts_countAll_L1 o1 h x2 x3 = some b) (k : (Sum.elim (fun s : (Int32 × Int32) => Go E M_Cuts_countAll 4 [some (.ref 21), some (.ref o1), some (.int s.1), some (.int s.2)] [] h r hr) (fun v : Int32 => r = some (.int v) ∧ hr = h)) b) : Go E M_Cuts_countAll 4 [some (.ref 21), some (.ref o1), some (.int x2), some (.int x3)] [] h r hr := by
  unfold f_Cuts_countAll_L1 at e
  refine sl_ok ok_Cuts_countAll [.iload_n 3, .aload_n 1] (pc1 := 6) (ls1 := [some (.ref 21), some (.ref o1), some (.int x2), some (.int x3)]) (st1 := [.ref o1, .int x3]) (h1 := h) (P := True) (by decide +kernel) rfl trivial ?_
  refine q_callV ok_Cloud_everyone (as := []) (st := [.int x3]) ⟨wd_348, wd_209, wd_210, wd_14, ds_Cloud_everyone, Nat.le_of_ble_eq_true rfl, Nat.le_of_ble_eq_true rfl⟩ (s_Cloud_everyone ho1) rfl ho1 (ci := 0) rfl (fun v hv => by cases hv; rfl) (Nat.le_of_ble_eq_true rfl) (by decide +kernel) rfl ?_
  refine q_icmp_gt (off := 23) (tgt := 32) (by decide +kernel) (by decide) (fun c_1 => ?_) (fun c_1 => ?_)
  · have e := it_t c_1 e
    refine sl_ok ok_Cuts_countAll [.iload_n 2] (pc1 := 33) (ls1 := [some (.ref 21), some (.ref o1), some (.int x2), some (.int x3)]) (st1 := [.int x2]) (h1 := h) (P := True) (by decide +kernel) rfl trivial ?_
    cases e
    exact q_iret rfl k.1 k.2 (by decide +kernel)
  · have e := it_f c_1 e
    refine sl_ok ok_Cuts_countAll [.aload_n 0, .getfield 12, .iload_n 3] (pc1 := 17) (ls1 := [some (.ref 21), some (.ref o1), some (.int x2), some (.int x3)]) (st1 := [.int x3, .ref 22]) (h1 := h) (P := (ak 21 = 0 ∧ cx 21 = 1) ∧ True) (by decide +kernel) rfl ⟨⟨rfl, rfl⟩, trivial⟩ ?_
    obtain ⟨v_2, e_3, e⟩ := bi_s e
    refine q_callV ok_SetMarks_isMarked (as := [.int x3]) (st := []) ⟨wd_353, wd_354, wd_355, wd_336, ds_SetMarks_isMarked, Nat.le_of_ble_eq_true rfl, Nat.le_of_ble_eq_true rfl⟩ (s_SetMarks_isMarked ⟨rfl, rfl⟩ e_3) rfl ⟨rfl, rfl⟩ (ci := 6) rfl (fun v hv => by cases hv; rfl) (Nat.le_of_ble_eq_true rfl) (by decide +kernel) rfl ?_
    refine q_if_eq (off := 6) (tgt := 26) (by decide +kernel) (by decide) (fun c_4 => ?_) (fun c_4 => ?_)
    · have e := it_t c_4 e
      refine sl_ok ok_Cuts_countAll [.iinc 3 1] (pc1 := 29) (ls1 := [some (.ref 21), some (.ref o1), some (.int x2), some (.int (x3 + 1))]) (st1 := []) (h1 := h) (P := True) (by decide +kernel) rfl trivial ?_
      refine q_goto (off := -25) (tgt := 4) (by decide) (by decide +kernel) ?_
      cases e
      exact k
    · have e := it_f c_4 e
      refine sl_ok ok_Cuts_countAll [.iinc 2 1, .iinc 3 1] (pc1 := 29) (ls1 := [some (.ref 21), some (.ref o1), some (.int (x2 + 1)), some (.int (x3 + 1))]) (st1 := []) (h1 := h) (P := True) (by decide +kernel) rfl trivial ?_
      refine q_goto (off := -25) (tgt := 4) (by decide) (by decide +kernel) ?_
      cases e
      exact k
def f_Cuts_countAll (o1 : Nat) (h : pH) : Option Int32 :=
  lp (fun s => f_Cuts_countAll_L1 o1 h s.1 s.2) lpN (0, 0)
set_option maxHeartbeats 4000000 in
theorem b_Cuts_countAll {E : pE} {r : Option Value} {hr : pH} {o1 : Nat} {h : pH} (ho1 : ak o1 = 0 ∧ cx o1 = 0) {b : Int32} (e : f_Cuts_countAll o1 h = some b) (k : (fun v : Int32 => r = some (.int v) ∧ hr = h) b) : Go E M_Cuts_countAll 0 [some (.ref 21), some (.ref o1), none, none] [] h r hr := by
  unfold f_Cuts_countAll at e
  refine sl_ok ok_Cuts_countAll [.iconst 0, .istore_n 2, .iconst 0, .istore_n 3] (pc1 := 4) (ls1 := [some (.ref 21), some (.ref o1), some (.int 0), some (.int 0)]) (st1 := []) (h1 := h) (P := True) (by decide +kernel) rfl trivial ?_
  exact lp_in e (fun s => Go E M_Cuts_countAll 4 [some (.ref 21), some (.ref o1), some (.int s.1), some (.int s.2)] [] h r hr) (fun v : Int32 => r = some (.int v) ∧ hr = h) (fun _ _ e k => b_Cuts_countAll_L1 ho1 e k) k
theorem s_Cuts_countAll {E : pE} {o1 : Nat} {h : pH} (ho1 : ak o1 = 0 ∧ cx o1 = 0) {v : Int32} (e : f_Cuts_countAll o1 h = some v) : Ct E M_Cuts_countAll [.ref 21, .ref o1] h (some (.int v)) h :=
  Ct_of ok_Cuts_countAll [some (.ref 21), some (.ref o1), none, none] (Nat.le_of_ble_eq_true rfl) rfl (b_Cuts_countAll ho1 e ⟨rfl, rfl⟩)
def f_C_splits (h : pH) : Option (Int32 × pH) :=
  if 2 ≤ (hI h 8 2) then
    (f_Cuts_find 8 h).bind fun v_2 =>
    (f_Cuts_countAll 8 v_2).bind fun v_4 =>
    some ((((jshl 1 ((hI v_2 8 2) - 1)) - 1) - ((v_4 - 2) / 2)), v_2)
  else
    some (0, h)
set_option maxHeartbeats 4000000 in
theorem b_C_splits {E : pE} {r : Option Value} {hr : pH} {h : pH}  {b : (Int32 × pH)} (e : f_C_splits h = some b) (k : (fun v : (Int32 × pH) => r = some (.int v.1) ∧ hr = v.2) b) : Go E M_C_splits 0 [some (.ref 0), none] [] h r hr := by
  unfold f_C_splits at e
  refine sl_ok ok_C_splits [.aload_n 0, .getfield 28, .getfield 120, .iconst 2] (pc1 := 8) (ls1 := [some (.ref 0), none]) (st1 := [.int 2, .int (hI h 8 2)]) (h1 := h) (P := (ak 0 = 0 ∧ cx 0 = 11) ∧ (ak 8 = 0 ∧ cx 8 = 0) ∧ True) (by decide +kernel) rfl ⟨⟨rfl, rfl⟩, ⟨rfl, rfl⟩, trivial⟩ ?_
  refine q_icmp_ge (off := 5) (tgt := 13) (by decide +kernel) (by decide) (fun c_1 => ?_) (fun c_1 => ?_)
  · have e := it_t c_1 e
    refine sl_ok ok_C_splits [.aload_n 0, .getfield 52, .aload_n 0, .getfield 28] (pc1 := 21) (ls1 := [some (.ref 0), none]) (st1 := [.ref 8, .ref 21]) (h1 := h) (P := (ak 0 = 0 ∧ cx 0 = 11) ∧ (ak 0 = 0 ∧ cx 0 = 11) ∧ True) (by decide +kernel) rfl ⟨⟨rfl, rfl⟩, ⟨rfl, rfl⟩, trivial⟩ ?_
    obtain ⟨v_2, e_3, e⟩ := bi_s e
    refine q_callV ok_Cuts_find (as := [.ref 8]) (st := []) ⟨wd_356, wd_357, wd_358, wd_342, ds_Cuts_find, Nat.le_of_ble_eq_true rfl, Nat.le_of_ble_eq_true rfl⟩ (s_Cuts_find ⟨rfl, rfl⟩ e_3) rfl ⟨rfl, rfl⟩ (ci := 1) rfl (fun v hv => by cases hv) (Nat.le_of_ble_eq_true rfl) (by decide +kernel) rfl ?_
    refine sl_ok ok_C_splits [.aload_n 0, .getfield 52, .aload_n 0, .getfield 28] (pc1 := 32) (ls1 := [some (.ref 0), none]) (st1 := [.ref 8, .ref 21]) (h1 := v_2) (P := (ak 0 = 0 ∧ cx 0 = 11) ∧ (ak 0 = 0 ∧ cx 0 = 11) ∧ True) (by decide +kernel) rfl ⟨⟨rfl, rfl⟩, ⟨rfl, rfl⟩, trivial⟩ ?_
    obtain ⟨v_4, e_5, e⟩ := bi_s e
    refine q_callV ok_Cuts_countAll (as := [.ref 8]) (st := []) ⟨wd_506, wd_507, wd_508, wd_342, ds_Cuts_countAll, Nat.le_of_ble_eq_true rfl, Nat.le_of_ble_eq_true rfl⟩ (s_Cuts_countAll ⟨rfl, rfl⟩ e_5) rfl ⟨rfl, rfl⟩ (ci := 1) rfl (fun v hv => by cases hv; rfl) (Nat.le_of_ble_eq_true rfl) (by decide +kernel) rfl ?_
    refine sl_ok ok_C_splits [.iconst 2, .isub, .iconst 2, .idiv, .istore_n 1, .iconst 1, .aload_n 0, .getfield 28, .getfield 120, .iconst 1, .isub, .ishl, .iconst 1, .isub, .iload_n 1, .isub] (pc1 := 55) (ls1 := [some (.ref 0), some (.int ((v_4 - 2) / 2))]) (st1 := [.int (((jshl 1 ((hI v_2 8 2) - 1)) - 1) - ((v_4 - 2) / 2))]) (h1 := v_2) (P := (¬ (2 : Int32) = 0) ∧ (ak 0 = 0 ∧ cx 0 = 11) ∧ (ak 8 = 0 ∧ cx 8 = 0) ∧ True) (by decide +kernel) rfl ⟨(by decide), ⟨rfl, rfl⟩, ⟨rfl, rfl⟩, trivial⟩ ?_
    cases e
    exact q_iret rfl k.1 k.2 (by decide +kernel)
  · have e := it_f c_1 e
    refine sl_ok ok_C_splits [.iconst 0] (pc1 := 12) (ls1 := [some (.ref 0), none]) (st1 := [.int 0]) (h1 := h) (P := True) (by decide +kernel) rfl trivial ?_
    cases e
    exact q_iret rfl k.1 k.2 (by decide +kernel)
theorem s_C_splits {E : pE} {h : pH}  {v : (Int32 × pH)} (e : f_C_splits h = some v) : Ct E M_C_splits [.ref 0] h (some (.int v.1)) v.2 :=
  Ct_of ok_C_splits [some (.ref 0), none] (Nat.le_of_ble_eq_true rfl) rfl (b_C_splits  e ⟨rfl, rfl⟩)
def f_R_splits_L1 (h : pH) (x1 : Int32) (x2 : Int32) : Option ((Int32 × Int32) ⊕ (Int32 × pH)) :=
  if (f_R_full h) < x2 then
    some (.inr ((x1 / 2), h))
  else
    (f_R_areParted x2 h).bind fun v_2 =>
    if v_2 = 0 then
      some (.inl ((x1 + 1), (x2 + 1)))
    else
      some (.inl (x1, (x2 + 1)))
set_option maxHeartbeats 4000000 in
theorem b_R_splits_L1 {E : pE} {r : Option Value} {hr : pH} {h : pH} {x1 : Int32} {x2 : Int32}  {b : ((Int32 × Int32) ⊕ (Int32 × pH))} (e : f_R_splits_L1 h x1 x2 = some b) (k : (Sum.elim (fun s : (Int32 × Int32) => Go E M_R_splits 8 [some (.ref 79), some (.int s.1), some (.int s.2)] [] h r hr) (fun v : (Int32 × pH) => r = some (.int v.1) ∧ hr = v.2)) b) : Go E M_R_splits 8 [some (.ref 79), some (.int x1), some (.int x2)] [] h r hr := by
  unfold f_R_splits_L1 at e
  refine sl_ok ok_R_splits [.iload_n 2, .aload_n 0] (pc1 := 10) (ls1 := [some (.ref 79), some (.int x1), some (.int x2)]) (st1 := [.ref 79, .int x2]) (h1 := h) (P := True) (by decide +kernel) rfl trivial ?_
  refine q_callV ok_R_full (as := []) (st := [.int x2]) ⟨wd_266, wd_267, wd_268, wd_7, ds_R_full, Nat.le_of_ble_eq_true rfl, Nat.le_of_ble_eq_true rfl⟩ (s_R_full ) rfl ⟨rfl, rfl⟩ (ci := 12) rfl (fun v hv => by cases hv; rfl) (Nat.le_of_ble_eq_true rfl) (by decide +kernel) rfl ?_
  refine q_icmp_gt (off := 20) (tgt := 33) (by decide +kernel) (by decide) (fun c_1 => ?_) (fun c_1 => ?_)
  · have e := it_t c_1 e
    refine sl_ok ok_R_splits [.iload_n 1, .iconst 2, .idiv] (pc1 := 36) (ls1 := [some (.ref 79), some (.int x1), some (.int x2)]) (st1 := [.int (x1 / 2)]) (h1 := h) (P := (¬ (2 : Int32) = 0) ∧ True) (by decide +kernel) rfl ⟨(by decide), trivial⟩ ?_
    cases e
    exact q_iret rfl k.1 k.2 (by decide +kernel)
  · have e := it_f c_1 e
    refine sl_ok ok_R_splits [.aload_n 0, .iload_n 2] (pc1 := 18) (ls1 := [some (.ref 79), some (.int x1), some (.int x2)]) (st1 := [.int x2, .ref 79]) (h1 := h) (P := True) (by decide +kernel) rfl trivial ?_
    obtain ⟨v_2, e_3, e⟩ := bi_s e
    refine q_callV ok_R_areParted (as := [.int x2]) (st := []) ⟨wd_374, wd_375, wd_376, wd_7, ds_R_areParted, Nat.le_of_ble_eq_true rfl, Nat.le_of_ble_eq_true rfl⟩ (s_R_areParted  e_3) rfl ⟨rfl, rfl⟩ (ci := 12) rfl (fun v hv => by cases hv; rfl) (Nat.le_of_ble_eq_true rfl) (by decide +kernel) rfl ?_
    refine q_if_ne (off := 6) (tgt := 27) (by decide +kernel) (by decide) (fun c_4 => ?_) (fun c_4 => ?_)
    · have e := it_f c_4 e
      refine sl_ok ok_R_splits [.iinc 2 1] (pc1 := 30) (ls1 := [some (.ref 79), some (.int x1), some (.int (x2 + 1))]) (st1 := []) (h1 := h) (P := True) (by decide +kernel) rfl trivial ?_
      refine q_goto (off := -22) (tgt := 8) (by decide) (by decide +kernel) ?_
      cases e
      exact k
    · have e := it_t c_4 e
      refine sl_ok ok_R_splits [.iinc 1 1, .iinc 2 1] (pc1 := 30) (ls1 := [some (.ref 79), some (.int (x1 + 1)), some (.int (x2 + 1))]) (st1 := []) (h1 := h) (P := True) (by decide +kernel) rfl trivial ?_
      refine q_goto (off := -22) (tgt := 8) (by decide) (by decide +kernel) ?_
      cases e
      exact k
def f_R_splits (h : pH) : Option (Int32 × pH) :=
  (f_R_laysMeetings h).bind fun v_1 =>
  lp (fun s => f_R_splits_L1 v_1 s.1 s.2) lpN (0, 0)
set_option maxHeartbeats 4000000 in
theorem b_R_splits {E : pE} {r : Option Value} {hr : pH} {h : pH}  {b : (Int32 × pH)} (e : f_R_splits h = some b) (k : (fun v : (Int32 × pH) => r = some (.int v.1) ∧ hr = v.2) b) : Go E M_R_splits 0 [some (.ref 79), none, none] [] h r hr := by
  unfold f_R_splits at e
  refine sl_ok ok_R_splits [.aload_n 0] (pc1 := 1) (ls1 := [some (.ref 79), none, none]) (st1 := [.ref 79]) (h1 := h) (P := True) (by decide +kernel) rfl trivial ?_
  obtain ⟨v_1, e_2, e⟩ := bi_s e
  refine q_callV ok_R_laysMeetings (as := []) (st := []) ⟨wd_371, wd_372, wd_373, wd_7, ds_R_laysMeetings, Nat.le_of_ble_eq_true rfl, Nat.le_of_ble_eq_true rfl⟩ (s_R_laysMeetings  e_2) rfl ⟨rfl, rfl⟩ (ci := 12) rfl (fun v hv => by cases hv) (Nat.le_of_ble_eq_true rfl) (by decide +kernel) rfl ?_
  refine sl_ok ok_R_splits [.iconst 0, .istore_n 1, .iconst 0, .istore_n 2] (pc1 := 8) (ls1 := [some (.ref 79), some (.int 0), some (.int 0)]) (st1 := []) (h1 := v_1) (P := True) (by decide +kernel) rfl trivial ?_
  exact lp_in e (fun s => Go E M_R_splits 8 [some (.ref 79), some (.int s.1), some (.int s.2)] [] v_1 r hr) (fun v : (Int32 × pH) => r = some (.int v.1) ∧ hr = v.2) (fun _ _ e k => b_R_splits_L1  e k) k
theorem s_R_splits {E : pE} {h : pH}  {v : (Int32 × pH)} (e : f_R_splits h = some v) : Ct E M_R_splits [.ref 79] h (some (.int v.1)) v.2 :=
  Ct_of ok_R_splits [some (.ref 79), none, none] (Nat.le_of_ble_eq_true rfl) rfl (b_R_splits  e ⟨rfl, rfl⟩)
def f_Depths_greatestOf_L2 (o1 : Nat) (x3 : Int32) (x2 : Int32) (x4 : Int32) (h : pH) : Option ((Int32 × Int32 × pH) ⊕ ((Int32 × Int32 × pH) ⊕ (Int32 × pH))) :=
  if (hI h o1 3) < x4 then
    some (.inr (.inl (x2, (x3 + 1), h)))
  else
    (f_Depths_depthOver o1 x4 x3 x2 h).bind fun v_2 =>
    some (.inl ((jmax x2 v_2.1), (x4 + 1), v_2.2))
set_option maxHeartbeats 4000000 in
theorem b_Depths_greatestOf_L2 {E : pE} {r : Option Value} {hr : pH} {o1 : Nat} {x3 : Int32} {x2 : Int32} {x4 : Int32} {h : pH} (ho1 : ak o1 = 0 ∧ cx o1 = 0) {b : ((Int32 × Int32 × pH) ⊕ ((Int32 × Int32 × pH) ⊕ (Int32 × pH)))} (e : f_Depths_greatestOf_L2 o1 x3 x2 x4 h = some b) (k : (Sum.elim (fun s : (Int32 × Int32 × pH) => Go E M_Depths_greatestOf 23 [some (.ref 17), some (.ref o1), some (.int s.1), some (.int x3), some (.int s.2.1)] [] s.2.2 r hr) (Sum.elim (fun s : (Int32 × Int32 × pH) => Go E M_Depths_greatestOf 8 [some (.ref 17), some (.ref o1), some (.int s.1), some (.int s.2.1), none] [] s.2.2 r hr) (fun v : (Int32 × pH) => r = some (.int v.1) ∧ hr = v.2))) b) : Go E M_Depths_greatestOf 23 [some (.ref 17), some (.ref o1), some (.int x2), some (.int x3), some (.int x4)] [] h r hr := by
  unfold f_Depths_greatestOf_L2 at e
  refine sl_ok ok_Depths_greatestOf [.iload 4, .aload_n 1, .getfield 53] (pc1 := 29) (ls1 := [some (.ref 17), some (.ref o1), some (.int x2), some (.int x3), some (.int x4)]) (st1 := [.int (hI h o1 3), .int x4]) (h1 := h) (P := (ak o1 = 0 ∧ cx o1 = 0) ∧ True) (by decide +kernel) rfl ⟨ho1, trivial⟩ ?_
  refine q_icmp_gt (off := 23) (tgt := 52) (by decide +kernel) (by decide) (fun c_1 => ?_) (fun c_1 => ?_)
  · have e := it_t c_1 e
    refine sl_ok ok_Depths_greatestOf [.iinc 3 1] (pc1 := 55) (ls1 := [some (.ref 17), some (.ref o1), some (.int x2), some (.int (x3 + 1)), some (.int x4)]) (st1 := []) (h1 := h) (P := True) (by decide +kernel) rfl trivial ?_
    refine q_goto (off := -47) (tgt := 8) (by decide) (by decide +kernel) ?_
    cases e
    refine Go.sb [some (.ref 17), some (.ref o1), some (.int x2), some (.int (x3 + 1)), none] (And.intro rfl (And.intro rfl (And.intro rfl (And.intro rfl trivial)))) ?_
    exact k
  · have e := it_f c_1 e
    refine sl_ok ok_Depths_greatestOf [.iload_n 2, .aload_n 0, .aload_n 1, .iload 4, .iload_n 3, .iload_n 2] (pc1 := 39) (ls1 := [some (.ref 17), some (.ref o1), some (.int x2), some (.int x3), some (.int x4)]) (st1 := [.int x2, .int x3, .int x4, .ref o1, .ref 17, .int x2]) (h1 := h) (P := True) (by decide +kernel) rfl trivial ?_
    obtain ⟨v_2, e_3, e⟩ := bi_s e
    refine q_callV ok_Depths_depthOver (as := [.ref o1, .int x4, .int x3, .int x2]) (st := [.int x2]) ⟨wd_218, wd_219, wd_220, wd_217, ds_Depths_depthOver, Nat.le_of_ble_eq_true rfl, Nat.le_of_ble_eq_true rfl⟩ (s_Depths_depthOver ho1 e_3) rfl ⟨rfl, rfl⟩ (ci := 2) rfl (fun v hv => by cases hv; rfl) (Nat.le_of_ble_eq_true rfl) (by decide +kernel) rfl ?_
    refine q_mmax wd_394 (Nat.le_of_ble_eq_true rfl) (Nat.le_of_ble_eq_true rfl) (by decide +kernel) ?_
    refine sl_ok ok_Depths_greatestOf [.istore_n 2, .iinc 4 1] (pc1 := 49) (ls1 := [some (.ref 17), some (.ref o1), some (.int (jmax x2 v_2.1)), some (.int x3), some (.int (x4 + 1))]) (st1 := []) (h1 := v_2.2) (P := True) (by decide +kernel) rfl trivial ?_
    refine q_goto (off := -26) (tgt := 23) (by decide) (by decide +kernel) ?_
    cases e
    exact k
def f_Depths_greatestOf_L1 (o1 : Nat) (x2 : Int32) (x3 : Int32) (h : pH) : Option ((Int32 × Int32 × pH) ⊕ (Int32 × pH)) :=
  if (hI h o1 3) < x3 then
    some (.inr (x2, h))
  else
    lp (fun s => f_Depths_greatestOf_L2 o1 x3 s.1 s.2.1 s.2.2) lpN (x2, (-(hI h o1 3)), h)
set_option maxHeartbeats 4000000 in
theorem b_Depths_greatestOf_L1 {E : pE} {r : Option Value} {hr : pH} {o1 : Nat} {x2 : Int32} {x3 : Int32} {h : pH} (ho1 : ak o1 = 0 ∧ cx o1 = 0) {b : ((Int32 × Int32 × pH) ⊕ (Int32 × pH))} (e : f_Depths_greatestOf_L1 o1 x2 x3 h = some b) (k : (Sum.elim (fun s : (Int32 × Int32 × pH) => Go E M_Depths_greatestOf 8 [some (.ref 17), some (.ref o1), some (.int s.1), some (.int s.2.1), none] [] s.2.2 r hr) (fun v : (Int32 × pH) => r = some (.int v.1) ∧ hr = v.2)) b) : Go E M_Depths_greatestOf 8 [some (.ref 17), some (.ref o1), some (.int x2), some (.int x3), none] [] h r hr := by
  unfold f_Depths_greatestOf_L1 at e
  refine sl_ok ok_Depths_greatestOf [.iload_n 3, .aload_n 1, .getfield 53] (pc1 := 13) (ls1 := [some (.ref 17), some (.ref o1), some (.int x2), some (.int x3), none]) (st1 := [.int (hI h o1 3), .int x3]) (h1 := h) (P := (ak o1 = 0 ∧ cx o1 = 0) ∧ True) (by decide +kernel) rfl ⟨ho1, trivial⟩ ?_
  refine q_icmp_gt (off := 45) (tgt := 58) (by decide +kernel) (by decide) (fun c_1 => ?_) (fun c_1 => ?_)
  · have e := it_t c_1 e
    refine sl_ok ok_Depths_greatestOf [.iload_n 2] (pc1 := 59) (ls1 := [some (.ref 17), some (.ref o1), some (.int x2), some (.int x3), none]) (st1 := [.int x2]) (h1 := h) (P := True) (by decide +kernel) rfl trivial ?_
    cases e
    exact q_iret rfl k.1 k.2 (by decide +kernel)
  · have e := it_f c_1 e
    refine sl_ok ok_Depths_greatestOf [.aload_n 1, .getfield 53, .ineg, .istore 4] (pc1 := 23) (ls1 := [some (.ref 17), some (.ref o1), some (.int x2), some (.int x3), some (.int (-(hI h o1 3)))]) (st1 := []) (h1 := h) (P := (ak o1 = 0 ∧ cx o1 = 0) ∧ True) (by decide +kernel) rfl ⟨ho1, trivial⟩ ?_
    exact lp_in e (fun s => Go E M_Depths_greatestOf 23 [some (.ref 17), some (.ref o1), some (.int s.1), some (.int x3), some (.int s.2.1)] [] s.2.2 r hr) (Sum.elim (fun s : (Int32 × Int32 × pH) => Go E M_Depths_greatestOf 8 [some (.ref 17), some (.ref o1), some (.int s.1), some (.int s.2.1), none] [] s.2.2 r hr) (fun v : (Int32 × pH) => r = some (.int v.1) ∧ hr = v.2)) (fun _ _ e k => b_Depths_greatestOf_L2 ho1 e k) k
def f_Depths_greatestOf (o1 : Nat) (h : pH) : Option (Int32 × pH) :=
  lp (fun s => f_Depths_greatestOf_L1 o1 s.1 s.2.1 s.2.2) lpN (0, (-(hI h o1 3)), h)
set_option maxHeartbeats 4000000 in
theorem b_Depths_greatestOf {E : pE} {r : Option Value} {hr : pH} {o1 : Nat} {h : pH} (ho1 : ak o1 = 0 ∧ cx o1 = 0) {b : (Int32 × pH)} (e : f_Depths_greatestOf o1 h = some b) (k : (fun v : (Int32 × pH) => r = some (.int v.1) ∧ hr = v.2) b) : Go E M_Depths_greatestOf 0 [some (.ref 17), some (.ref o1), none, none, none] [] h r hr := by
  unfold f_Depths_greatestOf at e
  refine sl_ok ok_Depths_greatestOf [.iconst 0, .istore_n 2, .aload_n 1, .getfield 53, .ineg, .istore_n 3] (pc1 := 8) (ls1 := [some (.ref 17), some (.ref o1), some (.int 0), some (.int (-(hI h o1 3))), none]) (st1 := []) (h1 := h) (P := (ak o1 = 0 ∧ cx o1 = 0) ∧ True) (by decide +kernel) rfl ⟨ho1, trivial⟩ ?_
  exact lp_in e (fun s => Go E M_Depths_greatestOf 8 [some (.ref 17), some (.ref o1), some (.int s.1), some (.int s.2.1), none] [] s.2.2 r hr) (fun v : (Int32 × pH) => r = some (.int v.1) ∧ hr = v.2) (fun _ _ e k => b_Depths_greatestOf_L1 ho1 e k) k
theorem s_Depths_greatestOf {E : pE} {o1 : Nat} {h : pH} (ho1 : ak o1 = 0 ∧ cx o1 = 0) {v : (Int32 × pH)} (e : f_Depths_greatestOf o1 h = some v) : Ct E M_Depths_greatestOf [.ref 17, .ref o1] h (some (.int v.1)) v.2 :=
  Ct_of ok_Depths_greatestOf [some (.ref 17), some (.ref o1), none, none, none] (Nat.le_of_ble_eq_true rfl) rfl (b_Depths_greatestOf ho1 e ⟨rfl, rfl⟩)
