def f_C_point (x1 : Int32) (x2 : Int32) (h : pH) : Option (Int32 × pH) :=
  if (f_Cloud_has 8 x1 h) = 0 then
    some ((-100000), h)
  else
    if x2 = 0 then
      if x1 < 0 ∨ 12 ≤ x1.toNatClampNeg then none else
      some ((hI h 9 x1.toNatClampNeg), h)
    else
      if x2 = 1 then
        if x1 < 0 ∨ 12 ≤ x1.toNatClampNeg then none else
        some ((hI h 10 x1.toNatClampNeg), h)
      else
        if x2 = 2 then
          (f_Hulls_peel 8 h).bind fun v_21 =>
          (f_Hulls_layerWith x1 v_21).bind fun v_23 =>
          some (v_23, v_21)
        else
          if x2 = 3 then
            if x1 < 0 ∨ 12 ≤ x1.toNatClampNeg then none else
            (f_Depths_depthAt 8 (hI h 9 x1.toNatClampNeg) (hI h 10 x1.toNatClampNeg) h).bind fun v_19 =>
            some (v_19.1, v_19.2)
          else
            if x2 = 4 then
              (f_Hulls_peel 8 h).bind fun v_10 =>
              (f_Hulls_layerWith x1 v_10).bind fun v_12 =>
              (f_Hulls_layerBits v_12 v_10).bind fun v_14 =>
              (f_Hulls_cornersOf 8 v_14 v_10).bind fun v_16 =>
              some ((f_C_bit v_16 x1), v_10)
            else
              if x2 = 5 then
                (f_Shapes_shareOf 8 x1 h).bind fun v_8 =>
                some (v_8, h)
              else
                some ((-100000), h)
set_option maxHeartbeats 4000000 in
theorem b_C_point {E : pE} {r : Option Value} {hr : pH} {x1 : Int32} {x2 : Int32} {h : pH}  {b : (Int32 × pH)} (e : f_C_point x1 x2 h = some b) (k : (fun v : (Int32 × pH) => r = some (.int v.1) ∧ hr = v.2) b) : Go E M_C_point 0 [some (.ref 0), some (.int x1), some (.int x2)] [] h r hr := by
  unfold f_C_point at e
  refine sl_ok ok_C_point [.aload_n 0, .getfield 28, .iload_n 1] (pc1 := 5) (ls1 := [some (.ref 0), some (.int x1), some (.int x2)]) (st1 := [.int x1, .ref 8]) (h1 := h) (P := (ak 0 = 0 ∧ cx 0 = 11) ∧ True) (by decide +kernel) rfl ⟨⟨rfl, rfl⟩, trivial⟩ ?_
  refine q_callV ok_Cloud_has (as := [.int x1]) (st := []) ⟨wd_175, wd_173, wd_174, wd_14, ds_Cloud_has, Nat.le_of_ble_eq_true rfl, Nat.le_of_ble_eq_true rfl⟩ (s_Cloud_has ⟨rfl, rfl⟩) rfl ⟨rfl, rfl⟩ (ci := 0) rfl (fun v hv => by cases hv; rfl) (Nat.le_of_ble_eq_true rfl) (by decide +kernel) rfl ?_
  refine q_if_ne (off := 6) (tgt := 14) (by decide +kernel) (by decide) (fun c_1 => ?_) (fun c_1 => ?_)
  · have e := it_f c_1 e
    refine sl_ok ok_C_point [.iload_n 2] (pc1 := 15) (ls1 := [some (.ref 0), some (.int x1), some (.int x2)]) (st1 := [.int x2]) (h1 := h) (P := True) (by decide +kernel) rfl trivial ?_
    by_cases c_2 : x2 = 0
    · have e := it_t c_2 e
      refine q_tableIn (off := 37) (tgt := 52) (by decide +kernel : decode (mB M_C_point) 15 = .ok (.tableswitch 158 0 5 #[37, 47, 57, 77, 107, 145], 37)) (by rw [c_2]; decide) (by rw [c_2]; decide) (by rw [c_2]; decide) (by decide) ?_
      obtain ⟨g_26, e⟩ := it_g e
      refine sl_ok ok_C_point [.aload_n 0, .getfield 28, .getfield 171, .iload_n 1, .iaload] (pc1 := 61) (ls1 := [some (.ref 0), some (.int x1), some (.int x2)]) (st1 := [.int (hI h 9 x1.toNatClampNeg)]) (h1 := h) (P := (ak 0 = 0 ∧ cx 0 = 11) ∧ (ak 8 = 0 ∧ cx 8 = 0) ∧ (ak 9 = 1 ∧ ¬ (x1 < 0 ∨ cx 9 ≤ x1.toNatClampNeg)) ∧ True) (by decide +kernel) rfl ⟨⟨rfl, rfl⟩, ⟨rfl, rfl⟩, ⟨rfl, g_26⟩, trivial⟩ ?_
      cases e
      exact q_iret rfl k.1 k.2 (by decide +kernel)
    · have e := it_f c_2 e
      by_cases c_3 : x2 = 1
      · have e := it_t c_3 e
        refine q_tableIn (off := 47) (tgt := 62) (by decide +kernel : decode (mB M_C_point) 15 = .ok (.tableswitch 158 0 5 #[37, 47, 57, 77, 107, 145], 37)) (by rw [c_3]; decide) (by rw [c_3]; decide) (by rw [c_3]; decide) (by decide) ?_
        obtain ⟨g_25, e⟩ := it_g e
        refine sl_ok ok_C_point [.aload_n 0, .getfield 28, .getfield 175, .iload_n 1, .iaload] (pc1 := 71) (ls1 := [some (.ref 0), some (.int x1), some (.int x2)]) (st1 := [.int (hI h 10 x1.toNatClampNeg)]) (h1 := h) (P := (ak 0 = 0 ∧ cx 0 = 11) ∧ (ak 8 = 0 ∧ cx 8 = 0) ∧ (ak 10 = 1 ∧ ¬ (x1 < 0 ∨ cx 10 ≤ x1.toNatClampNeg)) ∧ True) (by decide +kernel) rfl ⟨⟨rfl, rfl⟩, ⟨rfl, rfl⟩, ⟨rfl, g_25⟩, trivial⟩ ?_
        cases e
        exact q_iret rfl k.1 k.2 (by decide +kernel)
      · have e := it_f c_3 e
        by_cases c_4 : x2 = 2
        · have e := it_t c_4 e
          refine q_tableIn (off := 57) (tgt := 72) (by decide +kernel : decode (mB M_C_point) 15 = .ok (.tableswitch 158 0 5 #[37, 47, 57, 77, 107, 145], 37)) (by rw [c_4]; decide) (by rw [c_4]; decide) (by rw [c_4]; decide) (by decide) ?_
          refine sl_ok ok_C_point [.aload_n 0, .getfield 38, .aload_n 0, .getfield 28] (pc1 := 80) (ls1 := [some (.ref 0), some (.int x1), some (.int x2)]) (st1 := [.ref 8, .ref 14]) (h1 := h) (P := (ak 0 = 0 ∧ cx 0 = 11) ∧ (ak 0 = 0 ∧ cx 0 = 11) ∧ True) (by decide +kernel) rfl ⟨⟨rfl, rfl⟩, ⟨rfl, rfl⟩, trivial⟩ ?_
          obtain ⟨v_21, e_22, e⟩ := bi_s e
          refine q_callV ok_Hulls_peel (as := [.ref 8]) (st := []) ⟨wd_237, wd_238, wd_239, wd_207, ds_Hulls_peel, Nat.le_of_ble_eq_true rfl, Nat.le_of_ble_eq_true rfl⟩ (s_Hulls_peel ⟨rfl, rfl⟩ e_22) rfl ⟨rfl, rfl⟩ (ci := 4) rfl (fun v hv => by cases hv) (Nat.le_of_ble_eq_true rfl) (by decide +kernel) rfl ?_
          refine sl_ok ok_C_point [.aload_n 0, .getfield 38, .iload_n 1] (pc1 := 88) (ls1 := [some (.ref 0), some (.int x1), some (.int x2)]) (st1 := [.int x1, .ref 14]) (h1 := v_21) (P := (ak 0 = 0 ∧ cx 0 = 11) ∧ True) (by decide +kernel) rfl ⟨⟨rfl, rfl⟩, trivial⟩ ?_
          obtain ⟨v_23, e_24, e⟩ := bi_s e
          refine q_callV ok_Hulls_layerWith (as := [.int x1]) (st := []) ⟨wd_240, wd_241, wd_242, wd_207, ds_Hulls_layerWith, Nat.le_of_ble_eq_true rfl, Nat.le_of_ble_eq_true rfl⟩ (s_Hulls_layerWith  e_24) rfl ⟨rfl, rfl⟩ (ci := 4) rfl (fun v hv => by cases hv; rfl) (Nat.le_of_ble_eq_true rfl) (by decide +kernel) rfl ?_
          cases e
          exact q_iret rfl k.1 k.2 (by decide +kernel)
        · have e := it_f c_4 e
          by_cases c_5 : x2 = 3
          · have e := it_t c_5 e
            refine q_tableIn (off := 77) (tgt := 92) (by decide +kernel : decode (mB M_C_point) 15 = .ok (.tableswitch 158 0 5 #[37, 47, 57, 77, 107, 145], 37)) (by rw [c_5]; decide) (by rw [c_5]; decide) (by rw [c_5]; decide) (by decide) ?_
            obtain ⟨g_18, e⟩ := it_g e
            refine sl_ok ok_C_point [.aload_n 0, .getfield 45, .aload_n 0, .getfield 28, .aload_n 0, .getfield 28, .getfield 171, .iload_n 1, .iaload, .aload_n 0, .getfield 28, .getfield 175, .iload_n 1, .iaload] (pc1 := 118) (ls1 := [some (.ref 0), some (.int x1), some (.int x2)]) (st1 := [.int (hI h 10 x1.toNatClampNeg), .int (hI h 9 x1.toNatClampNeg), .ref 8, .ref 17]) (h1 := h) (P := (ak 0 = 0 ∧ cx 0 = 11) ∧ (ak 0 = 0 ∧ cx 0 = 11) ∧ (ak 0 = 0 ∧ cx 0 = 11) ∧ (ak 8 = 0 ∧ cx 8 = 0) ∧ (ak 9 = 1 ∧ ¬ (x1 < 0 ∨ cx 9 ≤ x1.toNatClampNeg)) ∧ (ak 0 = 0 ∧ cx 0 = 11) ∧ (ak 8 = 0 ∧ cx 8 = 0) ∧ (ak 10 = 1 ∧ ¬ (x1 < 0 ∨ cx 10 ≤ x1.toNatClampNeg)) ∧ True) (by decide +kernel) rfl ⟨⟨rfl, rfl⟩, ⟨rfl, rfl⟩, ⟨rfl, rfl⟩, ⟨rfl, rfl⟩, ⟨rfl, g_18⟩, ⟨rfl, rfl⟩, ⟨rfl, rfl⟩, ⟨rfl, g_18⟩, trivial⟩ ?_
            obtain ⟨v_19, e_20, e⟩ := bi_s e
            refine q_callV ok_Depths_depthAt (as := [.ref 8, .int (hI h 9 x1.toNatClampNeg), .int (hI h 10 x1.toNatClampNeg)]) (st := []) ⟨wd_249, wd_250, wd_251, wd_217, ds_Depths_depthAt, Nat.le_of_ble_eq_true rfl, Nat.le_of_ble_eq_true rfl⟩ (s_Depths_depthAt ⟨rfl, rfl⟩ e_20) rfl ⟨rfl, rfl⟩ (ci := 2) rfl (fun v hv => by cases hv; rfl) (Nat.le_of_ble_eq_true rfl) (by decide +kernel) rfl ?_
            cases e
            exact q_iret rfl k.1 k.2 (by decide +kernel)
          · have e := it_f c_5 e
            by_cases c_6 : x2 = 4
            · have e := it_t c_6 e
              refine q_tableIn (off := 107) (tgt := 122) (by decide +kernel : decode (mB M_C_point) 15 = .ok (.tableswitch 158 0 5 #[37, 47, 57, 77, 107, 145], 37)) (by rw [c_6]; decide) (by rw [c_6]; decide) (by rw [c_6]; decide) (by decide) ?_
              refine sl_ok ok_C_point [.aload_n 0, .getfield 38, .aload_n 0, .getfield 28] (pc1 := 130) (ls1 := [some (.ref 0), some (.int x1), some (.int x2)]) (st1 := [.ref 8, .ref 14]) (h1 := h) (P := (ak 0 = 0 ∧ cx 0 = 11) ∧ (ak 0 = 0 ∧ cx 0 = 11) ∧ True) (by decide +kernel) rfl ⟨⟨rfl, rfl⟩, ⟨rfl, rfl⟩, trivial⟩ ?_
              obtain ⟨v_10, e_11, e⟩ := bi_s e
              refine q_callV ok_Hulls_peel (as := [.ref 8]) (st := []) ⟨wd_237, wd_238, wd_239, wd_207, ds_Hulls_peel, Nat.le_of_ble_eq_true rfl, Nat.le_of_ble_eq_true rfl⟩ (s_Hulls_peel ⟨rfl, rfl⟩ e_11) rfl ⟨rfl, rfl⟩ (ci := 4) rfl (fun v hv => by cases hv) (Nat.le_of_ble_eq_true rfl) (by decide +kernel) rfl ?_
              refine sl_ok ok_C_point [.aload_n 0, .getfield 28, .aload_n 0, .getfield 38, .aload_n 0, .getfield 38, .iload_n 1] (pc1 := 146) (ls1 := [some (.ref 0), some (.int x1), some (.int x2)]) (st1 := [.int x1, .ref 14, .ref 14, .ref 8]) (h1 := v_10) (P := (ak 0 = 0 ∧ cx 0 = 11) ∧ (ak 0 = 0 ∧ cx 0 = 11) ∧ (ak 0 = 0 ∧ cx 0 = 11) ∧ True) (by decide +kernel) rfl ⟨⟨rfl, rfl⟩, ⟨rfl, rfl⟩, ⟨rfl, rfl⟩, trivial⟩ ?_
              obtain ⟨v_12, e_13, e⟩ := bi_s e
              refine q_callV ok_Hulls_layerWith (as := [.int x1]) (st := [.ref 14, .ref 8]) ⟨wd_240, wd_241, wd_242, wd_207, ds_Hulls_layerWith, Nat.le_of_ble_eq_true rfl, Nat.le_of_ble_eq_true rfl⟩ (s_Hulls_layerWith  e_13) rfl ⟨rfl, rfl⟩ (ci := 4) rfl (fun v hv => by cases hv; rfl) (Nat.le_of_ble_eq_true rfl) (by decide +kernel) rfl ?_
              obtain ⟨v_14, e_15, e⟩ := bi_s e
              refine q_callV ok_Hulls_layerBits (as := [.int v_12]) (st := [.ref 8]) ⟨wd_243, wd_244, wd_245, wd_207, ds_Hulls_layerBits, Nat.le_of_ble_eq_true rfl, Nat.le_of_ble_eq_true rfl⟩ (s_Hulls_layerBits  e_15) rfl ⟨rfl, rfl⟩ (ci := 4) rfl (fun v hv => by cases hv; rfl) (Nat.le_of_ble_eq_true rfl) (by decide +kernel) rfl ?_
              obtain ⟨v_16, e_17, e⟩ := bi_s e
              refine q_callS ok_Hulls_cornersOf (as := [.ref 8, .int v_14]) (st := []) ⟨wd_246, wd_247, wd_207, ds_Hulls_cornersOf, Nat.le_of_ble_eq_true rfl, Nat.le_of_ble_eq_true rfl⟩ (s_Hulls_cornersOf ⟨rfl, rfl⟩ e_17) rfl (fun v hv => by cases hv; rfl) (Nat.le_of_ble_eq_true rfl) (by decide +kernel) rfl ?_
              refine sl_ok ok_C_point [.iload_n 1] (pc1 := 156) (ls1 := [some (.ref 0), some (.int x1), some (.int x2)]) (st1 := [.int x1, .int v_16]) (h1 := v_10) (P := True) (by decide +kernel) rfl trivial ?_
              refine q_callS ok_C_bit (as := [.int v_16, .int x1]) (st := []) ⟨wd_248, wd_201, wd_48, ds_C_bit, Nat.le_of_ble_eq_true rfl, Nat.le_of_ble_eq_true rfl⟩ (s_C_bit ) rfl (fun v hv => by cases hv; rfl) (Nat.le_of_ble_eq_true rfl) (by decide +kernel) rfl ?_
              cases e
              exact q_iret rfl k.1 k.2 (by decide +kernel)
            · have e := it_f c_6 e
              by_cases c_7 : x2 = 5
              · have e := it_t c_7 e
                refine q_tableIn (off := 145) (tgt := 160) (by decide +kernel : decode (mB M_C_point) 15 = .ok (.tableswitch 158 0 5 #[37, 47, 57, 77, 107, 145], 37)) (by rw [c_7]; decide) (by rw [c_7]; decide) (by rw [c_7]; decide) (by decide) ?_
                refine sl_ok ok_C_point [.aload_n 0, .getfield 73, .aload_n 0, .getfield 28, .iload_n 1] (pc1 := 169) (ls1 := [some (.ref 0), some (.int x1), some (.int x2)]) (st1 := [.int x1, .ref 8, .ref 28]) (h1 := h) (P := (ak 0 = 0 ∧ cx 0 = 11) ∧ (ak 0 = 0 ∧ cx 0 = 11) ∧ True) (by decide +kernel) rfl ⟨⟨rfl, rfl⟩, ⟨rfl, rfl⟩, trivial⟩ ?_
                obtain ⟨v_8, e_9, e⟩ := bi_s e
                refine q_callV ok_Shapes_shareOf (as := [.ref 8, .int x1]) (st := []) ⟨wd_234, wd_235, wd_236, wd_231, ds_Shapes_shareOf, Nat.le_of_ble_eq_true rfl, Nat.le_of_ble_eq_true rfl⟩ (s_Shapes_shareOf ⟨rfl, rfl⟩ e_9) rfl ⟨rfl, rfl⟩ (ci := 7) rfl (fun v hv => by cases hv; rfl) (Nat.le_of_ble_eq_true rfl) (by decide +kernel) rfl ?_
                cases e
                exact q_iret rfl k.1 k.2 (by decide +kernel)
              · have e := it_f c_7 e
                refine q_tableOut (tgt := 173) (by decide +kernel : decode (mB M_C_point) 15 = .ok (.tableswitch 158 0 5 #[37, 47, 57, 77, 107, 145], 37)) (sw_out [0, 1, 2, 3, 4, 5] (by decide) ⟨c_2, c_3, c_4, c_5, c_6, c_7, trivial⟩) (by decide) ?_
                refine sl_ok ok_C_point [.ldc 170] (pc1 := 175) (ls1 := [some (.ref 0), some (.int x1), some (.int x2)]) (st1 := [.int (-100000)]) (h1 := h) (P := True) (by decide +kernel) rfl trivial ?_
                cases e
                exact q_iret rfl k.1 k.2 (by decide +kernel)
  · have e := it_t c_1 e
    refine sl_ok ok_C_point [.ldc 170] (pc1 := 13) (ls1 := [some (.ref 0), some (.int x1), some (.int x2)]) (st1 := [.int (-100000)]) (h1 := h) (P := True) (by decide +kernel) rfl trivial ?_
    cases e
    exact q_iret rfl k.1 k.2 (by decide +kernel)
theorem s_C_point {E : pE} {x1 : Int32} {x2 : Int32} {h : pH}  {v : (Int32 × pH)} (e : f_C_point x1 x2 h = some v) : Ct E M_C_point [.ref 0, .int x1, .int x2] h (some (.int v.1)) v.2 :=
  Ct_of ok_C_point [some (.ref 0), some (.int x1), some (.int x2)] (Nat.le_of_ble_eq_true rfl) rfl (b_C_point  e ⟨rfl, rfl⟩)
def f_R_full (h : pH) : Int32 :=
  ((jshl 1 (f_R_all h)) - 1)
set_option maxHeartbeats 4000000 in
theorem b_R_full {E : pE} {r : Option Value} {hr : pH} {h : pH}  {b : Int32} (e : f_R_full h = b) (k : (fun v : Int32 => r = some (.int v) ∧ hr = h) b) : Go E M_R_full 0 [some (.ref 79)] [] h r hr := by
  unfold f_R_full at e
  refine sl_ok ok_R_full [.iconst 1, .aload_n 0] (pc1 := 2) (ls1 := [some (.ref 79)]) (st1 := [.ref 79, .int 1]) (h1 := h) (P := True) (by decide +kernel) rfl trivial ?_
  refine q_callV ok_R_all (as := []) (st := [.int 1]) ⟨wd_151, wd_152, wd_153, wd_7, ds_R_all, Nat.le_of_ble_eq_true rfl, Nat.le_of_ble_eq_true rfl⟩ (s_R_all ) rfl ⟨rfl, rfl⟩ (ci := 12) rfl (fun v hv => by cases hv; rfl) (Nat.le_of_ble_eq_true rfl) (by decide +kernel) rfl ?_
  refine sl_ok ok_R_full [.ishl, .iconst 1, .isub] (pc1 := 8) (ls1 := [some (.ref 79)]) (st1 := [.int ((jshl 1 (f_R_all h)) - 1)]) (h1 := h) (P := True) (by decide +kernel) rfl trivial ?_
  cases e
  exact q_iret rfl k.1 k.2 (by decide +kernel)
theorem s_R_full {E : pE} {h : pH}  : Ct E M_R_full [.ref 79] h (some (.int (f_R_full h))) h :=
  Ct_of ok_R_full [some (.ref 79)] (Nat.le_of_ble_eq_true rfl) rfl (b_R_full  rfl ⟨rfl, rfl⟩)
def f_R_has (x0 : Int32) (x1 : Int32) : Int32 :=
  if ((jshr x0 x1) &&& 1) = 1 then
    1
  else
    0
set_option maxHeartbeats 4000000 in
theorem b_R_has {E : pE} {r : Option Value} {hr : pH} {x0 : Int32} {x1 : Int32} {h : pH}  {b : Int32} (e : f_R_has x0 x1 = b) (k : (fun v : Int32 => r = some (.int v) ∧ hr = h) b) : Go E M_R_has 0 [some (.int x0), some (.int x1)] [] h r hr := by
  unfold f_R_has at e
  refine sl_ok ok_R_has [.iload_n 0, .iload_n 1, .ishr, .iconst 1, .iand, .iconst 1] (pc1 := 6) (ls1 := [some (.int x0), some (.int x1)]) (st1 := [.int 1, .int ((jshr x0 x1) &&& 1)]) (h1 := h) (P := True) (by decide +kernel) rfl trivial ?_
  refine q_icmp_ne (off := 7) (tgt := 13) (by decide +kernel) (by decide) (fun c_1 => ?_) (fun c_1 => ?_)
  · have e := it_f c_1 e
    refine sl_ok ok_R_has [.iconst 0] (pc1 := 14) (ls1 := [some (.int x0), some (.int x1)]) (st1 := [.int 0]) (h1 := h) (P := True) (by decide +kernel) rfl trivial ?_
    cases e
    exact q_zret rfl (Or.inl rfl) k.1 k.2 (by decide +kernel)
  · have e := it_t c_1 e
    refine sl_ok ok_R_has [.iconst 1] (pc1 := 10) (ls1 := [some (.int x0), some (.int x1)]) (st1 := [.int 1]) (h1 := h) (P := True) (by decide +kernel) rfl trivial ?_
    refine q_goto (off := 4) (tgt := 14) (by decide) (by decide +kernel) ?_
    cases e
    exact q_zret rfl (Or.inr rfl) k.1 k.2 (by decide +kernel)
theorem s_R_has {E : pE} {x0 : Int32} {x1 : Int32} {h : pH}  : Ct E M_R_has [.int x0, .int x1] h (some (.int (f_R_has x0 x1))) h :=
  Ct_of ok_R_has [some (.int x0), some (.int x1)] (Nat.le_of_ble_eq_true rfl) rfl (b_R_has  rfl ⟨rfl, rfl⟩)
theorem z_R_has {x0 x1 : Int32} : f_R_has x0 x1 = 0 ∨ f_R_has x0 x1 = 1 := by
  unfold f_R_has
  repeat' split
  all_goals simp
def f_R_turnOf (x1 : Int32) (x2 : Int32) (x3 : Int32) (x4 : Int32) (h : pH) : Option Int32 :=
  (f_R_x x2 h).bind fun v_1 =>
  (f_R_x x1 h).bind fun v_3 =>
  (f_R_y x1 h).bind fun v_5 =>
  (f_R_y x2 h).bind fun v_7 =>
  (f_R_y x1 h).bind fun v_9 =>
  (f_R_x x1 h).bind fun v_11 =>
  some (((v_1 - v_3) * (x4 - v_5)) - ((v_7 - v_9) * (x3 - v_11)))
set_option maxHeartbeats 4000000 in
theorem b_R_turnOf {E : pE} {r : Option Value} {hr : pH} {x1 : Int32} {x2 : Int32} {x3 : Int32} {x4 : Int32} {h : pH}  {b : Int32} (e : f_R_turnOf x1 x2 x3 x4 h = some b) (k : (fun v : Int32 => r = some (.int v) ∧ hr = h) b) : Go E M_R_turnOf 0 [some (.ref 79), some (.int x1), some (.int x2), some (.int x3), some (.int x4)] [] h r hr := by
  unfold f_R_turnOf at e
  refine sl_ok ok_R_turnOf [.aload_n 0, .iload_n 2] (pc1 := 2) (ls1 := [some (.ref 79), some (.int x1), some (.int x2), some (.int x3), some (.int x4)]) (st1 := [.int x2, .ref 79]) (h1 := h) (P := True) (by decide +kernel) rfl trivial ?_
  obtain ⟨v_1, e_2, e⟩ := bi_s e
  refine q_callV ok_R_x (as := [.int x2]) (st := []) ⟨wd_154, wd_155, wd_156, wd_7, ds_R_x, Nat.le_of_ble_eq_true rfl, Nat.le_of_ble_eq_true rfl⟩ (s_R_x  e_2) rfl ⟨rfl, rfl⟩ (ci := 12) rfl (fun v hv => by cases hv; rfl) (Nat.le_of_ble_eq_true rfl) (by decide +kernel) rfl ?_
  refine sl_ok ok_R_turnOf [.aload_n 0, .iload_n 1] (pc1 := 7) (ls1 := [some (.ref 79), some (.int x1), some (.int x2), some (.int x3), some (.int x4)]) (st1 := [.int x1, .ref 79, .int v_1]) (h1 := h) (P := True) (by decide +kernel) rfl trivial ?_
  obtain ⟨v_3, e_4, e⟩ := bi_s e
  refine q_callV ok_R_x (as := [.int x1]) (st := [.int v_1]) ⟨wd_154, wd_155, wd_156, wd_7, ds_R_x, Nat.le_of_ble_eq_true rfl, Nat.le_of_ble_eq_true rfl⟩ (s_R_x  e_4) rfl ⟨rfl, rfl⟩ (ci := 12) rfl (fun v hv => by cases hv; rfl) (Nat.le_of_ble_eq_true rfl) (by decide +kernel) rfl ?_
  refine sl_ok ok_R_turnOf [.isub, .iload 4, .aload_n 0, .iload_n 1] (pc1 := 15) (ls1 := [some (.ref 79), some (.int x1), some (.int x2), some (.int x3), some (.int x4)]) (st1 := [.int x1, .ref 79, .int x4, .int (v_1 - v_3)]) (h1 := h) (P := True) (by decide +kernel) rfl trivial ?_
  obtain ⟨v_5, e_6, e⟩ := bi_s e
  refine q_callV ok_R_y (as := [.int x1]) (st := [.int x4, .int (v_1 - v_3)]) ⟨wd_157, wd_158, wd_159, wd_7, ds_R_y, Nat.le_of_ble_eq_true rfl, Nat.le_of_ble_eq_true rfl⟩ (s_R_y  e_6) rfl ⟨rfl, rfl⟩ (ci := 12) rfl (fun v hv => by cases hv; rfl) (Nat.le_of_ble_eq_true rfl) (by decide +kernel) rfl ?_
  refine sl_ok ok_R_turnOf [.isub, .imul, .aload_n 0, .iload_n 2] (pc1 := 22) (ls1 := [some (.ref 79), some (.int x1), some (.int x2), some (.int x3), some (.int x4)]) (st1 := [.int x2, .ref 79, .int ((v_1 - v_3) * (x4 - v_5))]) (h1 := h) (P := True) (by decide +kernel) rfl trivial ?_
  obtain ⟨v_7, e_8, e⟩ := bi_s e
  refine q_callV ok_R_y (as := [.int x2]) (st := [.int ((v_1 - v_3) * (x4 - v_5))]) ⟨wd_157, wd_158, wd_159, wd_7, ds_R_y, Nat.le_of_ble_eq_true rfl, Nat.le_of_ble_eq_true rfl⟩ (s_R_y  e_8) rfl ⟨rfl, rfl⟩ (ci := 12) rfl (fun v hv => by cases hv; rfl) (Nat.le_of_ble_eq_true rfl) (by decide +kernel) rfl ?_
  refine sl_ok ok_R_turnOf [.aload_n 0, .iload_n 1] (pc1 := 27) (ls1 := [some (.ref 79), some (.int x1), some (.int x2), some (.int x3), some (.int x4)]) (st1 := [.int x1, .ref 79, .int v_7, .int ((v_1 - v_3) * (x4 - v_5))]) (h1 := h) (P := True) (by decide +kernel) rfl trivial ?_
  obtain ⟨v_9, e_10, e⟩ := bi_s e
  refine q_callV ok_R_y (as := [.int x1]) (st := [.int v_7, .int ((v_1 - v_3) * (x4 - v_5))]) ⟨wd_157, wd_158, wd_159, wd_7, ds_R_y, Nat.le_of_ble_eq_true rfl, Nat.le_of_ble_eq_true rfl⟩ (s_R_y  e_10) rfl ⟨rfl, rfl⟩ (ci := 12) rfl (fun v hv => by cases hv; rfl) (Nat.le_of_ble_eq_true rfl) (by decide +kernel) rfl ?_
  refine sl_ok ok_R_turnOf [.isub, .iload_n 3, .aload_n 0, .iload_n 1] (pc1 := 34) (ls1 := [some (.ref 79), some (.int x1), some (.int x2), some (.int x3), some (.int x4)]) (st1 := [.int x1, .ref 79, .int x3, .int (v_7 - v_9), .int ((v_1 - v_3) * (x4 - v_5))]) (h1 := h) (P := True) (by decide +kernel) rfl trivial ?_
  obtain ⟨v_11, e_12, e⟩ := bi_s e
  refine q_callV ok_R_x (as := [.int x1]) (st := [.int x3, .int (v_7 - v_9), .int ((v_1 - v_3) * (x4 - v_5))]) ⟨wd_154, wd_155, wd_156, wd_7, ds_R_x, Nat.le_of_ble_eq_true rfl, Nat.le_of_ble_eq_true rfl⟩ (s_R_x  e_12) rfl ⟨rfl, rfl⟩ (ci := 12) rfl (fun v hv => by cases hv; rfl) (Nat.le_of_ble_eq_true rfl) (by decide +kernel) rfl ?_
  refine sl_ok ok_R_turnOf [.isub, .imul, .isub] (pc1 := 40) (ls1 := [some (.ref 79), some (.int x1), some (.int x2), some (.int x3), some (.int x4)]) (st1 := [.int (((v_1 - v_3) * (x4 - v_5)) - ((v_7 - v_9) * (x3 - v_11)))]) (h1 := h) (P := True) (by decide +kernel) rfl trivial ?_
  cases e
  exact q_iret rfl k.1 k.2 (by decide +kernel)
theorem s_R_turnOf {E : pE} {x1 : Int32} {x2 : Int32} {x3 : Int32} {x4 : Int32} {h : pH}  {v : Int32} (e : f_R_turnOf x1 x2 x3 x4 h = some v) : Ct E M_R_turnOf [.ref 79, .int x1, .int x2, .int x3, .int x4] h (some (.int v)) h :=
  Ct_of ok_R_turnOf [some (.ref 79), some (.int x1), some (.int x2), some (.int x3), some (.int x4)] (Nat.le_of_ble_eq_true rfl) rfl (b_R_turnOf  e ⟨rfl, rfl⟩)
def f_R_sideOf (x1 : Int32) (x2 : Int32) (x3 : Int32) (h : pH) : Option Int32 :=
  (f_R_x x3 h).bind fun v_1 =>
  (f_R_y x3 h).bind fun v_3 =>
  (f_R_turnOf x1 x2 v_1 v_3 h).bind fun v_5 =>
  if v_5 ≤ 0 then
    if 0 ≤ v_5 then
      some 0
    else
      some (-1)
  else
    some 1
set_option maxHeartbeats 4000000 in
theorem b_R_sideOf {E : pE} {r : Option Value} {hr : pH} {x1 : Int32} {x2 : Int32} {x3 : Int32} {h : pH}  {b : Int32} (e : f_R_sideOf x1 x2 x3 h = some b) (k : (fun v : Int32 => r = some (.int v) ∧ hr = h) b) : Go E M_R_sideOf 0 [some (.ref 79), some (.int x1), some (.int x2), some (.int x3), none] [] h r hr := by
  unfold f_R_sideOf at e
  refine sl_ok ok_R_sideOf [.aload_n 0, .iload_n 1, .iload_n 2, .aload_n 0, .iload_n 3] (pc1 := 5) (ls1 := [some (.ref 79), some (.int x1), some (.int x2), some (.int x3), none]) (st1 := [.int x3, .ref 79, .int x2, .int x1, .ref 79]) (h1 := h) (P := True) (by decide +kernel) rfl trivial ?_
  obtain ⟨v_1, e_2, e⟩ := bi_s e
  refine q_callV ok_R_x (as := [.int x3]) (st := [.int x2, .int x1, .ref 79]) ⟨wd_154, wd_155, wd_156, wd_7, ds_R_x, Nat.le_of_ble_eq_true rfl, Nat.le_of_ble_eq_true rfl⟩ (s_R_x  e_2) rfl ⟨rfl, rfl⟩ (ci := 12) rfl (fun v hv => by cases hv; rfl) (Nat.le_of_ble_eq_true rfl) (by decide +kernel) rfl ?_
  refine sl_ok ok_R_sideOf [.aload_n 0, .iload_n 3] (pc1 := 10) (ls1 := [some (.ref 79), some (.int x1), some (.int x2), some (.int x3), none]) (st1 := [.int x3, .ref 79, .int v_1, .int x2, .int x1, .ref 79]) (h1 := h) (P := True) (by decide +kernel) rfl trivial ?_
  obtain ⟨v_3, e_4, e⟩ := bi_s e
  refine q_callV ok_R_y (as := [.int x3]) (st := [.int v_1, .int x2, .int x1, .ref 79]) ⟨wd_157, wd_158, wd_159, wd_7, ds_R_y, Nat.le_of_ble_eq_true rfl, Nat.le_of_ble_eq_true rfl⟩ (s_R_y  e_4) rfl ⟨rfl, rfl⟩ (ci := 12) rfl (fun v hv => by cases hv; rfl) (Nat.le_of_ble_eq_true rfl) (by decide +kernel) rfl ?_
  obtain ⟨v_5, e_6, e⟩ := bi_s e
  refine q_callV ok_R_turnOf (as := [.int x1, .int x2, .int v_1, .int v_3]) (st := []) ⟨wd_252, wd_253, wd_254, wd_7, ds_R_turnOf, Nat.le_of_ble_eq_true rfl, Nat.le_of_ble_eq_true rfl⟩ (s_R_turnOf  e_6) rfl ⟨rfl, rfl⟩ (ci := 12) rfl (fun v hv => by cases hv; rfl) (Nat.le_of_ble_eq_true rfl) (by decide +kernel) rfl ?_
  refine sl_ok ok_R_sideOf [.istore 4, .iload 4] (pc1 := 20) (ls1 := [some (.ref 79), some (.int x1), some (.int x2), some (.int x3), some (.int v_5)]) (st1 := [.int v_5]) (h1 := h) (P := True) (by decide +kernel) rfl trivial ?_
  refine q_if_le (off := 7) (tgt := 27) (by decide +kernel) (by decide) (fun c_7 => ?_) (fun c_7 => ?_)
  · have e := it_t c_7 e
    refine sl_ok ok_R_sideOf [.iload 4] (pc1 := 29) (ls1 := [some (.ref 79), some (.int x1), some (.int x2), some (.int x3), some (.int v_5)]) (st1 := [.int v_5]) (h1 := h) (P := True) (by decide +kernel) rfl trivial ?_
    refine q_if_ge (off := 7) (tgt := 36) (by decide +kernel) (by decide) (fun c_8 => ?_) (fun c_8 => ?_)
    · have e := it_t c_8 e
      refine sl_ok ok_R_sideOf [.iconst 0] (pc1 := 37) (ls1 := [some (.ref 79), some (.int x1), some (.int x2), some (.int x3), some (.int v_5)]) (st1 := [.int 0]) (h1 := h) (P := True) (by decide +kernel) rfl trivial ?_
      cases e
      exact q_iret rfl k.1 k.2 (by decide +kernel)
    · have e := it_f c_8 e
      refine sl_ok ok_R_sideOf [.iconst (-1)] (pc1 := 33) (ls1 := [some (.ref 79), some (.int x1), some (.int x2), some (.int x3), some (.int v_5)]) (st1 := [.int (-1)]) (h1 := h) (P := True) (by decide +kernel) rfl trivial ?_
      refine q_goto (off := 4) (tgt := 37) (by decide) (by decide +kernel) ?_
      cases e
      exact q_iret rfl k.1 k.2 (by decide +kernel)
  · have e := it_f c_7 e
    refine sl_ok ok_R_sideOf [.iconst 1] (pc1 := 24) (ls1 := [some (.ref 79), some (.int x1), some (.int x2), some (.int x3), some (.int v_5)]) (st1 := [.int 1]) (h1 := h) (P := True) (by decide +kernel) rfl trivial ?_
    refine q_goto (off := 13) (tgt := 37) (by decide) (by decide +kernel) ?_
    cases e
    exact q_iret rfl k.1 k.2 (by decide +kernel)
theorem s_R_sideOf {E : pE} {x1 : Int32} {x2 : Int32} {x3 : Int32} {h : pH}  {v : Int32} (e : f_R_sideOf x1 x2 x3 h = some v) : Ct E M_R_sideOf [.ref 79, .int x1, .int x2, .int x3] h (some (.int v)) h :=
  Ct_of ok_R_sideOf [some (.ref 79), some (.int x1), some (.int x2), some (.int x3), none] (Nat.le_of_ble_eq_true rfl) rfl (b_R_sideOf  e ⟨rfl, rfl⟩)
def f_R_onSide_L1 (x1 : Int32) (x2 : Int32) (x3 : Int32) (x4 : Int32) (h : pH) (x5 : Int32) (x6 : Int32) : Option ((Int32 × Int32) ⊕ Int32) :=
  if (f_R_all h) ≤ x6 then
    some (.inr x5)
  else
    if x6 = x1 then
      some (.inl (x5, (x6 + 1)))
    else
      if x6 = x2 then
        some (.inl (x5, (x6 + 1)))
      else
        if (f_R_has x4 x6) = 0 then
          some (.inl (x5, (x6 + 1)))
        else
          (f_R_sideOf x1 x2 x6 h).bind fun v_5 =>
          if v_5 = x3 then
            some (.inl ((x5 ||| (jshl 1 x6)), (x6 + 1)))
          else
            some (.inl (x5, (x6 + 1)))
set_option maxHeartbeats 4000000 in
theorem b_R_onSide_L1 {E : pE} {r : Option Value} {hr : pH} {x1 : Int32} {x2 : Int32} {x3 : Int32} {x4 : Int32} {h : pH} {x5 : Int32} {x6 : Int32}  {b : ((Int32 × Int32) ⊕ Int32)} (e : f_R_onSide_L1 x1 x2 x3 x4 h x5 x6 = some b) (k : (Sum.elim (fun s : (Int32 × Int32) => Go E M_R_onSide 6 [some (.ref 79), some (.int x1), some (.int x2), some (.int x3), some (.int x4), some (.int s.1), some (.int s.2)] [] h r hr) (fun v : Int32 => r = some (.int v) ∧ hr = h)) b) : Go E M_R_onSide 6 [some (.ref 79), some (.int x1), some (.int x2), some (.int x3), some (.int x4), some (.int x5), some (.int x6)] [] h r hr := by
  unfold f_R_onSide_L1 at e
  refine sl_ok ok_R_onSide [.iload 6, .aload_n 0] (pc1 := 9) (ls1 := [some (.ref 79), some (.int x1), some (.int x2), some (.int x3), some (.int x4), some (.int x5), some (.int x6)]) (st1 := [.ref 79, .int x6]) (h1 := h) (P := True) (by decide +kernel) rfl trivial ?_
  refine q_callV ok_R_all (as := []) (st := [.int x6]) ⟨wd_151, wd_152, wd_153, wd_7, ds_R_all, Nat.le_of_ble_eq_true rfl, Nat.le_of_ble_eq_true rfl⟩ (s_R_all ) rfl ⟨rfl, rfl⟩ (ci := 12) rfl (fun v hv => by cases hv; rfl) (Nat.le_of_ble_eq_true rfl) (by decide +kernel) rfl ?_
  refine q_icmp_ge (off := 52) (tgt := 64) (by decide +kernel) (by decide) (fun c_1 => ?_) (fun c_1 => ?_)
  · have e := it_t c_1 e
    refine sl_ok ok_R_onSide [.iload 5] (pc1 := 66) (ls1 := [some (.ref 79), some (.int x1), some (.int x2), some (.int x3), some (.int x4), some (.int x5), some (.int x6)]) (st1 := [.int x5]) (h1 := h) (P := True) (by decide +kernel) rfl trivial ?_
    cases e
    exact q_iret rfl k.1 k.2 (by decide +kernel)
  · have e := it_f c_1 e
    refine sl_ok ok_R_onSide [.iload 6, .iload_n 1] (pc1 := 18) (ls1 := [some (.ref 79), some (.int x1), some (.int x2), some (.int x3), some (.int x4), some (.int x5), some (.int x6)]) (st1 := [.int x1, .int x6]) (h1 := h) (P := True) (by decide +kernel) rfl trivial ?_
    refine q_icmp_eq (off := 40) (tgt := 58) (by decide +kernel) (by decide) (fun c_2 => ?_) (fun c_2 => ?_)
    · have e := it_t c_2 e
      refine sl_ok ok_R_onSide [.iinc 6 1] (pc1 := 61) (ls1 := [some (.ref 79), some (.int x1), some (.int x2), some (.int x3), some (.int x4), some (.int x5), some (.int (x6 + 1))]) (st1 := []) (h1 := h) (P := True) (by decide +kernel) rfl trivial ?_
      refine q_goto (off := -55) (tgt := 6) (by decide) (by decide +kernel) ?_
      cases e
      exact k
    · have e := it_f c_2 e
      refine sl_ok ok_R_onSide [.iload 6, .iload_n 2] (pc1 := 24) (ls1 := [some (.ref 79), some (.int x1), some (.int x2), some (.int x3), some (.int x4), some (.int x5), some (.int x6)]) (st1 := [.int x2, .int x6]) (h1 := h) (P := True) (by decide +kernel) rfl trivial ?_
      refine q_icmp_eq (off := 34) (tgt := 58) (by decide +kernel) (by decide) (fun c_3 => ?_) (fun c_3 => ?_)
      · have e := it_t c_3 e
        refine sl_ok ok_R_onSide [.iinc 6 1] (pc1 := 61) (ls1 := [some (.ref 79), some (.int x1), some (.int x2), some (.int x3), some (.int x4), some (.int x5), some (.int (x6 + 1))]) (st1 := []) (h1 := h) (P := True) (by decide +kernel) rfl trivial ?_
        refine q_goto (off := -55) (tgt := 6) (by decide) (by decide +kernel) ?_
        cases e
        exact k
      · have e := it_f c_3 e
        refine sl_ok ok_R_onSide [.iload 4, .iload 6] (pc1 := 31) (ls1 := [some (.ref 79), some (.int x1), some (.int x2), some (.int x3), some (.int x4), some (.int x5), some (.int x6)]) (st1 := [.int x6, .int x4]) (h1 := h) (P := True) (by decide +kernel) rfl trivial ?_
        refine q_callS ok_R_has (as := [.int x4, .int x6]) (st := []) ⟨wd_255, wd_256, wd_7, ds_R_has, Nat.le_of_ble_eq_true rfl, Nat.le_of_ble_eq_true rfl⟩ (s_R_has ) rfl (fun v hv => by cases hv; rfl) (Nat.le_of_ble_eq_true rfl) (by decide +kernel) rfl ?_
        refine q_if_eq (off := 24) (tgt := 58) (by decide +kernel) (by decide) (fun c_4 => ?_) (fun c_4 => ?_)
        · have e := it_t c_4 e
          refine sl_ok ok_R_onSide [.iinc 6 1] (pc1 := 61) (ls1 := [some (.ref 79), some (.int x1), some (.int x2), some (.int x3), some (.int x4), some (.int x5), some (.int (x6 + 1))]) (st1 := []) (h1 := h) (P := True) (by decide +kernel) rfl trivial ?_
          refine q_goto (off := -55) (tgt := 6) (by decide) (by decide +kernel) ?_
          cases e
          exact k
        · have e := it_f c_4 e
          refine sl_ok ok_R_onSide [.aload_n 0, .iload_n 1, .iload_n 2, .iload 6] (pc1 := 42) (ls1 := [some (.ref 79), some (.int x1), some (.int x2), some (.int x3), some (.int x4), some (.int x5), some (.int x6)]) (st1 := [.int x6, .int x2, .int x1, .ref 79]) (h1 := h) (P := True) (by decide +kernel) rfl trivial ?_
          obtain ⟨v_5, e_6, e⟩ := bi_s e
          refine q_callV ok_R_sideOf (as := [.int x1, .int x2, .int x6]) (st := []) ⟨wd_257, wd_258, wd_259, wd_7, ds_R_sideOf, Nat.le_of_ble_eq_true rfl, Nat.le_of_ble_eq_true rfl⟩ (s_R_sideOf  e_6) rfl ⟨rfl, rfl⟩ (ci := 12) rfl (fun v hv => by cases hv; rfl) (Nat.le_of_ble_eq_true rfl) (by decide +kernel) rfl ?_
          refine sl_ok ok_R_onSide [.iload_n 3] (pc1 := 46) (ls1 := [some (.ref 79), some (.int x1), some (.int x2), some (.int x3), some (.int x4), some (.int x5), some (.int x6)]) (st1 := [.int x3, .int v_5]) (h1 := h) (P := True) (by decide +kernel) rfl trivial ?_
          refine q_icmp_ne (off := 12) (tgt := 58) (by decide +kernel) (by decide) (fun c_7 => ?_) (fun c_7 => ?_)
          · have e := it_f c_7 e
            refine sl_ok ok_R_onSide [.iinc 6 1] (pc1 := 61) (ls1 := [some (.ref 79), some (.int x1), some (.int x2), some (.int x3), some (.int x4), some (.int x5), some (.int (x6 + 1))]) (st1 := []) (h1 := h) (P := True) (by decide +kernel) rfl trivial ?_
            refine q_goto (off := -55) (tgt := 6) (by decide) (by decide +kernel) ?_
            cases e
            exact k
          · have e := it_t c_7 e
            refine sl_ok ok_R_onSide [.iload 5, .iconst 1, .iload 6, .ishl, .ior, .istore 5, .iinc 6 1] (pc1 := 61) (ls1 := [some (.ref 79), some (.int x1), some (.int x2), some (.int x3), some (.int x4), some (.int (x5 ||| (jshl 1 x6))), some (.int (x6 + 1))]) (st1 := []) (h1 := h) (P := True) (by decide +kernel) rfl trivial ?_
            refine q_goto (off := -55) (tgt := 6) (by decide) (by decide +kernel) ?_
            cases e
            exact k
def f_R_onSide (x1 : Int32) (x2 : Int32) (x3 : Int32) (x4 : Int32) (h : pH) : Option Int32 :=
  lp (fun s => f_R_onSide_L1 x1 x2 x3 x4 h s.1 s.2) lpN (0, 0)
set_option maxHeartbeats 4000000 in
theorem b_R_onSide {E : pE} {r : Option Value} {hr : pH} {x1 : Int32} {x2 : Int32} {x3 : Int32} {x4 : Int32} {h : pH}  {b : Int32} (e : f_R_onSide x1 x2 x3 x4 h = some b) (k : (fun v : Int32 => r = some (.int v) ∧ hr = h) b) : Go E M_R_onSide 0 [some (.ref 79), some (.int x1), some (.int x2), some (.int x3), some (.int x4), none, none] [] h r hr := by
  unfold f_R_onSide at e
  refine sl_ok ok_R_onSide [.iconst 0, .istore 5, .iconst 0, .istore 6] (pc1 := 6) (ls1 := [some (.ref 79), some (.int x1), some (.int x2), some (.int x3), some (.int x4), some (.int 0), some (.int 0)]) (st1 := []) (h1 := h) (P := True) (by decide +kernel) rfl trivial ?_
  exact lp_in e (fun s => Go E M_R_onSide 6 [some (.ref 79), some (.int x1), some (.int x2), some (.int x3), some (.int x4), some (.int s.1), some (.int s.2)] [] h r hr) (fun v : Int32 => r = some (.int v) ∧ hr = h) (fun _ _ e k => b_R_onSide_L1  e k) k
theorem s_R_onSide {E : pE} {x1 : Int32} {x2 : Int32} {x3 : Int32} {x4 : Int32} {h : pH}  {v : Int32} (e : f_R_onSide x1 x2 x3 x4 h = some v) : Ct E M_R_onSide [.ref 79, .int x1, .int x2, .int x3, .int x4] h (some (.int v)) h :=
  Ct_of ok_R_onSide [some (.ref 79), some (.int x1), some (.int x2), some (.int x3), some (.int x4), none, none] (Nat.le_of_ble_eq_true rfl) rfl (b_R_onSide  e ⟨rfl, rfl⟩)
def f_R_isRim_L1 (x1 : Int32) (x2 : Int32) (h : pH) (x3 : Int32) : Option (Int32 ⊕ Int32) :=
  if (f_R_all h) ≤ x3 then
    some (.inr 0)
  else
    if x3 = x1 then
      some (.inl (x3 + 1))
    else
      if (f_R_has x2 x3) = 0 then
        some (.inl (x3 + 1))
      else
        (f_R_onSide x1 x3 (1 : Int32) x2 h).bind fun v_4 =>
        if v_4 = 0 then
          some (.inr 1)
        else
          (f_R_onSide x1 x3 ((-1) : Int32) x2 h).bind fun v_7 =>
          if v_7 = 0 then
            some (.inr 1)
          else
            some (.inl (x3 + 1))
set_option maxHeartbeats 4000000 in
theorem b_R_isRim_L1 {E : pE} {r : Option Value} {hr : pH} {x1 : Int32} {x2 : Int32} {h : pH} {x3 : Int32}  {b : (Int32 ⊕ Int32)} (e : f_R_isRim_L1 x1 x2 h x3 = some b) (k : (Sum.elim (fun s : Int32 => Go E M_R_isRim 11 [some (.ref 79), some (.int x1), some (.int x2), some (.int s)] [] h r hr) (fun v : Int32 => r = some (.int v) ∧ hr = h)) b) : Go E M_R_isRim 11 [some (.ref 79), some (.int x1), some (.int x2), some (.int x3)] [] h r hr := by
  unfold f_R_isRim_L1 at e
  refine sl_ok ok_R_isRim [.iload_n 3, .aload_n 0] (pc1 := 13) (ls1 := [some (.ref 79), some (.int x1), some (.int x2), some (.int x3)]) (st1 := [.ref 79, .int x3]) (h1 := h) (P := True) (by decide +kernel) rfl trivial ?_
  refine q_callV ok_R_all (as := []) (st := [.int x3]) ⟨wd_151, wd_152, wd_153, wd_7, ds_R_all, Nat.le_of_ble_eq_true rfl, Nat.le_of_ble_eq_true rfl⟩ (s_R_all ) rfl ⟨rfl, rfl⟩ (ci := 12) rfl (fun v hv => by cases hv; rfl) (Nat.le_of_ble_eq_true rfl) (by decide +kernel) rfl ?_
  refine q_icmp_ge (off := 46) (tgt := 62) (by decide +kernel) (by decide) (fun c_1 => ?_) (fun c_1 => ?_)
  · have e := it_t c_1 e
    refine sl_ok ok_R_isRim [.iconst 0] (pc1 := 63) (ls1 := [some (.ref 79), some (.int x1), some (.int x2), some (.int x3)]) (st1 := [.int 0]) (h1 := h) (P := True) (by decide +kernel) rfl trivial ?_
    cases e
    exact q_zret rfl (Or.inl rfl) k.1 k.2 (by decide +kernel)
  · have e := it_f c_1 e
    refine sl_ok ok_R_isRim [.iload_n 3, .iload_n 1] (pc1 := 21) (ls1 := [some (.ref 79), some (.int x1), some (.int x2), some (.int x3)]) (st1 := [.int x1, .int x3]) (h1 := h) (P := True) (by decide +kernel) rfl trivial ?_
    refine q_icmp_eq (off := 35) (tgt := 56) (by decide +kernel) (by decide) (fun c_2 => ?_) (fun c_2 => ?_)
    · have e := it_t c_2 e
      refine sl_ok ok_R_isRim [.iinc 3 1] (pc1 := 59) (ls1 := [some (.ref 79), some (.int x1), some (.int x2), some (.int (x3 + 1))]) (st1 := []) (h1 := h) (P := True) (by decide +kernel) rfl trivial ?_
      refine q_goto (off := -48) (tgt := 11) (by decide) (by decide +kernel) ?_
      cases e
      exact k
    · have e := it_f c_2 e
      refine sl_ok ok_R_isRim [.iload_n 2, .iload_n 3] (pc1 := 26) (ls1 := [some (.ref 79), some (.int x1), some (.int x2), some (.int x3)]) (st1 := [.int x3, .int x2]) (h1 := h) (P := True) (by decide +kernel) rfl trivial ?_
      refine q_callS ok_R_has (as := [.int x2, .int x3]) (st := []) ⟨wd_255, wd_256, wd_7, ds_R_has, Nat.le_of_ble_eq_true rfl, Nat.le_of_ble_eq_true rfl⟩ (s_R_has ) rfl (fun v hv => by cases hv; rfl) (Nat.le_of_ble_eq_true rfl) (by decide +kernel) rfl ?_
      refine q_if_eq (off := 27) (tgt := 56) (by decide +kernel) (by decide) (fun c_3 => ?_) (fun c_3 => ?_)
      · have e := it_t c_3 e
        refine sl_ok ok_R_isRim [.iinc 3 1] (pc1 := 59) (ls1 := [some (.ref 79), some (.int x1), some (.int x2), some (.int (x3 + 1))]) (st1 := []) (h1 := h) (P := True) (by decide +kernel) rfl trivial ?_
        refine q_goto (off := -48) (tgt := 11) (by decide) (by decide +kernel) ?_
        cases e
        exact k
      · have e := it_f c_3 e
        refine sl_ok ok_R_isRim [.aload_n 0, .iload_n 1, .iload_n 3, .iconst 1, .iload_n 2] (pc1 := 37) (ls1 := [some (.ref 79), some (.int x1), some (.int x2), some (.int x3)]) (st1 := [.int x2, .int 1, .int x3, .int x1, .ref 79]) (h1 := h) (P := True) (by decide +kernel) rfl trivial ?_
        obtain ⟨v_4, e_5, e⟩ := bi_s e
        refine q_callV ok_R_onSide (as := [.int x1, .int x3, .int 1, .int x2]) (st := []) ⟨wd_260, wd_261, wd_262, wd_7, ds_R_onSide, Nat.le_of_ble_eq_true rfl, Nat.le_of_ble_eq_true rfl⟩ (s_R_onSide  e_5) rfl ⟨rfl, rfl⟩ (ci := 12) rfl (fun v hv => by cases hv; rfl) (Nat.le_of_ble_eq_true rfl) (by decide +kernel) rfl ?_
        refine q_if_eq (off := 14) (tgt := 54) (by decide +kernel) (by decide) (fun c_6 => ?_) (fun c_6 => ?_)
        · have e := it_t c_6 e
          refine sl_ok ok_R_isRim [.iconst 1] (pc1 := 55) (ls1 := [some (.ref 79), some (.int x1), some (.int x2), some (.int x3)]) (st1 := [.int 1]) (h1 := h) (P := True) (by decide +kernel) rfl trivial ?_
          cases e
          exact q_zret rfl (Or.inr rfl) k.1 k.2 (by decide +kernel)
        · have e := it_f c_6 e
          refine sl_ok ok_R_isRim [.aload_n 0, .iload_n 1, .iload_n 3, .iconst (-1), .iload_n 2] (pc1 := 48) (ls1 := [some (.ref 79), some (.int x1), some (.int x2), some (.int x3)]) (st1 := [.int x2, .int (-1), .int x3, .int x1, .ref 79]) (h1 := h) (P := True) (by decide +kernel) rfl trivial ?_
          obtain ⟨v_7, e_8, e⟩ := bi_s e
          refine q_callV ok_R_onSide (as := [.int x1, .int x3, .int (-1), .int x2]) (st := []) ⟨wd_260, wd_261, wd_262, wd_7, ds_R_onSide, Nat.le_of_ble_eq_true rfl, Nat.le_of_ble_eq_true rfl⟩ (s_R_onSide  e_8) rfl ⟨rfl, rfl⟩ (ci := 12) rfl (fun v hv => by cases hv; rfl) (Nat.le_of_ble_eq_true rfl) (by decide +kernel) rfl ?_
          refine q_if_ne (off := 5) (tgt := 56) (by decide +kernel) (by decide) (fun c_9 => ?_) (fun c_9 => ?_)
          · have e := it_f c_9 e
            refine sl_ok ok_R_isRim [.iinc 3 1] (pc1 := 59) (ls1 := [some (.ref 79), some (.int x1), some (.int x2), some (.int (x3 + 1))]) (st1 := []) (h1 := h) (P := True) (by decide +kernel) rfl trivial ?_
            refine q_goto (off := -48) (tgt := 11) (by decide) (by decide +kernel) ?_
            cases e
            exact k
          · have e := it_t c_9 e
            refine sl_ok ok_R_isRim [.iconst 1] (pc1 := 55) (ls1 := [some (.ref 79), some (.int x1), some (.int x2), some (.int x3)]) (st1 := [.int 1]) (h1 := h) (P := True) (by decide +kernel) rfl trivial ?_
            cases e
            exact q_zret rfl (Or.inr rfl) k.1 k.2 (by decide +kernel)
def f_R_isRim (x1 : Int32) (x2 : Int32) (h : pH) : Option Int32 :=
  if x2 = (jshl 1 x1) then
    some 1
  else
    lp (fun s => f_R_isRim_L1 x1 x2 h s) lpN 0
set_option maxHeartbeats 4000000 in
theorem b_R_isRim {E : pE} {r : Option Value} {hr : pH} {x1 : Int32} {x2 : Int32} {h : pH}  {b : Int32} (e : f_R_isRim x1 x2 h = some b) (k : (fun v : Int32 => r = some (.int v) ∧ hr = h) b) : Go E M_R_isRim 0 [some (.ref 79), some (.int x1), some (.int x2), none] [] h r hr := by
  unfold f_R_isRim at e
  refine sl_ok ok_R_isRim [.iload_n 2, .iconst 1, .iload_n 1, .ishl] (pc1 := 4) (ls1 := [some (.ref 79), some (.int x1), some (.int x2), none]) (st1 := [.int (jshl 1 x1), .int x2]) (h1 := h) (P := True) (by decide +kernel) rfl trivial ?_
  refine q_icmp_ne (off := 5) (tgt := 9) (by decide +kernel) (by decide) (fun c_1 => ?_) (fun c_1 => ?_)
  · have e := it_f c_1 e
    refine sl_ok ok_R_isRim [.iconst 0, .istore_n 3] (pc1 := 11) (ls1 := [some (.ref 79), some (.int x1), some (.int x2), some (.int 0)]) (st1 := []) (h1 := h) (P := True) (by decide +kernel) rfl trivial ?_
    exact lp_in e (fun s => Go E M_R_isRim 11 [some (.ref 79), some (.int x1), some (.int x2), some (.int s)] [] h r hr) (fun v : Int32 => r = some (.int v) ∧ hr = h) (fun _ _ e k => b_R_isRim_L1  e k) k
  · have e := it_t c_1 e
    refine sl_ok ok_R_isRim [.iconst 1] (pc1 := 8) (ls1 := [some (.ref 79), some (.int x1), some (.int x2), none]) (st1 := [.int 1]) (h1 := h) (P := True) (by decide +kernel) rfl trivial ?_
    cases e
    exact q_zret rfl (Or.inr rfl) k.1 k.2 (by decide +kernel)
theorem s_R_isRim {E : pE} {x1 : Int32} {x2 : Int32} {h : pH}  {v : Int32} (e : f_R_isRim x1 x2 h = some v) : Ct E M_R_isRim [.ref 79, .int x1, .int x2] h (some (.int v)) h :=
  Ct_of ok_R_isRim [some (.ref 79), some (.int x1), some (.int x2), none] (Nat.le_of_ble_eq_true rfl) rfl (b_R_isRim  e ⟨rfl, rfl⟩)
def f_R_hullOf_L1 (x1 : Int32) (h : pH) (x2 : Int32) (x3 : Int32) : Option ((Int32 × Int32) ⊕ Int32) :=
  if (f_R_all h) ≤ x3 then
    some (.inr x2)
  else
    if (f_R_has x1 x3) = 0 then
      some (.inl (x2, (x3 + 1)))
    else
      (f_R_isRim x3 x1 h).bind fun v_3 =>
      if v_3 = 0 then
        some (.inl (x2, (x3 + 1)))
      else
        some (.inl ((x2 ||| (jshl 1 x3)), (x3 + 1)))
set_option maxHeartbeats 4000000 in
theorem b_R_hullOf_L1 {E : pE} {r : Option Value} {hr : pH} {x1 : Int32} {h : pH} {x2 : Int32} {x3 : Int32}  {b : ((Int32 × Int32) ⊕ Int32)} (e : f_R_hullOf_L1 x1 h x2 x3 = some b) (k : (Sum.elim (fun s : (Int32 × Int32) => Go E M_R_hullOf 4 [some (.ref 79), some (.int x1), some (.int s.1), some (.int s.2)] [] h r hr) (fun v : Int32 => r = some (.int v) ∧ hr = h)) b) : Go E M_R_hullOf 4 [some (.ref 79), some (.int x1), some (.int x2), some (.int x3)] [] h r hr := by
  unfold f_R_hullOf_L1 at e
  refine sl_ok ok_R_hullOf [.iload_n 3, .aload_n 0] (pc1 := 6) (ls1 := [some (.ref 79), some (.int x1), some (.int x2), some (.int x3)]) (st1 := [.ref 79, .int x3]) (h1 := h) (P := True) (by decide +kernel) rfl trivial ?_
  refine q_callV ok_R_all (as := []) (st := [.int x3]) ⟨wd_151, wd_152, wd_153, wd_7, ds_R_all, Nat.le_of_ble_eq_true rfl, Nat.le_of_ble_eq_true rfl⟩ (s_R_all ) rfl ⟨rfl, rfl⟩ (ci := 12) rfl (fun v hv => by cases hv; rfl) (Nat.le_of_ble_eq_true rfl) (by decide +kernel) rfl ?_
  refine q_icmp_ge (off := 32) (tgt := 41) (by decide +kernel) (by decide) (fun c_1 => ?_) (fun c_1 => ?_)
  · have e := it_t c_1 e
    refine sl_ok ok_R_hullOf [.iload_n 2] (pc1 := 42) (ls1 := [some (.ref 79), some (.int x1), some (.int x2), some (.int x3)]) (st1 := [.int x2]) (h1 := h) (P := True) (by decide +kernel) rfl trivial ?_
    cases e
    exact q_iret rfl k.1 k.2 (by decide +kernel)
  · have e := it_f c_1 e
    refine sl_ok ok_R_hullOf [.iload_n 1, .iload_n 3] (pc1 := 14) (ls1 := [some (.ref 79), some (.int x1), some (.int x2), some (.int x3)]) (st1 := [.int x3, .int x1]) (h1 := h) (P := True) (by decide +kernel) rfl trivial ?_
    refine q_callS ok_R_has (as := [.int x1, .int x3]) (st := []) ⟨wd_255, wd_256, wd_7, ds_R_has, Nat.le_of_ble_eq_true rfl, Nat.le_of_ble_eq_true rfl⟩ (s_R_has ) rfl (fun v hv => by cases hv; rfl) (Nat.le_of_ble_eq_true rfl) (by decide +kernel) rfl ?_
    refine q_if_eq (off := 18) (tgt := 35) (by decide +kernel) (by decide) (fun c_2 => ?_) (fun c_2 => ?_)
    · have e := it_t c_2 e
      refine sl_ok ok_R_hullOf [.iinc 3 1] (pc1 := 38) (ls1 := [some (.ref 79), some (.int x1), some (.int x2), some (.int (x3 + 1))]) (st1 := []) (h1 := h) (P := True) (by decide +kernel) rfl trivial ?_
      refine q_goto (off := -34) (tgt := 4) (by decide) (by decide +kernel) ?_
      cases e
      exact k
    · have e := it_f c_2 e
      refine sl_ok ok_R_hullOf [.aload_n 0, .iload_n 3, .iload_n 1] (pc1 := 23) (ls1 := [some (.ref 79), some (.int x1), some (.int x2), some (.int x3)]) (st1 := [.int x1, .int x3, .ref 79]) (h1 := h) (P := True) (by decide +kernel) rfl trivial ?_
      obtain ⟨v_3, e_4, e⟩ := bi_s e
      refine q_callV ok_R_isRim (as := [.int x3, .int x1]) (st := []) ⟨wd_263, wd_264, wd_265, wd_7, ds_R_isRim, Nat.le_of_ble_eq_true rfl, Nat.le_of_ble_eq_true rfl⟩ (s_R_isRim  e_4) rfl ⟨rfl, rfl⟩ (ci := 12) rfl (fun v hv => by cases hv; rfl) (Nat.le_of_ble_eq_true rfl) (by decide +kernel) rfl ?_
      refine q_if_eq (off := 9) (tgt := 35) (by decide +kernel) (by decide) (fun c_5 => ?_) (fun c_5 => ?_)
      · have e := it_t c_5 e
        refine sl_ok ok_R_hullOf [.iinc 3 1] (pc1 := 38) (ls1 := [some (.ref 79), some (.int x1), some (.int x2), some (.int (x3 + 1))]) (st1 := []) (h1 := h) (P := True) (by decide +kernel) rfl trivial ?_
        refine q_goto (off := -34) (tgt := 4) (by decide) (by decide +kernel) ?_
        cases e
        exact k
      · have e := it_f c_5 e
        refine sl_ok ok_R_hullOf [.iload_n 2, .iconst 1, .iload_n 3, .ishl, .ior, .istore_n 2, .iinc 3 1] (pc1 := 38) (ls1 := [some (.ref 79), some (.int x1), some (.int (x2 ||| (jshl 1 x3))), some (.int (x3 + 1))]) (st1 := []) (h1 := h) (P := True) (by decide +kernel) rfl trivial ?_
        refine q_goto (off := -34) (tgt := 4) (by decide) (by decide +kernel) ?_
        cases e
        exact k
def f_R_hullOf (x1 : Int32) (h : pH) : Option Int32 :=
  lp (fun s => f_R_hullOf_L1 x1 h s.1 s.2) lpN (0, 0)
set_option maxHeartbeats 4000000 in
theorem b_R_hullOf {E : pE} {r : Option Value} {hr : pH} {x1 : Int32} {h : pH}  {b : Int32} (e : f_R_hullOf x1 h = some b) (k : (fun v : Int32 => r = some (.int v) ∧ hr = h) b) : Go E M_R_hullOf 0 [some (.ref 79), some (.int x1), none, none] [] h r hr := by
  unfold f_R_hullOf at e
  refine sl_ok ok_R_hullOf [.iconst 0, .istore_n 2, .iconst 0, .istore_n 3] (pc1 := 4) (ls1 := [some (.ref 79), some (.int x1), some (.int 0), some (.int 0)]) (st1 := []) (h1 := h) (P := True) (by decide +kernel) rfl trivial ?_
  exact lp_in e (fun s => Go E M_R_hullOf 4 [some (.ref 79), some (.int x1), some (.int s.1), some (.int s.2)] [] h r hr) (fun v : Int32 => r = some (.int v) ∧ hr = h) (fun _ _ e k => b_R_hullOf_L1  e k) k
theorem s_R_hullOf {E : pE} {x1 : Int32} {h : pH}  {v : Int32} (e : f_R_hullOf x1 h = some v) : Ct E M_R_hullOf [.ref 79, .int x1] h (some (.int v)) h :=
  Ct_of ok_R_hullOf [some (.ref 79), some (.int x1), none, none] (Nat.le_of_ble_eq_true rfl) rfl (b_R_hullOf  e ⟨rfl, rfl⟩)
def f_R_laysLayers_L1 (x1 : Int32) (x2 : Int32) (h : pH) : Option ((Int32 × Int32 × pH) ⊕ (Int32 × pH)) :=
  if x2 = 0 then
    some (.inr (x1, h))
  else
    (f_R_hullOf x2 h).bind fun v_2 =>
    if x1 < 0 ∨ 13 ≤ x1.toNatClampNeg then none else
    some (.inl ((x1 + 1), (x2 &&& ((hI (sI h 94 x1.toNatClampNeg v_2) 94 x1.toNatClampNeg) ^^^ (-1))), (sI h 94 x1.toNatClampNeg v_2)))
set_option maxHeartbeats 4000000 in
theorem b_R_laysLayers_L1 {E : pE} {r : Option Value} {hr : pH} {x1 : Int32} {x2 : Int32} {h : pH}  {b : ((Int32 × Int32 × pH) ⊕ (Int32 × pH))} (e : f_R_laysLayers_L1 x1 x2 h = some b) (k : (Sum.elim (fun s : (Int32 × Int32 × pH) => Go E M_R_laysLayers 7 [some (.ref 79), some (.int s.1), some (.int s.2.1)] [] s.2.2 r hr) (fun v : (Int32 × pH) => r = some (.int v.1) ∧ hr = v.2)) b) : Go E M_R_laysLayers 7 [some (.ref 79), some (.int x1), some (.int x2)] [] h r hr := by
  unfold f_R_laysLayers_L1 at e
  refine sl_ok ok_R_laysLayers [.iload_n 2] (pc1 := 8) (ls1 := [some (.ref 79), some (.int x1), some (.int x2)]) (st1 := [.int x2]) (h1 := h) (P := True) (by decide +kernel) rfl trivial ?_
  refine q_if_eq (off := 31) (tgt := 39) (by decide +kernel) (by decide) (fun c_1 => ?_) (fun c_1 => ?_)
  · have e := it_t c_1 e
    refine sl_ok ok_R_laysLayers [.iload_n 1] (pc1 := 40) (ls1 := [some (.ref 79), some (.int x1), some (.int x2)]) (st1 := [.int x1]) (h1 := h) (P := True) (by decide +kernel) rfl trivial ?_
    cases e
    exact q_iret rfl k.1 k.2 (by decide +kernel)
  · have e := it_f c_1 e
    refine sl_ok ok_R_laysLayers [.aload_n 0, .getfield 62, .iload_n 1, .aload_n 0, .iload_n 2] (pc1 := 18) (ls1 := [some (.ref 79), some (.int x1), some (.int x2)]) (st1 := [.int x2, .ref 79, .int x1, .ref 94]) (h1 := h) (P := (ak 79 = 0 ∧ cx 79 = 12) ∧ True) (by decide +kernel) rfl ⟨⟨rfl, rfl⟩, trivial⟩ ?_
    obtain ⟨v_2, e_3, e⟩ := bi_s e
    refine q_callV ok_R_hullOf (as := [.int x2]) (st := [.int x1, .ref 94]) ⟨wd_269, wd_270, wd_271, wd_7, ds_R_hullOf, Nat.le_of_ble_eq_true rfl, Nat.le_of_ble_eq_true rfl⟩ (s_R_hullOf  e_3) rfl ⟨rfl, rfl⟩ (ci := 12) rfl (fun v hv => by cases hv; rfl) (Nat.le_of_ble_eq_true rfl) (by decide +kernel) rfl ?_
    obtain ⟨g_4, e⟩ := it_g e
    refine sl_ok ok_R_laysLayers [.iastore, .iload_n 2, .aload_n 0, .getfield 62, .iload_n 1, .iaload, .iconst (-1), .ixor, .iand, .istore_n 2, .iinc 1 1] (pc1 := 36) (ls1 := [some (.ref 79), some (.int (x1 + 1)), some (.int (x2 &&& ((hI (sI h 94 x1.toNatClampNeg v_2) 94 x1.toNatClampNeg) ^^^ (-1))))]) (st1 := []) (h1 := (sI h 94 x1.toNatClampNeg v_2)) (P := (ak 94 = 1 ∧ ¬ (x1 < 0 ∨ cx 94 ≤ x1.toNatClampNeg)) ∧ (ak 79 = 0 ∧ cx 79 = 12) ∧ (ak 94 = 1 ∧ ¬ (x1 < 0 ∨ cx 94 ≤ x1.toNatClampNeg)) ∧ True) (by decide +kernel) rfl ⟨⟨rfl, g_4⟩, ⟨rfl, rfl⟩, ⟨rfl, g_4⟩, trivial⟩ ?_
    refine q_goto (off := -29) (tgt := 7) (by decide) (by decide +kernel) ?_
    cases e
    exact k
def f_R_laysLayers (h : pH) : Option (Int32 × pH) :=
  lp (fun s => f_R_laysLayers_L1 s.1 s.2.1 s.2.2) lpN (0, (f_R_full h), h)
set_option maxHeartbeats 4000000 in
theorem b_R_laysLayers {E : pE} {r : Option Value} {hr : pH} {h : pH}  {b : (Int32 × pH)} (e : f_R_laysLayers h = some b) (k : (fun v : (Int32 × pH) => r = some (.int v.1) ∧ hr = v.2) b) : Go E M_R_laysLayers 0 [some (.ref 79), none, none] [] h r hr := by
  unfold f_R_laysLayers at e
  refine sl_ok ok_R_laysLayers [.iconst 0, .istore_n 1, .aload_n 0] (pc1 := 3) (ls1 := [some (.ref 79), some (.int 0), none]) (st1 := [.ref 79]) (h1 := h) (P := True) (by decide +kernel) rfl trivial ?_
  refine q_callV ok_R_full (as := []) (st := []) ⟨wd_266, wd_267, wd_268, wd_7, ds_R_full, Nat.le_of_ble_eq_true rfl, Nat.le_of_ble_eq_true rfl⟩ (s_R_full ) rfl ⟨rfl, rfl⟩ (ci := 12) rfl (fun v hv => by cases hv; rfl) (Nat.le_of_ble_eq_true rfl) (by decide +kernel) rfl ?_
  refine sl_ok ok_R_laysLayers [.istore_n 2] (pc1 := 7) (ls1 := [some (.ref 79), some (.int 0), some (.int (f_R_full h))]) (st1 := []) (h1 := h) (P := True) (by decide +kernel) rfl trivial ?_
  exact lp_in e (fun s => Go E M_R_laysLayers 7 [some (.ref 79), some (.int s.1), some (.int s.2.1)] [] s.2.2 r hr) (fun v : (Int32 × pH) => r = some (.int v.1) ∧ hr = v.2) (fun _ _ e k => b_R_laysLayers_L1  e k) k
theorem s_R_laysLayers {E : pE} {h : pH}  {v : (Int32 × pH)} (e : f_R_laysLayers h = some v) : Ct E M_R_laysLayers [.ref 79] h (some (.int v.1)) v.2 :=
  Ct_of ok_R_laysLayers [some (.ref 79), none, none] (Nat.le_of_ble_eq_true rfl) rfl (b_R_laysLayers  e ⟨rfl, rfl⟩)
def f_R_layerOf_L1 (x1 : Int32) (x2 : Int32) (h : pH) (x3 : Int32) : Option (Int32 ⊕ (Int32 × pH)) :=
  if x2 ≤ x3 then
    some (.inr (x3, h))
  else
    if x3 < 0 ∨ 13 ≤ x3.toNatClampNeg then none else
    if (f_R_has (hI h 94 x3.toNatClampNeg) x1) = 0 then
      some (.inl (x3 + 1))
    else
      some (.inr (x3, h))
set_option maxHeartbeats 4000000 in
theorem b_R_layerOf_L1 {E : pE} {r : Option Value} {hr : pH} {x1 : Int32} {x2 : Int32} {h : pH} {x3 : Int32}  {b : (Int32 ⊕ (Int32 × pH))} (e : f_R_layerOf_L1 x1 x2 h x3 = some b) (k : (Sum.elim (fun s : Int32 => Go E M_R_layerOf 7 [some (.ref 79), some (.int x1), some (.int x2), some (.int s)] [] h r hr) (fun v : (Int32 × pH) => r = some (.int v.1) ∧ hr = v.2)) b) : Go E M_R_layerOf 7 [some (.ref 79), some (.int x1), some (.int x2), some (.int x3)] [] h r hr := by
  unfold f_R_layerOf_L1 at e
  refine sl_ok ok_R_layerOf [.iload_n 3, .iload_n 2] (pc1 := 9) (ls1 := [some (.ref 79), some (.int x1), some (.int x2), some (.int x3)]) (st1 := [.int x2, .int x3]) (h1 := h) (P := True) (by decide +kernel) rfl trivial ?_
  refine q_icmp_ge (off := 22) (tgt := 31) (by decide +kernel) (by decide) (fun c_1 => ?_) (fun c_1 => ?_)
  · have e := it_t c_1 e
    refine sl_ok ok_R_layerOf [.iload_n 3] (pc1 := 32) (ls1 := [some (.ref 79), some (.int x1), some (.int x2), some (.int x3)]) (st1 := [.int x3]) (h1 := h) (P := True) (by decide +kernel) rfl trivial ?_
    cases e
    exact q_iret rfl k.1 k.2 (by decide +kernel)
  · have e := it_f c_1 e
    obtain ⟨g_2, e⟩ := it_g e
    refine sl_ok ok_R_layerOf [.aload_n 0, .getfield 62, .iload_n 3, .iaload, .iload_n 1] (pc1 := 19) (ls1 := [some (.ref 79), some (.int x1), some (.int x2), some (.int x3)]) (st1 := [.int x1, .int (hI h 94 x3.toNatClampNeg)]) (h1 := h) (P := (ak 79 = 0 ∧ cx 79 = 12) ∧ (ak 94 = 1 ∧ ¬ (x3 < 0 ∨ cx 94 ≤ x3.toNatClampNeg)) ∧ True) (by decide +kernel) rfl ⟨⟨rfl, rfl⟩, ⟨rfl, g_2⟩, trivial⟩ ?_
    refine q_callS ok_R_has (as := [.int (hI h 94 x3.toNatClampNeg), .int x1]) (st := []) ⟨wd_255, wd_256, wd_7, ds_R_has, Nat.le_of_ble_eq_true rfl, Nat.le_of_ble_eq_true rfl⟩ (s_R_has ) rfl (fun v hv => by cases hv; rfl) (Nat.le_of_ble_eq_true rfl) (by decide +kernel) rfl ?_
    refine q_if_ne (off := 9) (tgt := 31) (by decide +kernel) (by decide) (fun c_3 => ?_) (fun c_3 => ?_)
    · have e := it_f c_3 e
      refine sl_ok ok_R_layerOf [.iload_n 3] (pc1 := 32) (ls1 := [some (.ref 79), some (.int x1), some (.int x2), some (.int x3)]) (st1 := [.int x3]) (h1 := h) (P := True) (by decide +kernel) rfl trivial ?_
      cases e
      exact q_iret rfl k.1 k.2 (by decide +kernel)
    · have e := it_t c_3 e
      refine sl_ok ok_R_layerOf [.iinc 3 1] (pc1 := 28) (ls1 := [some (.ref 79), some (.int x1), some (.int x2), some (.int (x3 + 1))]) (st1 := []) (h1 := h) (P := True) (by decide +kernel) rfl trivial ?_
      refine q_goto (off := -21) (tgt := 7) (by decide) (by decide +kernel) ?_
      cases e
      exact k
def f_R_layerOf (x1 : Int32) (h : pH) : Option (Int32 × pH) :=
  (f_R_laysLayers h).bind fun v_1 =>
  lp (fun s => f_R_layerOf_L1 x1 v_1.1 v_1.2 s) lpN 0
set_option maxHeartbeats 4000000 in
theorem b_R_layerOf {E : pE} {r : Option Value} {hr : pH} {x1 : Int32} {h : pH}  {b : (Int32 × pH)} (e : f_R_layerOf x1 h = some b) (k : (fun v : (Int32 × pH) => r = some (.int v.1) ∧ hr = v.2) b) : Go E M_R_layerOf 0 [some (.ref 79), some (.int x1), none, none] [] h r hr := by
  unfold f_R_layerOf at e
  refine sl_ok ok_R_layerOf [.aload_n 0] (pc1 := 1) (ls1 := [some (.ref 79), some (.int x1), none, none]) (st1 := [.ref 79]) (h1 := h) (P := True) (by decide +kernel) rfl trivial ?_
  obtain ⟨v_1, e_2, e⟩ := bi_s e
  refine q_callV ok_R_laysLayers (as := []) (st := []) ⟨wd_272, wd_273, wd_274, wd_7, ds_R_laysLayers, Nat.le_of_ble_eq_true rfl, Nat.le_of_ble_eq_true rfl⟩ (s_R_laysLayers  e_2) rfl ⟨rfl, rfl⟩ (ci := 12) rfl (fun v hv => by cases hv; rfl) (Nat.le_of_ble_eq_true rfl) (by decide +kernel) rfl ?_
  refine sl_ok ok_R_layerOf [.istore_n 2, .iconst 0, .istore_n 3] (pc1 := 7) (ls1 := [some (.ref 79), some (.int x1), some (.int v_1.1), some (.int 0)]) (st1 := []) (h1 := v_1.2) (P := True) (by decide +kernel) rfl trivial ?_
  exact lp_in e (fun s => Go E M_R_layerOf 7 [some (.ref 79), some (.int x1), some (.int v_1.1), some (.int s)] [] v_1.2 r hr) (fun v : (Int32 × pH) => r = some (.int v.1) ∧ hr = v.2) (fun _ _ e k => b_R_layerOf_L1  e k) k
theorem s_R_layerOf {E : pE} {x1 : Int32} {h : pH}  {v : (Int32 × pH)} (e : f_R_layerOf x1 h = some v) : Ct E M_R_layerOf [.ref 79, .int x1] h (some (.int v.1)) v.2 :=
  Ct_of ok_R_layerOf [some (.ref 79), some (.int x1), none, none] (Nat.le_of_ble_eq_true rfl) rfl (b_R_layerOf  e ⟨rfl, rfl⟩)
def f_R_lesser (x0 : Int32) (x1 : Int32) : Int32 :=
  if x1 ≤ x0 then
    x1
  else
    x0
set_option maxHeartbeats 4000000 in
theorem b_R_lesser {E : pE} {r : Option Value} {hr : pH} {x0 : Int32} {x1 : Int32} {h : pH}  {b : Int32} (e : f_R_lesser x0 x1 = b) (k : (fun v : Int32 => r = some (.int v) ∧ hr = h) b) : Go E M_R_lesser 0 [some (.int x0), some (.int x1)] [] h r hr := by
  unfold f_R_lesser at e
  refine sl_ok ok_R_lesser [.iload_n 0, .iload_n 1] (pc1 := 2) (ls1 := [some (.int x0), some (.int x1)]) (st1 := [.int x1, .int x0]) (h1 := h) (P := True) (by decide +kernel) rfl trivial ?_
  refine q_icmp_ge (off := 7) (tgt := 9) (by decide +kernel) (by decide) (fun c_1 => ?_) (fun c_1 => ?_)
  · have e := it_t c_1 e
    refine sl_ok ok_R_lesser [.iload_n 1] (pc1 := 10) (ls1 := [some (.int x0), some (.int x1)]) (st1 := [.int x1]) (h1 := h) (P := True) (by decide +kernel) rfl trivial ?_
    cases e
    exact q_iret rfl k.1 k.2 (by decide +kernel)
  · have e := it_f c_1 e
    refine sl_ok ok_R_lesser [.iload_n 0] (pc1 := 6) (ls1 := [some (.int x0), some (.int x1)]) (st1 := [.int x0]) (h1 := h) (P := True) (by decide +kernel) rfl trivial ?_
    refine q_goto (off := 4) (tgt := 10) (by decide) (by decide +kernel) ?_
    cases e
    exact q_iret rfl k.1 k.2 (by decide +kernel)
theorem s_R_lesser {E : pE} {x0 : Int32} {x1 : Int32} {h : pH}  : Ct E M_R_lesser [.int x0, .int x1] h (some (.int (f_R_lesser x0 x1))) h :=
  Ct_of ok_R_lesser [some (.int x0), some (.int x1)] (Nat.le_of_ble_eq_true rfl) rfl (b_R_lesser  rfl ⟨rfl, rfl⟩)
def f_R_depthOf_L4 (x1 : Int32) (x2 : Int32) (x3 : Int32) (x4 : Int32) (x5 : Int32) (x6 : Int32) (x7 : Int32) (h : pH) (x8 : Int32) (x9 : Int32) (x10 : Int32) (x11 : Int32) (x12 : Int32) : Option ((Int32 × Int32 × Int32 × Int32 × Int32) ⊕ ((Int32 × Int32) ⊕ Int32)) :=
  if (f_R_all h) ≤ x12 then
    some (.inr (.inl ((f_R_lesser x4 (x3 + (f_R_lesser (f_R_lesser (x8 + x11) (x9 + x10)) (f_R_lesser (x8 + x10) (x9 + x11))))), (x5 + 1))))
  else
    (f_R_x x12 h).bind fun v_2 =>
    (f_R_y x12 h).bind fun v_4 =>
    if ((x6 * (v_4 - x2)) - (x7 * (v_2 - x1))) ≤ 0 then
      if 0 ≤ ((x6 * (v_4 - x2)) - (x7 * (v_2 - x1))) then
        if ((x6 * (v_2 - x1)) + (x7 * (v_4 - x2))) ≤ 0 then
          if 0 ≤ ((x6 * (v_2 - x1)) + (x7 * (v_4 - x2))) then
            some (.inl (x8, x9, x10, x11, (x12 + 1)))
          else
            some (.inl (x8, x9, x10, (x11 + 1), (x12 + 1)))
        else
          some (.inl (x8, x9, (x10 + 1), x11, (x12 + 1)))
      else
        some (.inl (x8, (x9 + 1), x10, x11, (x12 + 1)))
    else
      some (.inl ((x8 + 1), x9, x10, x11, (x12 + 1)))
set_option maxHeartbeats 4000000 in
theorem b_R_depthOf_L4 {E : pE} {r : Option Value} {hr : pH} {x1 : Int32} {x2 : Int32} {x3 : Int32} {x4 : Int32} {x5 : Int32} {x6 : Int32} {x7 : Int32} {h : pH} {x8 : Int32} {x9 : Int32} {x10 : Int32} {x11 : Int32} {x12 : Int32}  {b : ((Int32 × Int32 × Int32 × Int32 × Int32) ⊕ ((Int32 × Int32) ⊕ Int32))} (e : f_R_depthOf_L4 x1 x2 x3 x4 x5 x6 x7 h x8 x9 x10 x11 x12 = some b) (k : (Sum.elim (fun s : (Int32 × Int32 × Int32 × Int32 × Int32) => Go E M_R_depthOf 81 [some (.ref 79), some (.int x1), some (.int x2), some (.int x3), some (.int x4), some (.int x5), some (.int x6), some (.int x7), some (.int s.1), some (.int s.2.1), some (.int s.2.2.1), some (.int s.2.2.2.1), some (.int s.2.2.2.2), none, none, none, none] [] h r hr) (Sum.elim (fun s : (Int32 × Int32) => Go E M_R_depthOf 24 [some (.ref 79), some (.int x1), some (.int x2), some (.int x3), some (.int s.1), some (.int s.2), none, none, none, none, none, none, none, none, none, none, none] [] h r hr) (fun v : Int32 => r = some (.int v) ∧ hr = h))) b) : Go E M_R_depthOf 81 [some (.ref 79), some (.int x1), some (.int x2), some (.int x3), some (.int x4), some (.int x5), some (.int x6), some (.int x7), some (.int x8), some (.int x9), some (.int x10), some (.int x11), some (.int x12), none, none, none, none] [] h r hr := by
  unfold f_R_depthOf_L4 at e
  refine sl_ok ok_R_depthOf [.iload 12, .aload_n 0] (pc1 := 84) (ls1 := [some (.ref 79), some (.int x1), some (.int x2), some (.int x3), some (.int x4), some (.int x5), some (.int x6), some (.int x7), some (.int x8), some (.int x9), some (.int x10), some (.int x11), some (.int x12), none, none, none, none]) (st1 := [.ref 79, .int x12]) (h1 := h) (P := True) (by decide +kernel) rfl trivial ?_
  refine q_callV ok_R_all (as := []) (st := [.int x12]) ⟨wd_151, wd_152, wd_153, wd_7, ds_R_all, Nat.le_of_ble_eq_true rfl, Nat.le_of_ble_eq_true rfl⟩ (s_R_all ) rfl ⟨rfl, rfl⟩ (ci := 12) rfl (fun v hv => by cases hv; rfl) (Nat.le_of_ble_eq_true rfl) (by decide +kernel) rfl ?_
  refine q_icmp_ge (off := 96) (tgt := 183) (by decide +kernel) (by decide) (fun c_1 => ?_) (fun c_1 => ?_)
  · have e := it_t c_1 e
    refine sl_ok ok_R_depthOf [.iload 8, .iload 11, .iadd, .iload 9, .iload 10, .iadd] (pc1 := 193) (ls1 := [some (.ref 79), some (.int x1), some (.int x2), some (.int x3), some (.int x4), some (.int x5), some (.int x6), some (.int x7), some (.int x8), some (.int x9), some (.int x10), some (.int x11), some (.int x12), none, none, none, none]) (st1 := [.int (x9 + x10), .int (x8 + x11)]) (h1 := h) (P := True) (by decide +kernel) rfl trivial ?_
    refine q_callS ok_R_lesser (as := [.int (x8 + x11), .int (x9 + x10)]) (st := []) ⟨wd_275, wd_276, wd_7, ds_R_lesser, Nat.le_of_ble_eq_true rfl, Nat.le_of_ble_eq_true rfl⟩ (s_R_lesser ) rfl (fun v hv => by cases hv; rfl) (Nat.le_of_ble_eq_true rfl) (by decide +kernel) rfl ?_
    refine sl_ok ok_R_depthOf [.istore 12, .iload 8, .iload 10, .iadd, .iload 9, .iload 11, .iadd] (pc1 := 208) (ls1 := [some (.ref 79), some (.int x1), some (.int x2), some (.int x3), some (.int x4), some (.int x5), some (.int x6), some (.int x7), some (.int x8), some (.int x9), some (.int x10), some (.int x11), some (.int (f_R_lesser (x8 + x11) (x9 + x10))), none, none, none, none]) (st1 := [.int (x9 + x11), .int (x8 + x10)]) (h1 := h) (P := True) (by decide +kernel) rfl trivial ?_
    refine q_callS ok_R_lesser (as := [.int (x8 + x10), .int (x9 + x11)]) (st := []) ⟨wd_275, wd_276, wd_7, ds_R_lesser, Nat.le_of_ble_eq_true rfl, Nat.le_of_ble_eq_true rfl⟩ (s_R_lesser ) rfl (fun v hv => by cases hv; rfl) (Nat.le_of_ble_eq_true rfl) (by decide +kernel) rfl ?_
    refine sl_ok ok_R_depthOf [.istore 13, .iload 4, .iload_n 3, .iload 12, .iload 13] (pc1 := 220) (ls1 := [some (.ref 79), some (.int x1), some (.int x2), some (.int x3), some (.int x4), some (.int x5), some (.int x6), some (.int x7), some (.int x8), some (.int x9), some (.int x10), some (.int x11), some (.int (f_R_lesser (x8 + x11) (x9 + x10))), some (.int (f_R_lesser (x8 + x10) (x9 + x11))), none, none, none]) (st1 := [.int (f_R_lesser (x8 + x10) (x9 + x11)), .int (f_R_lesser (x8 + x11) (x9 + x10)), .int x3, .int x4]) (h1 := h) (P := True) (by decide +kernel) rfl trivial ?_
    refine q_callS ok_R_lesser (as := [.int (f_R_lesser (x8 + x11) (x9 + x10)), .int (f_R_lesser (x8 + x10) (x9 + x11))]) (st := [.int x3, .int x4]) ⟨wd_275, wd_276, wd_7, ds_R_lesser, Nat.le_of_ble_eq_true rfl, Nat.le_of_ble_eq_true rfl⟩ (s_R_lesser ) rfl (fun v hv => by cases hv; rfl) (Nat.le_of_ble_eq_true rfl) (by decide +kernel) rfl ?_
    refine sl_ok ok_R_depthOf [.iadd] (pc1 := 224) (ls1 := [some (.ref 79), some (.int x1), some (.int x2), some (.int x3), some (.int x4), some (.int x5), some (.int x6), some (.int x7), some (.int x8), some (.int x9), some (.int x10), some (.int x11), some (.int (f_R_lesser (x8 + x11) (x9 + x10))), some (.int (f_R_lesser (x8 + x10) (x9 + x11))), none, none, none]) (st1 := [.int (x3 + (f_R_lesser (f_R_lesser (x8 + x11) (x9 + x10)) (f_R_lesser (x8 + x10) (x9 + x11)))), .int x4]) (h1 := h) (P := True) (by decide +kernel) rfl trivial ?_
    refine q_callS ok_R_lesser (as := [.int x4, .int (x3 + (f_R_lesser (f_R_lesser (x8 + x11) (x9 + x10)) (f_R_lesser (x8 + x10) (x9 + x11))))]) (st := []) ⟨wd_275, wd_276, wd_7, ds_R_lesser, Nat.le_of_ble_eq_true rfl, Nat.le_of_ble_eq_true rfl⟩ (s_R_lesser ) rfl (fun v hv => by cases hv; rfl) (Nat.le_of_ble_eq_true rfl) (by decide +kernel) rfl ?_
    refine sl_ok ok_R_depthOf [.istore 4, .iinc 5 1] (pc1 := 232) (ls1 := [some (.ref 79), some (.int x1), some (.int x2), some (.int x3), some (.int (f_R_lesser x4 (x3 + (f_R_lesser (f_R_lesser (x8 + x11) (x9 + x10)) (f_R_lesser (x8 + x10) (x9 + x11)))))), some (.int (x5 + 1)), some (.int x6), some (.int x7), some (.int x8), some (.int x9), some (.int x10), some (.int x11), some (.int (f_R_lesser (x8 + x11) (x9 + x10))), some (.int (f_R_lesser (x8 + x10) (x9 + x11))), none, none, none]) (st1 := []) (h1 := h) (P := True) (by decide +kernel) rfl trivial ?_
    refine q_goto (off := -208) (tgt := 24) (by decide) (by decide +kernel) ?_
    cases e
    refine Go.sb [some (.ref 79), some (.int x1), some (.int x2), some (.int x3), some (.int (f_R_lesser x4 (x3 + (f_R_lesser (f_R_lesser (x8 + x11) (x9 + x10)) (f_R_lesser (x8 + x10) (x9 + x11)))))), some (.int (x5 + 1)), none, none, none, none, none, none, none, none, none, none, none] (And.intro rfl (And.intro rfl (And.intro rfl (And.intro rfl (And.intro rfl (And.intro rfl trivial)))))) ?_
    exact k
  · have e := it_f c_1 e
    refine sl_ok ok_R_depthOf [.aload_n 0, .iload 12] (pc1 := 93) (ls1 := [some (.ref 79), some (.int x1), some (.int x2), some (.int x3), some (.int x4), some (.int x5), some (.int x6), some (.int x7), some (.int x8), some (.int x9), some (.int x10), some (.int x11), some (.int x12), none, none, none, none]) (st1 := [.int x12, .ref 79]) (h1 := h) (P := True) (by decide +kernel) rfl trivial ?_
    obtain ⟨v_2, e_3, e⟩ := bi_s e
    refine q_callV ok_R_x (as := [.int x12]) (st := []) ⟨wd_154, wd_155, wd_156, wd_7, ds_R_x, Nat.le_of_ble_eq_true rfl, Nat.le_of_ble_eq_true rfl⟩ (s_R_x  e_3) rfl ⟨rfl, rfl⟩ (ci := 12) rfl (fun v hv => by cases hv; rfl) (Nat.le_of_ble_eq_true rfl) (by decide +kernel) rfl ?_
    refine sl_ok ok_R_depthOf [.iload_n 1, .isub, .istore 13, .aload_n 0, .iload 12] (pc1 := 103) (ls1 := [some (.ref 79), some (.int x1), some (.int x2), some (.int x3), some (.int x4), some (.int x5), some (.int x6), some (.int x7), some (.int x8), some (.int x9), some (.int x10), some (.int x11), some (.int x12), some (.int (v_2 - x1)), none, none, none]) (st1 := [.int x12, .ref 79]) (h1 := h) (P := True) (by decide +kernel) rfl trivial ?_
    obtain ⟨v_4, e_5, e⟩ := bi_s e
    refine q_callV ok_R_y (as := [.int x12]) (st := []) ⟨wd_157, wd_158, wd_159, wd_7, ds_R_y, Nat.le_of_ble_eq_true rfl, Nat.le_of_ble_eq_true rfl⟩ (s_R_y  e_5) rfl ⟨rfl, rfl⟩ (ci := 12) rfl (fun v hv => by cases hv; rfl) (Nat.le_of_ble_eq_true rfl) (by decide +kernel) rfl ?_
    refine sl_ok ok_R_depthOf [.iload_n 2, .isub, .istore 14, .iload 6, .iload 14, .imul, .iload 7, .iload 13, .imul, .isub, .istore 15, .iload 6, .iload 13, .imul, .iload 7, .iload 14, .imul, .iadd, .istore 16, .iload 15] (pc1 := 138) (ls1 := [some (.ref 79), some (.int x1), some (.int x2), some (.int x3), some (.int x4), some (.int x5), some (.int x6), some (.int x7), some (.int x8), some (.int x9), some (.int x10), some (.int x11), some (.int x12), some (.int (v_2 - x1)), some (.int (v_4 - x2)), some (.int ((x6 * (v_4 - x2)) - (x7 * (v_2 - x1)))), some (.int ((x6 * (v_2 - x1)) + (x7 * (v_4 - x2))))]) (st1 := [.int ((x6 * (v_4 - x2)) - (x7 * (v_2 - x1)))]) (h1 := h) (P := True) (by decide +kernel) rfl trivial ?_
    refine q_if_le (off := 9) (tgt := 147) (by decide +kernel) (by decide) (fun c_6 => ?_) (fun c_6 => ?_)
    · have e := it_t c_6 e
      refine sl_ok ok_R_depthOf [.iload 15] (pc1 := 149) (ls1 := [some (.ref 79), some (.int x1), some (.int x2), some (.int x3), some (.int x4), some (.int x5), some (.int x6), some (.int x7), some (.int x8), some (.int x9), some (.int x10), some (.int x11), some (.int x12), some (.int (v_2 - x1)), some (.int (v_4 - x2)), some (.int ((x6 * (v_4 - x2)) - (x7 * (v_2 - x1)))), some (.int ((x6 * (v_2 - x1)) + (x7 * (v_4 - x2))))]) (st1 := [.int ((x6 * (v_4 - x2)) - (x7 * (v_2 - x1)))]) (h1 := h) (P := True) (by decide +kernel) rfl trivial ?_
      refine q_if_ge (off := 9) (tgt := 158) (by decide +kernel) (by decide) (fun c_7 => ?_) (fun c_7 => ?_)
      · have e := it_t c_7 e
        refine sl_ok ok_R_depthOf [.iload 16] (pc1 := 160) (ls1 := [some (.ref 79), some (.int x1), some (.int x2), some (.int x3), some (.int x4), some (.int x5), some (.int x6), some (.int x7), some (.int x8), some (.int x9), some (.int x10), some (.int x11), some (.int x12), some (.int (v_2 - x1)), some (.int (v_4 - x2)), some (.int ((x6 * (v_4 - x2)) - (x7 * (v_2 - x1)))), some (.int ((x6 * (v_2 - x1)) + (x7 * (v_4 - x2))))]) (st1 := [.int ((x6 * (v_2 - x1)) + (x7 * (v_4 - x2)))]) (h1 := h) (P := True) (by decide +kernel) rfl trivial ?_
        refine q_if_le (off := 9) (tgt := 169) (by decide +kernel) (by decide) (fun c_8 => ?_) (fun c_8 => ?_)
        · have e := it_t c_8 e
          refine sl_ok ok_R_depthOf [.iload 16] (pc1 := 171) (ls1 := [some (.ref 79), some (.int x1), some (.int x2), some (.int x3), some (.int x4), some (.int x5), some (.int x6), some (.int x7), some (.int x8), some (.int x9), some (.int x10), some (.int x11), some (.int x12), some (.int (v_2 - x1)), some (.int (v_4 - x2)), some (.int ((x6 * (v_4 - x2)) - (x7 * (v_2 - x1)))), some (.int ((x6 * (v_2 - x1)) + (x7 * (v_4 - x2))))]) (st1 := [.int ((x6 * (v_2 - x1)) + (x7 * (v_4 - x2)))]) (h1 := h) (P := True) (by decide +kernel) rfl trivial ?_
          refine q_if_ge (off := 6) (tgt := 177) (by decide +kernel) (by decide) (fun c_9 => ?_) (fun c_9 => ?_)
          · have e := it_t c_9 e
            refine sl_ok ok_R_depthOf [.iinc 12 1] (pc1 := 180) (ls1 := [some (.ref 79), some (.int x1), some (.int x2), some (.int x3), some (.int x4), some (.int x5), some (.int x6), some (.int x7), some (.int x8), some (.int x9), some (.int x10), some (.int x11), some (.int (x12 + 1)), some (.int (v_2 - x1)), some (.int (v_4 - x2)), some (.int ((x6 * (v_4 - x2)) - (x7 * (v_2 - x1)))), some (.int ((x6 * (v_2 - x1)) + (x7 * (v_4 - x2))))]) (st1 := []) (h1 := h) (P := True) (by decide +kernel) rfl trivial ?_
            refine q_goto (off := -99) (tgt := 81) (by decide) (by decide +kernel) ?_
            cases e
            refine Go.sb [some (.ref 79), some (.int x1), some (.int x2), some (.int x3), some (.int x4), some (.int x5), some (.int x6), some (.int x7), some (.int x8), some (.int x9), some (.int x10), some (.int x11), some (.int (x12 + 1)), none, none, none, none] (And.intro rfl (And.intro rfl (And.intro rfl (And.intro rfl (And.intro rfl (And.intro rfl (And.intro rfl (And.intro rfl (And.intro rfl (And.intro rfl (And.intro rfl (And.intro rfl (And.intro rfl trivial))))))))))))) ?_
            exact k
          · have e := it_f c_9 e
            refine sl_ok ok_R_depthOf [.iinc 11 1, .iinc 12 1] (pc1 := 180) (ls1 := [some (.ref 79), some (.int x1), some (.int x2), some (.int x3), some (.int x4), some (.int x5), some (.int x6), some (.int x7), some (.int x8), some (.int x9), some (.int x10), some (.int (x11 + 1)), some (.int (x12 + 1)), some (.int (v_2 - x1)), some (.int (v_4 - x2)), some (.int ((x6 * (v_4 - x2)) - (x7 * (v_2 - x1)))), some (.int ((x6 * (v_2 - x1)) + (x7 * (v_4 - x2))))]) (st1 := []) (h1 := h) (P := True) (by decide +kernel) rfl trivial ?_
            refine q_goto (off := -99) (tgt := 81) (by decide) (by decide +kernel) ?_
            cases e
            refine Go.sb [some (.ref 79), some (.int x1), some (.int x2), some (.int x3), some (.int x4), some (.int x5), some (.int x6), some (.int x7), some (.int x8), some (.int x9), some (.int x10), some (.int (x11 + 1)), some (.int (x12 + 1)), none, none, none, none] (And.intro rfl (And.intro rfl (And.intro rfl (And.intro rfl (And.intro rfl (And.intro rfl (And.intro rfl (And.intro rfl (And.intro rfl (And.intro rfl (And.intro rfl (And.intro rfl (And.intro rfl trivial))))))))))))) ?_
            exact k
        · have e := it_f c_8 e
          refine sl_ok ok_R_depthOf [.iinc 10 1] (pc1 := 166) (ls1 := [some (.ref 79), some (.int x1), some (.int x2), some (.int x3), some (.int x4), some (.int x5), some (.int x6), some (.int x7), some (.int x8), some (.int x9), some (.int (x10 + 1)), some (.int x11), some (.int x12), some (.int (v_2 - x1)), some (.int (v_4 - x2)), some (.int ((x6 * (v_4 - x2)) - (x7 * (v_2 - x1)))), some (.int ((x6 * (v_2 - x1)) + (x7 * (v_4 - x2))))]) (st1 := []) (h1 := h) (P := True) (by decide +kernel) rfl trivial ?_
          refine q_goto (off := 11) (tgt := 177) (by decide) (by decide +kernel) ?_
          refine sl_ok ok_R_depthOf [.iinc 12 1] (pc1 := 180) (ls1 := [some (.ref 79), some (.int x1), some (.int x2), some (.int x3), some (.int x4), some (.int x5), some (.int x6), some (.int x7), some (.int x8), some (.int x9), some (.int (x10 + 1)), some (.int x11), some (.int (x12 + 1)), some (.int (v_2 - x1)), some (.int (v_4 - x2)), some (.int ((x6 * (v_4 - x2)) - (x7 * (v_2 - x1)))), some (.int ((x6 * (v_2 - x1)) + (x7 * (v_4 - x2))))]) (st1 := []) (h1 := h) (P := True) (by decide +kernel) rfl trivial ?_
          refine q_goto (off := -99) (tgt := 81) (by decide) (by decide +kernel) ?_
          cases e
          refine Go.sb [some (.ref 79), some (.int x1), some (.int x2), some (.int x3), some (.int x4), some (.int x5), some (.int x6), some (.int x7), some (.int x8), some (.int x9), some (.int (x10 + 1)), some (.int x11), some (.int (x12 + 1)), none, none, none, none] (And.intro rfl (And.intro rfl (And.intro rfl (And.intro rfl (And.intro rfl (And.intro rfl (And.intro rfl (And.intro rfl (And.intro rfl (And.intro rfl (And.intro rfl (And.intro rfl (And.intro rfl trivial))))))))))))) ?_
          exact k
      · have e := it_f c_7 e
        refine sl_ok ok_R_depthOf [.iinc 9 1] (pc1 := 155) (ls1 := [some (.ref 79), some (.int x1), some (.int x2), some (.int x3), some (.int x4), some (.int x5), some (.int x6), some (.int x7), some (.int x8), some (.int (x9 + 1)), some (.int x10), some (.int x11), some (.int x12), some (.int (v_2 - x1)), some (.int (v_4 - x2)), some (.int ((x6 * (v_4 - x2)) - (x7 * (v_2 - x1)))), some (.int ((x6 * (v_2 - x1)) + (x7 * (v_4 - x2))))]) (st1 := []) (h1 := h) (P := True) (by decide +kernel) rfl trivial ?_
        refine q_goto (off := 22) (tgt := 177) (by decide) (by decide +kernel) ?_
        refine sl_ok ok_R_depthOf [.iinc 12 1] (pc1 := 180) (ls1 := [some (.ref 79), some (.int x1), some (.int x2), some (.int x3), some (.int x4), some (.int x5), some (.int x6), some (.int x7), some (.int x8), some (.int (x9 + 1)), some (.int x10), some (.int x11), some (.int (x12 + 1)), some (.int (v_2 - x1)), some (.int (v_4 - x2)), some (.int ((x6 * (v_4 - x2)) - (x7 * (v_2 - x1)))), some (.int ((x6 * (v_2 - x1)) + (x7 * (v_4 - x2))))]) (st1 := []) (h1 := h) (P := True) (by decide +kernel) rfl trivial ?_
        refine q_goto (off := -99) (tgt := 81) (by decide) (by decide +kernel) ?_
        cases e
        refine Go.sb [some (.ref 79), some (.int x1), some (.int x2), some (.int x3), some (.int x4), some (.int x5), some (.int x6), some (.int x7), some (.int x8), some (.int (x9 + 1)), some (.int x10), some (.int x11), some (.int (x12 + 1)), none, none, none, none] (And.intro rfl (And.intro rfl (And.intro rfl (And.intro rfl (And.intro rfl (And.intro rfl (And.intro rfl (And.intro rfl (And.intro rfl (And.intro rfl (And.intro rfl (And.intro rfl (And.intro rfl trivial))))))))))))) ?_
        exact k
    · have e := it_f c_6 e
      refine sl_ok ok_R_depthOf [.iinc 8 1] (pc1 := 144) (ls1 := [some (.ref 79), some (.int x1), some (.int x2), some (.int x3), some (.int x4), some (.int x5), some (.int x6), some (.int x7), some (.int (x8 + 1)), some (.int x9), some (.int x10), some (.int x11), some (.int x12), some (.int (v_2 - x1)), some (.int (v_4 - x2)), some (.int ((x6 * (v_4 - x2)) - (x7 * (v_2 - x1)))), some (.int ((x6 * (v_2 - x1)) + (x7 * (v_4 - x2))))]) (st1 := []) (h1 := h) (P := True) (by decide +kernel) rfl trivial ?_
      refine q_goto (off := 33) (tgt := 177) (by decide) (by decide +kernel) ?_
      refine sl_ok ok_R_depthOf [.iinc 12 1] (pc1 := 180) (ls1 := [some (.ref 79), some (.int x1), some (.int x2), some (.int x3), some (.int x4), some (.int x5), some (.int x6), some (.int x7), some (.int (x8 + 1)), some (.int x9), some (.int x10), some (.int x11), some (.int (x12 + 1)), some (.int (v_2 - x1)), some (.int (v_4 - x2)), some (.int ((x6 * (v_4 - x2)) - (x7 * (v_2 - x1)))), some (.int ((x6 * (v_2 - x1)) + (x7 * (v_4 - x2))))]) (st1 := []) (h1 := h) (P := True) (by decide +kernel) rfl trivial ?_
      refine q_goto (off := -99) (tgt := 81) (by decide) (by decide +kernel) ?_
      cases e
      refine Go.sb [some (.ref 79), some (.int x1), some (.int x2), some (.int x3), some (.int x4), some (.int x5), some (.int x6), some (.int x7), some (.int (x8 + 1)), some (.int x9), some (.int x10), some (.int x11), some (.int (x12 + 1)), none, none, none, none] (And.intro rfl (And.intro rfl (And.intro rfl (And.intro rfl (And.intro rfl (And.intro rfl (And.intro rfl (And.intro rfl (And.intro rfl (And.intro rfl (And.intro rfl (And.intro rfl (And.intro rfl trivial))))))))))))) ?_
      exact k
def f_R_depthOf_J3 (x1 : Int32) (x2 : Int32) (x3 : Int32) (x4 : Int32) (x5 : Int32) (x6 : Int32) (x7 : Int32) (h : pH) : Option ((Int32 × Int32) ⊕ Int32) :=
  lp (fun s => f_R_depthOf_L4 x1 x2 x3 x4 x5 x6 x7 h s.1 s.2.1 s.2.2.1 s.2.2.2.1 s.2.2.2.2) lpN (0, 0, 0, 0, 0)
set_option maxHeartbeats 4000000 in
theorem b_R_depthOf_J3 {E : pE} {r : Option Value} {hr : pH} {x1 : Int32} {x2 : Int32} {x3 : Int32} {x4 : Int32} {x5 : Int32} {x6 : Int32} {x7 : Int32} {h : pH}  {b : ((Int32 × Int32) ⊕ Int32)} (e : f_R_depthOf_J3 x1 x2 x3 x4 x5 x6 x7 h = some b) (k : (Sum.elim (fun s : (Int32 × Int32) => Go E M_R_depthOf 24 [some (.ref 79), some (.int x1), some (.int x2), some (.int x3), some (.int s.1), some (.int s.2), none, none, none, none, none, none, none, none, none, none, none] [] h r hr) (fun v : Int32 => r = some (.int v) ∧ hr = h)) b) : Go E M_R_depthOf 66 [some (.ref 79), some (.int x1), some (.int x2), some (.int x3), some (.int x4), some (.int x5), some (.int x6), some (.int x7), none, none, none, none, none, none, none, none, none] [] h r hr := by
  unfold f_R_depthOf_J3 at e
  refine sl_ok ok_R_depthOf [.iconst 0, .istore 8, .iconst 0, .istore 9, .iconst 0, .istore 10, .iconst 0, .istore 11, .iconst 0, .istore 12] (pc1 := 81) (ls1 := [some (.ref 79), some (.int x1), some (.int x2), some (.int x3), some (.int x4), some (.int x5), some (.int x6), some (.int x7), some (.int 0), some (.int 0), some (.int 0), some (.int 0), some (.int 0), none, none, none, none]) (st1 := []) (h1 := h) (P := True) (by decide +kernel) rfl trivial ?_
  exact lp_in e (fun s => Go E M_R_depthOf 81 [some (.ref 79), some (.int x1), some (.int x2), some (.int x3), some (.int x4), some (.int x5), some (.int x6), some (.int x7), some (.int s.1), some (.int s.2.1), some (.int s.2.2.1), some (.int s.2.2.2.1), some (.int s.2.2.2.2), none, none, none, none] [] h r hr) (Sum.elim (fun s : (Int32 × Int32) => Go E M_R_depthOf 24 [some (.ref 79), some (.int x1), some (.int x2), some (.int x3), some (.int s.1), some (.int s.2), none, none, none, none, none, none, none, none, none, none, none] [] h r hr) (fun v : Int32 => r = some (.int v) ∧ hr = h)) (fun _ _ e k => b_R_depthOf_L4  e k) k
def f_R_depthOf_L2 (x1 : Int32) (x2 : Int32) (x3 : Int32) (h : pH) (x4 : Int32) (x5 : Int32) : Option ((Int32 × Int32) ⊕ Int32) :=
  if (f_R_all h) ≤ x5 then
    some (.inr x4)
  else
    (f_R_x x5 h).bind fun v_2 =>
    (f_R_y x5 h).bind fun v_4 =>
    if (v_2 - x1) = 0 then
      if (v_4 - x2) = 0 then
        some (.inl (x4, (x5 + 1)))
      else
        f_R_depthOf_J3 x1 x2 x3 x4 x5 (v_2 - x1) (v_4 - x2) h
    else
      f_R_depthOf_J3 x1 x2 x3 x4 x5 (v_2 - x1) (v_4 - x2) h
set_option maxHeartbeats 4000000 in
theorem b_R_depthOf_L2 {E : pE} {r : Option Value} {hr : pH} {x1 : Int32} {x2 : Int32} {x3 : Int32} {h : pH} {x4 : Int32} {x5 : Int32}  {b : ((Int32 × Int32) ⊕ Int32)} (e : f_R_depthOf_L2 x1 x2 x3 h x4 x5 = some b) (k : (Sum.elim (fun s : (Int32 × Int32) => Go E M_R_depthOf 24 [some (.ref 79), some (.int x1), some (.int x2), some (.int x3), some (.int s.1), some (.int s.2), none, none, none, none, none, none, none, none, none, none, none] [] h r hr) (fun v : Int32 => r = some (.int v) ∧ hr = h)) b) : Go E M_R_depthOf 24 [some (.ref 79), some (.int x1), some (.int x2), some (.int x3), some (.int x4), some (.int x5), none, none, none, none, none, none, none, none, none, none, none] [] h r hr := by
  unfold f_R_depthOf_L2 at e
  refine sl_ok ok_R_depthOf [.iload 5, .aload_n 0] (pc1 := 27) (ls1 := [some (.ref 79), some (.int x1), some (.int x2), some (.int x3), some (.int x4), some (.int x5), none, none, none, none, none, none, none, none, none, none, none]) (st1 := [.ref 79, .int x5]) (h1 := h) (P := True) (by decide +kernel) rfl trivial ?_
  refine q_callV ok_R_all (as := []) (st := [.int x5]) ⟨wd_151, wd_152, wd_153, wd_7, ds_R_all, Nat.le_of_ble_eq_true rfl, Nat.le_of_ble_eq_true rfl⟩ (s_R_all ) rfl ⟨rfl, rfl⟩ (ci := 12) rfl (fun v hv => by cases hv; rfl) (Nat.le_of_ble_eq_true rfl) (by decide +kernel) rfl ?_
  refine q_icmp_ge (off := 205) (tgt := 235) (by decide +kernel) (by decide) (fun c_1 => ?_) (fun c_1 => ?_)
  · have e := it_t c_1 e
    refine sl_ok ok_R_depthOf [.iload 4] (pc1 := 237) (ls1 := [some (.ref 79), some (.int x1), some (.int x2), some (.int x3), some (.int x4), some (.int x5), none, none, none, none, none, none, none, none, none, none, none]) (st1 := [.int x4]) (h1 := h) (P := True) (by decide +kernel) rfl trivial ?_
    cases e
    exact q_iret rfl k.1 k.2 (by decide +kernel)
  · have e := it_f c_1 e
    refine sl_ok ok_R_depthOf [.aload_n 0, .iload 5] (pc1 := 36) (ls1 := [some (.ref 79), some (.int x1), some (.int x2), some (.int x3), some (.int x4), some (.int x5), none, none, none, none, none, none, none, none, none, none, none]) (st1 := [.int x5, .ref 79]) (h1 := h) (P := True) (by decide +kernel) rfl trivial ?_
    obtain ⟨v_2, e_3, e⟩ := bi_s e
    refine q_callV ok_R_x (as := [.int x5]) (st := []) ⟨wd_154, wd_155, wd_156, wd_7, ds_R_x, Nat.le_of_ble_eq_true rfl, Nat.le_of_ble_eq_true rfl⟩ (s_R_x  e_3) rfl ⟨rfl, rfl⟩ (ci := 12) rfl (fun v hv => by cases hv; rfl) (Nat.le_of_ble_eq_true rfl) (by decide +kernel) rfl ?_
    refine sl_ok ok_R_depthOf [.iload_n 1, .isub, .istore 6, .aload_n 0, .iload 5] (pc1 := 46) (ls1 := [some (.ref 79), some (.int x1), some (.int x2), some (.int x3), some (.int x4), some (.int x5), some (.int (v_2 - x1)), none, none, none, none, none, none, none, none, none, none]) (st1 := [.int x5, .ref 79]) (h1 := h) (P := True) (by decide +kernel) rfl trivial ?_
    obtain ⟨v_4, e_5, e⟩ := bi_s e
    refine q_callV ok_R_y (as := [.int x5]) (st := []) ⟨wd_157, wd_158, wd_159, wd_7, ds_R_y, Nat.le_of_ble_eq_true rfl, Nat.le_of_ble_eq_true rfl⟩ (s_R_y  e_5) rfl ⟨rfl, rfl⟩ (ci := 12) rfl (fun v hv => by cases hv; rfl) (Nat.le_of_ble_eq_true rfl) (by decide +kernel) rfl ?_
    refine sl_ok ok_R_depthOf [.iload_n 2, .isub, .istore 7, .iload 6] (pc1 := 55) (ls1 := [some (.ref 79), some (.int x1), some (.int x2), some (.int x3), some (.int x4), some (.int x5), some (.int (v_2 - x1)), some (.int (v_4 - x2)), none, none, none, none, none, none, none, none, none]) (st1 := [.int (v_2 - x1)]) (h1 := h) (P := True) (by decide +kernel) rfl trivial ?_
    refine q_if_ne (off := 11) (tgt := 66) (by decide +kernel) (by decide) (fun c_6 => ?_) (fun c_6 => ?_)
    · have e := it_f c_6 e
      exact b_R_depthOf_J3  e k
    · have e := it_t c_6 e
      refine sl_ok ok_R_depthOf [.iload 7] (pc1 := 60) (ls1 := [some (.ref 79), some (.int x1), some (.int x2), some (.int x3), some (.int x4), some (.int x5), some (.int (v_2 - x1)), some (.int (v_4 - x2)), none, none, none, none, none, none, none, none, none]) (st1 := [.int (v_4 - x2)]) (h1 := h) (P := True) (by decide +kernel) rfl trivial ?_
      refine q_if_ne (off := 6) (tgt := 66) (by decide +kernel) (by decide) (fun c_7 => ?_) (fun c_7 => ?_)
      · have e := it_f c_7 e
        exact b_R_depthOf_J3  e k
      · have e := it_t c_7 e
        refine q_goto (off := 166) (tgt := 229) (by decide) (by decide +kernel) ?_
        refine sl_ok ok_R_depthOf [.iinc 5 1] (pc1 := 232) (ls1 := [some (.ref 79), some (.int x1), some (.int x2), some (.int x3), some (.int x4), some (.int (x5 + 1)), some (.int (v_2 - x1)), some (.int (v_4 - x2)), none, none, none, none, none, none, none, none, none]) (st1 := []) (h1 := h) (P := True) (by decide +kernel) rfl trivial ?_
        refine q_goto (off := -208) (tgt := 24) (by decide) (by decide +kernel) ?_
        cases e
        refine Go.sb [some (.ref 79), some (.int x1), some (.int x2), some (.int x3), some (.int x4), some (.int (x5 + 1)), none, none, none, none, none, none, none, none, none, none, none] (And.intro rfl (And.intro rfl (And.intro rfl (And.intro rfl (And.intro rfl (And.intro rfl trivial)))))) ?_
        exact k
def f_R_depthOf_J1 (x1 : Int32) (x2 : Int32) (t0 : Int32) (h : pH) : Option Int32 :=
  lp (fun s => f_R_depthOf_L2 x1 x2 t0 h s.1 s.2) lpN ((f_R_all h), 0)
set_option maxHeartbeats 4000000 in
theorem b_R_depthOf_J1 {E : pE} {r : Option Value} {hr : pH} {x1 : Int32} {x2 : Int32} {t0 : Int32} {h : pH}  {b : Int32} (e : f_R_depthOf_J1 x1 x2 t0 h = some b) (k : (fun v : Int32 => r = some (.int v) ∧ hr = h) b) : Go E M_R_depthOf 14 [some (.ref 79), some (.int x1), some (.int x2), none, none, none, none, none, none, none, none, none, none, none, none, none, none] [.int t0] h r hr := by
  unfold f_R_depthOf_J1 at e
  refine sl_ok ok_R_depthOf [.istore_n 3, .aload_n 0] (pc1 := 16) (ls1 := [some (.ref 79), some (.int x1), some (.int x2), some (.int t0), none, none, none, none, none, none, none, none, none, none, none, none, none]) (st1 := [.ref 79]) (h1 := h) (P := True) (by decide +kernel) rfl trivial ?_
  refine q_callV ok_R_all (as := []) (st := []) ⟨wd_151, wd_152, wd_153, wd_7, ds_R_all, Nat.le_of_ble_eq_true rfl, Nat.le_of_ble_eq_true rfl⟩ (s_R_all ) rfl ⟨rfl, rfl⟩ (ci := 12) rfl (fun v hv => by cases hv; rfl) (Nat.le_of_ble_eq_true rfl) (by decide +kernel) rfl ?_
  refine sl_ok ok_R_depthOf [.istore 4, .iconst 0, .istore 5] (pc1 := 24) (ls1 := [some (.ref 79), some (.int x1), some (.int x2), some (.int t0), some (.int (f_R_all h)), some (.int 0), none, none, none, none, none, none, none, none, none, none, none]) (st1 := []) (h1 := h) (P := True) (by decide +kernel) rfl trivial ?_
  exact lp_in e (fun s => Go E M_R_depthOf 24 [some (.ref 79), some (.int x1), some (.int x2), some (.int t0), some (.int s.1), some (.int s.2), none, none, none, none, none, none, none, none, none, none, none] [] h r hr) (fun v : Int32 => r = some (.int v) ∧ hr = h) (fun _ _ e k => b_R_depthOf_L2  e k) k
def f_R_depthOf (x1 : Int32) (x2 : Int32) (h : pH) : Option Int32 :=
  (f_R_pointAt x1 x2 h).bind fun v_1 =>
  if v_1 < 0 then
    f_R_depthOf_J1 x1 x2 0 h
  else
    f_R_depthOf_J1 x1 x2 1 h
set_option maxHeartbeats 4000000 in
theorem b_R_depthOf {E : pE} {r : Option Value} {hr : pH} {x1 : Int32} {x2 : Int32} {h : pH}  {b : Int32} (e : f_R_depthOf x1 x2 h = some b) (k : (fun v : Int32 => r = some (.int v) ∧ hr = h) b) : Go E M_R_depthOf 0 [some (.ref 79), some (.int x1), some (.int x2), none, none, none, none, none, none, none, none, none, none, none, none, none, none] [] h r hr := by
  unfold f_R_depthOf at e
  refine sl_ok ok_R_depthOf [.aload_n 0, .iload_n 1, .iload_n 2] (pc1 := 3) (ls1 := [some (.ref 79), some (.int x1), some (.int x2), none, none, none, none, none, none, none, none, none, none, none, none, none, none]) (st1 := [.int x2, .int x1, .ref 79]) (h1 := h) (P := True) (by decide +kernel) rfl trivial ?_
  obtain ⟨v_1, e_2, e⟩ := bi_s e
  refine q_callV ok_R_pointAt (as := [.int x1, .int x2]) (st := []) ⟨wd_160, wd_161, wd_162, wd_7, ds_R_pointAt, Nat.le_of_ble_eq_true rfl, Nat.le_of_ble_eq_true rfl⟩ (s_R_pointAt  e_2) rfl ⟨rfl, rfl⟩ (ci := 12) rfl (fun v hv => by cases hv; rfl) (Nat.le_of_ble_eq_true rfl) (by decide +kernel) rfl ?_
  refine q_if_lt (off := 7) (tgt := 13) (by decide +kernel) (by decide) (fun c_3 => ?_) (fun c_3 => ?_)
  · have e := it_t c_3 e
    refine sl_ok ok_R_depthOf [.iconst 0] (pc1 := 14) (ls1 := [some (.ref 79), some (.int x1), some (.int x2), none, none, none, none, none, none, none, none, none, none, none, none, none, none]) (st1 := [.int 0]) (h1 := h) (P := True) (by decide +kernel) rfl trivial ?_
    exact b_R_depthOf_J1  e k
  · have e := it_f c_3 e
    refine sl_ok ok_R_depthOf [.iconst 1] (pc1 := 10) (ls1 := [some (.ref 79), some (.int x1), some (.int x2), none, none, none, none, none, none, none, none, none, none, none, none, none, none]) (st1 := [.int 1]) (h1 := h) (P := True) (by decide +kernel) rfl trivial ?_
    refine q_goto (off := 4) (tgt := 14) (by decide) (by decide +kernel) ?_
    exact b_R_depthOf_J1  e k
theorem s_R_depthOf {E : pE} {x1 : Int32} {x2 : Int32} {h : pH}  {v : Int32} (e : f_R_depthOf x1 x2 h = some v) : Ct E M_R_depthOf [.ref 79, .int x1, .int x2] h (some (.int v)) h :=
  Ct_of ok_R_depthOf [some (.ref 79), some (.int x1), some (.int x2), none, none, none, none, none, none, none, none, none, none, none, none, none, none] (Nat.le_of_ble_eq_true rfl) rfl (b_R_depthOf  e ⟨rfl, rfl⟩)
