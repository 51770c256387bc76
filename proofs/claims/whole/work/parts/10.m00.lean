def f_Tape_push_L1 (x1 : Int32) (x2 : Int32) (h : pH) : Option ((Int32 × pH) ⊕ pH) :=
  if x2 < 0 then
    some (.inr h)
  else
    if 2000 ≤ (hI h 1 1) then
      some (.inl ((x2 + (-8)), h))
    else
      if (hI h 1 1) < 0 ∨ 2000 ≤ (hI h 1 1).toNatClampNeg then none else
      some (.inl ((x2 + (-8)), (sI (sI h 2 (hI h 1 1).toNatClampNeg ((jshr x1 x2) &&& 255)) 1 1 ((hI (sI h 2 (hI h 1 1).toNatClampNeg ((jshr x1 x2) &&& 255)) 1 1) + 1))))
set_option maxHeartbeats 4000000 in
theorem b_Tape_push_L1 {E : pE} {r : Option Value} {hr : pH} {x1 : Int32} {x2 : Int32} {h : pH}  {b : ((Int32 × pH) ⊕ pH)} (e : f_Tape_push_L1 x1 x2 h = some b) (k : (Sum.elim (fun s : (Int32 × pH) => Go E M_Tape_push 3 [some (.ref 1), some (.int x1), some (.int s.1)] [] s.2 r hr) (fun v : pH => r = none ∧ hr = v)) b) : Go E M_Tape_push 3 [some (.ref 1), some (.int x1), some (.int x2)] [] h r hr := by
  unfold f_Tape_push_L1 at e
  refine sl_ok ok_Tape_push [.iload_n 2] (pc1 := 4) (ls1 := [some (.ref 1), some (.int x1), some (.int x2)]) (st1 := [.int x2]) (h1 := h) (P := True) (by decide +kernel) rfl trivial ?_
  refine q_if_lt (off := 45) (tgt := 49) (by decide +kernel) (by decide) (fun c_1 => ?_) (fun c_1 => ?_)
  · have e := it_t c_1 e
    cases e
    exact q_vret rfl k.1 k.2 (by decide +kernel)
  · have e := it_f c_1 e
    refine sl_ok ok_Tape_push [.aload_n 0, .getfield 15, .sipush 2000] (pc1 := 14) (ls1 := [some (.ref 1), some (.int x1), some (.int x2)]) (st1 := [.int 2000, .int (hI h 1 1)]) (h1 := h) (P := (ak 1 = 0 ∧ cx 1 = 9) ∧ True) (by decide +kernel) rfl ⟨⟨rfl, rfl⟩, trivial⟩ ?_
    refine q_icmp_ge (off := 29) (tgt := 43) (by decide +kernel) (by decide) (fun c_2 => ?_) (fun c_2 => ?_)
    · have e := it_t c_2 e
      refine sl_ok ok_Tape_push [.iinc 2 (-8)] (pc1 := 46) (ls1 := [some (.ref 1), some (.int x1), some (.int (x2 + (-8)))]) (st1 := []) (h1 := h) (P := True) (by decide +kernel) rfl trivial ?_
      refine q_goto (off := -43) (tgt := 3) (by decide) (by decide +kernel) ?_
      cases e
      exact k
    · have e := it_f c_2 e
      obtain ⟨g_3, e⟩ := it_g e
      refine sl_ok ok_Tape_push [.aload_n 0, .getfield 9, .aload_n 0, .getfield 15, .iload_n 1, .iload_n 2, .ishr, .sipush 255, .iand, .iastore, .aload_n 0, .dup, .getfield 15, .iconst 1, .iadd, .putfield 15, .iinc 2 (-8)] (pc1 := 46) (ls1 := [some (.ref 1), some (.int x1), some (.int (x2 + (-8)))]) (st1 := []) (h1 := (sI (sI h 2 (hI h 1 1).toNatClampNeg ((jshr x1 x2) &&& 255)) 1 1 ((hI (sI h 2 (hI h 1 1).toNatClampNeg ((jshr x1 x2) &&& 255)) 1 1) + 1))) (P := (ak 1 = 0 ∧ cx 1 = 9) ∧ (ak 1 = 0 ∧ cx 1 = 9) ∧ (ak 2 = 1 ∧ ¬ ((hI h 1 1) < 0 ∨ cx 2 ≤ (hI h 1 1).toNatClampNeg)) ∧ (ak 1 = 0 ∧ cx 1 = 9) ∧ (ak 1 = 0 ∧ cx 1 = 9) ∧ True) (by decide +kernel) rfl ⟨⟨rfl, rfl⟩, ⟨rfl, rfl⟩, ⟨rfl, g_3⟩, ⟨rfl, rfl⟩, ⟨rfl, rfl⟩, trivial⟩ ?_
      refine q_goto (off := -43) (tgt := 3) (by decide) (by decide +kernel) ?_
      cases e
      exact k
def f_Tape_push (x1 : Int32) (h : pH) : Option pH :=
  lp (fun s => f_Tape_push_L1 x1 s.1 s.2) lpN (24, h)
set_option maxHeartbeats 4000000 in
theorem b_Tape_push {E : pE} {r : Option Value} {hr : pH} {x1 : Int32} {h : pH}  {b : pH} (e : f_Tape_push x1 h = some b) (k : (fun v : pH => r = none ∧ hr = v) b) : Go E M_Tape_push 0 [some (.ref 1), some (.int x1), none] [] h r hr := by
  unfold f_Tape_push at e
  refine sl_ok ok_Tape_push [.bipush 24, .istore_n 2] (pc1 := 3) (ls1 := [some (.ref 1), some (.int x1), some (.int 24)]) (st1 := []) (h1 := h) (P := True) (by decide +kernel) rfl trivial ?_
  exact lp_in e (fun s => Go E M_Tape_push 3 [some (.ref 1), some (.int x1), some (.int s.1)] [] s.2 r hr) (fun v : pH => r = none ∧ hr = v) (fun _ _ e k => b_Tape_push_L1  e k) k
theorem s_Tape_push {E : pE} {x1 : Int32} {h : pH}  {v : pH} (e : f_Tape_push x1 h = some v) : Ct E M_Tape_push [.ref 1, .int x1] h none v :=
  Ct_of ok_Tape_push [some (.ref 1), some (.int x1), none] (Nat.le_of_ble_eq_true rfl) rfl (b_Tape_push  e ⟨rfl, rfl⟩)
def f_C_feed (x1 : Int32) (x2 : Int32) (x3 : Int32) (x4 : Int32) (x5 : Int32) (h : pH) : Option (Int32 × pH) :=
  if (hI h 1 1) ≤ 1980 then
    (f_Tape_push x1 h).bind fun v_2 =>
    (f_Tape_push x2 v_2).bind fun v_4 =>
    (f_Tape_push x3 v_4).bind fun v_6 =>
    (f_Tape_push x4 v_6).bind fun v_8 =>
    (f_Tape_push x5 v_8).bind fun v_10 =>
    some ((hI v_10 1 1), v_10)
  else
    some ((-1), h)
set_option maxHeartbeats 4000000 in
theorem b_C_feed {E : pE} {r : Option Value} {hr : pH} {x1 : Int32} {x2 : Int32} {x3 : Int32} {x4 : Int32} {x5 : Int32} {h : pH}  {b : (Int32 × pH)} (e : f_C_feed x1 x2 x3 x4 x5 h = some b) (k : (fun v : (Int32 × pH) => r = some (.int v.1) ∧ hr = v.2) b) : Go E M_C_feed 0 [some (.ref 0), some (.int x1), some (.int x2), some (.int x3), some (.int x4), some (.int x5)] [] h r hr := by
  unfold f_C_feed at e
  refine sl_ok ok_C_feed [.aload_n 0, .getfield 10, .getfield 93, .sipush 1980] (pc1 := 10) (ls1 := [some (.ref 0), some (.int x1), some (.int x2), some (.int x3), some (.int x4), some (.int x5)]) (st1 := [.int 1980, .int (hI h 1 1)]) (h1 := h) (P := (ak 0 = 0 ∧ cx 0 = 11) ∧ (ak 1 = 0 ∧ cx 1 = 9) ∧ True) (by decide +kernel) rfl ⟨⟨rfl, rfl⟩, ⟨rfl, rfl⟩, trivial⟩ ?_
  refine q_icmp_le (off := 5) (tgt := 15) (by decide +kernel) (by decide) (fun c_1 => ?_) (fun c_1 => ?_)
  · have e := it_t c_1 e
    refine sl_ok ok_C_feed [.aload_n 0, .getfield 10, .iload_n 1] (pc1 := 20) (ls1 := [some (.ref 0), some (.int x1), some (.int x2), some (.int x3), some (.int x4), some (.int x5)]) (st1 := [.int x1, .ref 1]) (h1 := h) (P := (ak 0 = 0 ∧ cx 0 = 11) ∧ True) (by decide +kernel) rfl ⟨⟨rfl, rfl⟩, trivial⟩ ?_
    obtain ⟨v_2, e_3, e⟩ := bi_s e
    refine q_callV ok_Tape_push (as := [.int x1]) (st := []) ⟨wd_0, wd_1, wd_2, wd_3, ds_Tape_push, Nat.le_of_ble_eq_true rfl, Nat.le_of_ble_eq_true rfl⟩ (s_Tape_push  e_3) rfl ⟨rfl, rfl⟩ (ci := 9) rfl (fun v hv => by cases hv) (Nat.le_of_ble_eq_true rfl) (by decide +kernel) rfl ?_
    refine sl_ok ok_C_feed [.aload_n 0, .getfield 10, .iload_n 2] (pc1 := 28) (ls1 := [some (.ref 0), some (.int x1), some (.int x2), some (.int x3), some (.int x4), some (.int x5)]) (st1 := [.int x2, .ref 1]) (h1 := v_2) (P := (ak 0 = 0 ∧ cx 0 = 11) ∧ True) (by decide +kernel) rfl ⟨⟨rfl, rfl⟩, trivial⟩ ?_
    obtain ⟨v_4, e_5, e⟩ := bi_s e
    refine q_callV ok_Tape_push (as := [.int x2]) (st := []) ⟨wd_0, wd_1, wd_2, wd_3, ds_Tape_push, Nat.le_of_ble_eq_true rfl, Nat.le_of_ble_eq_true rfl⟩ (s_Tape_push  e_5) rfl ⟨rfl, rfl⟩ (ci := 9) rfl (fun v hv => by cases hv) (Nat.le_of_ble_eq_true rfl) (by decide +kernel) rfl ?_
    refine sl_ok ok_C_feed [.aload_n 0, .getfield 10, .iload_n 3] (pc1 := 36) (ls1 := [some (.ref 0), some (.int x1), some (.int x2), some (.int x3), some (.int x4), some (.int x5)]) (st1 := [.int x3, .ref 1]) (h1 := v_4) (P := (ak 0 = 0 ∧ cx 0 = 11) ∧ True) (by decide +kernel) rfl ⟨⟨rfl, rfl⟩, trivial⟩ ?_
    obtain ⟨v_6, e_7, e⟩ := bi_s e
    refine q_callV ok_Tape_push (as := [.int x3]) (st := []) ⟨wd_0, wd_1, wd_2, wd_3, ds_Tape_push, Nat.le_of_ble_eq_true rfl, Nat.le_of_ble_eq_true rfl⟩ (s_Tape_push  e_7) rfl ⟨rfl, rfl⟩ (ci := 9) rfl (fun v hv => by cases hv) (Nat.le_of_ble_eq_true rfl) (by decide +kernel) rfl ?_
    refine sl_ok ok_C_feed [.aload_n 0, .getfield 10, .iload 4] (pc1 := 45) (ls1 := [some (.ref 0), some (.int x1), some (.int x2), some (.int x3), some (.int x4), some (.int x5)]) (st1 := [.int x4, .ref 1]) (h1 := v_6) (P := (ak 0 = 0 ∧ cx 0 = 11) ∧ True) (by decide +kernel) rfl ⟨⟨rfl, rfl⟩, trivial⟩ ?_
    obtain ⟨v_8, e_9, e⟩ := bi_s e
    refine q_callV ok_Tape_push (as := [.int x4]) (st := []) ⟨wd_0, wd_1, wd_2, wd_3, ds_Tape_push, Nat.le_of_ble_eq_true rfl, Nat.le_of_ble_eq_true rfl⟩ (s_Tape_push  e_9) rfl ⟨rfl, rfl⟩ (ci := 9) rfl (fun v hv => by cases hv) (Nat.le_of_ble_eq_true rfl) (by decide +kernel) rfl ?_
    refine sl_ok ok_C_feed [.aload_n 0, .getfield 10, .iload 5] (pc1 := 54) (ls1 := [some (.ref 0), some (.int x1), some (.int x2), some (.int x3), some (.int x4), some (.int x5)]) (st1 := [.int x5, .ref 1]) (h1 := v_8) (P := (ak 0 = 0 ∧ cx 0 = 11) ∧ True) (by decide +kernel) rfl ⟨⟨rfl, rfl⟩, trivial⟩ ?_
    obtain ⟨v_10, e_11, e⟩ := bi_s e
    refine q_callV ok_Tape_push (as := [.int x5]) (st := []) ⟨wd_0, wd_1, wd_2, wd_3, ds_Tape_push, Nat.le_of_ble_eq_true rfl, Nat.le_of_ble_eq_true rfl⟩ (s_Tape_push  e_11) rfl ⟨rfl, rfl⟩ (ci := 9) rfl (fun v hv => by cases hv) (Nat.le_of_ble_eq_true rfl) (by decide +kernel) rfl ?_
    refine sl_ok ok_C_feed [.aload_n 0, .getfield 10, .getfield 93] (pc1 := 64) (ls1 := [some (.ref 0), some (.int x1), some (.int x2), some (.int x3), some (.int x4), some (.int x5)]) (st1 := [.int (hI v_10 1 1)]) (h1 := v_10) (P := (ak 0 = 0 ∧ cx 0 = 11) ∧ (ak 1 = 0 ∧ cx 1 = 9) ∧ True) (by decide +kernel) rfl ⟨⟨rfl, rfl⟩, ⟨rfl, rfl⟩, trivial⟩ ?_
    cases e
    exact q_iret rfl k.1 k.2 (by decide +kernel)
  · have e := it_f c_1 e
    refine sl_ok ok_C_feed [.iconst (-1)] (pc1 := 14) (ls1 := [some (.ref 0), some (.int x1), some (.int x2), some (.int x3), some (.int x4), some (.int x5)]) (st1 := [.int (-1)]) (h1 := h) (P := True) (by decide +kernel) rfl trivial ?_
    cases e
    exact q_iret rfl k.1 k.2 (by decide +kernel)
theorem s_C_feed {E : pE} {x1 : Int32} {x2 : Int32} {x3 : Int32} {x4 : Int32} {x5 : Int32} {h : pH}  {v : (Int32 × pH)} (e : f_C_feed x1 x2 x3 x4 x5 h = some v) : Ct E M_C_feed [.ref 0, .int x1, .int x2, .int x3, .int x4, .int x5] h (some (.int v.1)) v.2 :=
  Ct_of ok_C_feed [some (.ref 0), some (.int x1), some (.int x2), some (.int x3), some (.int x4), some (.int x5)] (Nat.le_of_ble_eq_true rfl) rfl (b_C_feed  e ⟨rfl, rfl⟩)
def f_R_lays1_L1 (x1 : Int32) (x2 : Int32) (h : pH) : Option ((Int32 × pH) ⊕ pH) :=
  if x2 < 0 then
    some (.inr h)
  else
    if (hI h 79 2) < 0 ∨ 2000 ≤ (hI h 79 2).toNatClampNeg then none else
    some (.inl ((x2 + (-8)), (sI (sI h 80 (hI h 79 2).toNatClampNeg (vp_nar .byte ((Int32.toInt8 (jshr x1 x2)).toInt32))) 79 2 ((hI (sI h 80 (hI h 79 2).toNatClampNeg (vp_nar .byte ((Int32.toInt8 (jshr x1 x2)).toInt32))) 79 2) + 1))))
set_option maxHeartbeats 4000000 in
theorem b_R_lays1_L1 {E : pE} {r : Option Value} {hr : pH} {x1 : Int32} {x2 : Int32} {h : pH}  {b : ((Int32 × pH) ⊕ pH)} (e : f_R_lays1_L1 x1 x2 h = some b) (k : (Sum.elim (fun s : (Int32 × pH) => Go E M_R_lays1 3 [some (.ref 79), some (.int x1), some (.int s.1)] [] s.2 r hr) (fun v : pH => r = none ∧ hr = v)) b) : Go E M_R_lays1 3 [some (.ref 79), some (.int x1), some (.int x2)] [] h r hr := by
  unfold f_R_lays1_L1 at e
  refine sl_ok ok_R_lays1 [.iload_n 2] (pc1 := 4) (ls1 := [some (.ref 79), some (.int x1), some (.int x2)]) (st1 := [.int x2]) (h1 := h) (P := True) (by decide +kernel) rfl trivial ?_
  refine q_if_lt (off := 32) (tgt := 36) (by decide +kernel) (by decide) (fun c_1 => ?_) (fun c_1 => ?_)
  · have e := it_t c_1 e
    cases e
    exact q_vret rfl k.1 k.2 (by decide +kernel)
  · have e := it_f c_1 e
    obtain ⟨g_2, e⟩ := it_g e
    refine sl_ok ok_R_lays1 [.aload_n 0, .getfield 13, .aload_n 0, .getfield 93, .iload_n 1, .iload_n 2, .ishr, .i2b, .bastore, .aload_n 0, .dup, .getfield 93, .iconst 1, .iadd, .putfield 93, .iinc 2 (-8)] (pc1 := 33) (ls1 := [some (.ref 79), some (.int x1), some (.int (x2 + (-8)))]) (st1 := []) (h1 := (sI (sI h 80 (hI h 79 2).toNatClampNeg (vp_nar .byte ((Int32.toInt8 (jshr x1 x2)).toInt32))) 79 2 ((hI (sI h 80 (hI h 79 2).toNatClampNeg (vp_nar .byte ((Int32.toInt8 (jshr x1 x2)).toInt32))) 79 2) + 1))) (P := (ak 79 = 0 ∧ cx 79 = 12) ∧ (ak 79 = 0 ∧ cx 79 = 12) ∧ (¬ ((hI h 79 2) < 0 ∨ cx 80 ≤ (hI h 79 2).toNatClampNeg)) ∧ (ak 79 = 0 ∧ cx 79 = 12) ∧ (ak 79 = 0 ∧ cx 79 = 12) ∧ True) (by decide +kernel) rfl ⟨⟨rfl, rfl⟩, ⟨rfl, rfl⟩, g_2, ⟨rfl, rfl⟩, ⟨rfl, rfl⟩, trivial⟩ ?_
    refine q_goto (off := -30) (tgt := 3) (by decide) (by decide +kernel) ?_
    cases e
    exact k
def f_R_lays1 (x1 : Int32) (h : pH) : Option pH :=
  lp (fun s => f_R_lays1_L1 x1 s.1 s.2) lpN (24, h)
set_option maxHeartbeats 4000000 in
theorem b_R_lays1 {E : pE} {r : Option Value} {hr : pH} {x1 : Int32} {h : pH}  {b : pH} (e : f_R_lays1 x1 h = some b) (k : (fun v : pH => r = none ∧ hr = v) b) : Go E M_R_lays1 0 [some (.ref 79), some (.int x1), none] [] h r hr := by
  unfold f_R_lays1 at e
  refine sl_ok ok_R_lays1 [.bipush 24, .istore_n 2] (pc1 := 3) (ls1 := [some (.ref 79), some (.int x1), some (.int 24)]) (st1 := []) (h1 := h) (P := True) (by decide +kernel) rfl trivial ?_
  exact lp_in e (fun s => Go E M_R_lays1 3 [some (.ref 79), some (.int x1), some (.int s.1)] [] s.2 r hr) (fun v : pH => r = none ∧ hr = v) (fun _ _ e k => b_R_lays1_L1  e k) k
theorem s_R_lays1 {E : pE} {x1 : Int32} {h : pH}  {v : pH} (e : f_R_lays1 x1 h = some v) : Ct E M_R_lays1 [.ref 79, .int x1] h none v :=
  Ct_of ok_R_lays1 [some (.ref 79), some (.int x1), none] (Nat.le_of_ble_eq_true rfl) rfl (b_R_lays1  e ⟨rfl, rfl⟩)
def f_R_feed (x1 : Int32) (x2 : Int32) (x3 : Int32) (x4 : Int32) (x5 : Int32) (h : pH) : Option (Int32 × pH) :=
  if ((hI h 79 2) + 20) ≤ 2000 then
    (f_R_lays1 x1 h).bind fun v_2 =>
    (f_R_lays1 x2 v_2).bind fun v_4 =>
    (f_R_lays1 x3 v_4).bind fun v_6 =>
    (f_R_lays1 x4 v_6).bind fun v_8 =>
    (f_R_lays1 x5 v_8).bind fun v_10 =>
    some ((hI v_10 79 2), v_10)
  else
    some ((-1), h)
set_option maxHeartbeats 4000000 in
theorem b_R_feed {E : pE} {r : Option Value} {hr : pH} {x1 : Int32} {x2 : Int32} {x3 : Int32} {x4 : Int32} {x5 : Int32} {h : pH}  {b : (Int32 × pH)} (e : f_R_feed x1 x2 x3 x4 x5 h = some b) (k : (fun v : (Int32 × pH) => r = some (.int v.1) ∧ hr = v.2) b) : Go E M_R_feed 0 [some (.ref 79), some (.int x1), some (.int x2), some (.int x3), some (.int x4), some (.int x5)] [] h r hr := by
  unfold f_R_feed at e
  refine sl_ok ok_R_feed [.aload_n 0, .getfield 93, .bipush 20, .iadd, .sipush 2000] (pc1 := 10) (ls1 := [some (.ref 79), some (.int x1), some (.int x2), some (.int x3), some (.int x4), some (.int x5)]) (st1 := [.int 2000, .int ((hI h 79 2) + 20)]) (h1 := h) (P := (ak 79 = 0 ∧ cx 79 = 12) ∧ True) (by decide +kernel) rfl ⟨⟨rfl, rfl⟩, trivial⟩ ?_
  refine q_icmp_le (off := 5) (tgt := 15) (by decide +kernel) (by decide) (fun c_1 => ?_) (fun c_1 => ?_)
  · have e := it_t c_1 e
    refine sl_ok ok_R_feed [.aload_n 0, .iload_n 1] (pc1 := 17) (ls1 := [some (.ref 79), some (.int x1), some (.int x2), some (.int x3), some (.int x4), some (.int x5)]) (st1 := [.int x1, .ref 79]) (h1 := h) (P := True) (by decide +kernel) rfl trivial ?_
    obtain ⟨v_2, e_3, e⟩ := bi_s e
    refine q_callV ok_R_lays1 (as := [.int x1]) (st := []) ⟨wd_4, wd_5, wd_6, wd_7, ds_R_lays1, Nat.le_of_ble_eq_true rfl, Nat.le_of_ble_eq_true rfl⟩ (s_R_lays1  e_3) rfl ⟨rfl, rfl⟩ (ci := 12) rfl (fun v hv => by cases hv) (Nat.le_of_ble_eq_true rfl) (by decide +kernel) rfl ?_
    refine sl_ok ok_R_feed [.aload_n 0, .iload_n 2] (pc1 := 22) (ls1 := [some (.ref 79), some (.int x1), some (.int x2), some (.int x3), some (.int x4), some (.int x5)]) (st1 := [.int x2, .ref 79]) (h1 := v_2) (P := True) (by decide +kernel) rfl trivial ?_
    obtain ⟨v_4, e_5, e⟩ := bi_s e
    refine q_callV ok_R_lays1 (as := [.int x2]) (st := []) ⟨wd_4, wd_5, wd_6, wd_7, ds_R_lays1, Nat.le_of_ble_eq_true rfl, Nat.le_of_ble_eq_true rfl⟩ (s_R_lays1  e_5) rfl ⟨rfl, rfl⟩ (ci := 12) rfl (fun v hv => by cases hv) (Nat.le_of_ble_eq_true rfl) (by decide +kernel) rfl ?_
    refine sl_ok ok_R_feed [.aload_n 0, .iload_n 3] (pc1 := 27) (ls1 := [some (.ref 79), some (.int x1), some (.int x2), some (.int x3), some (.int x4), some (.int x5)]) (st1 := [.int x3, .ref 79]) (h1 := v_4) (P := True) (by decide +kernel) rfl trivial ?_
    obtain ⟨v_6, e_7, e⟩ := bi_s e
    refine q_callV ok_R_lays1 (as := [.int x3]) (st := []) ⟨wd_4, wd_5, wd_6, wd_7, ds_R_lays1, Nat.le_of_ble_eq_true rfl, Nat.le_of_ble_eq_true rfl⟩ (s_R_lays1  e_7) rfl ⟨rfl, rfl⟩ (ci := 12) rfl (fun v hv => by cases hv) (Nat.le_of_ble_eq_true rfl) (by decide +kernel) rfl ?_
    refine sl_ok ok_R_feed [.aload_n 0, .iload 4] (pc1 := 33) (ls1 := [some (.ref 79), some (.int x1), some (.int x2), some (.int x3), some (.int x4), some (.int x5)]) (st1 := [.int x4, .ref 79]) (h1 := v_6) (P := True) (by decide +kernel) rfl trivial ?_
    obtain ⟨v_8, e_9, e⟩ := bi_s e
    refine q_callV ok_R_lays1 (as := [.int x4]) (st := []) ⟨wd_4, wd_5, wd_6, wd_7, ds_R_lays1, Nat.le_of_ble_eq_true rfl, Nat.le_of_ble_eq_true rfl⟩ (s_R_lays1  e_9) rfl ⟨rfl, rfl⟩ (ci := 12) rfl (fun v hv => by cases hv) (Nat.le_of_ble_eq_true rfl) (by decide +kernel) rfl ?_
    refine sl_ok ok_R_feed [.aload_n 0, .iload 5] (pc1 := 39) (ls1 := [some (.ref 79), some (.int x1), some (.int x2), some (.int x3), some (.int x4), some (.int x5)]) (st1 := [.int x5, .ref 79]) (h1 := v_8) (P := True) (by decide +kernel) rfl trivial ?_
    obtain ⟨v_10, e_11, e⟩ := bi_s e
    refine q_callV ok_R_lays1 (as := [.int x5]) (st := []) ⟨wd_4, wd_5, wd_6, wd_7, ds_R_lays1, Nat.le_of_ble_eq_true rfl, Nat.le_of_ble_eq_true rfl⟩ (s_R_lays1  e_11) rfl ⟨rfl, rfl⟩ (ci := 12) rfl (fun v hv => by cases hv) (Nat.le_of_ble_eq_true rfl) (by decide +kernel) rfl ?_
    refine sl_ok ok_R_feed [.aload_n 0, .getfield 93] (pc1 := 46) (ls1 := [some (.ref 79), some (.int x1), some (.int x2), some (.int x3), some (.int x4), some (.int x5)]) (st1 := [.int (hI v_10 79 2)]) (h1 := v_10) (P := (ak 79 = 0 ∧ cx 79 = 12) ∧ True) (by decide +kernel) rfl ⟨⟨rfl, rfl⟩, trivial⟩ ?_
    cases e
    exact q_iret rfl k.1 k.2 (by decide +kernel)
  · have e := it_f c_1 e
    refine sl_ok ok_R_feed [.iconst (-1)] (pc1 := 14) (ls1 := [some (.ref 79), some (.int x1), some (.int x2), some (.int x3), some (.int x4), some (.int x5)]) (st1 := [.int (-1)]) (h1 := h) (P := True) (by decide +kernel) rfl trivial ?_
    cases e
    exact q_iret rfl k.1 k.2 (by decide +kernel)
theorem s_R_feed {E : pE} {x1 : Int32} {x2 : Int32} {x3 : Int32} {x4 : Int32} {x5 : Int32} {h : pH}  {v : (Int32 × pH)} (e : f_R_feed x1 x2 x3 x4 x5 h = some v) : Ct E M_R_feed [.ref 79, .int x1, .int x2, .int x3, .int x4, .int x5] h (some (.int v.1)) v.2 :=
  Ct_of ok_R_feed [some (.ref 79), some (.int x1), some (.int x2), some (.int x3), some (.int x4), some (.int x5)] (Nat.le_of_ble_eq_true rfl) rfl (b_R_feed  e ⟨rfl, rfl⟩)
def f_C_back (x1 : Int32) (h : pH) : (Int32 × pH) :=
  if x1 < 0 then
    ((-1), h)
  else
    if x1 ≤ (hI h 1 1) then
      ((hI (sI h 1 1 ((hI h 1 1) - x1)) 1 1), (sI h 1 1 ((hI h 1 1) - x1)))
    else
      ((-1), h)
set_option maxHeartbeats 4000000 in
theorem b_C_back {E : pE} {r : Option Value} {hr : pH} {x1 : Int32} {h : pH}  {b : (Int32 × pH)} (e : f_C_back x1 h = b) (k : (fun v : (Int32 × pH) => r = some (.int v.1) ∧ hr = v.2) b) : Go E M_C_back 0 [some (.ref 0), some (.int x1)] [] h r hr := by
  unfold f_C_back at e
  refine sl_ok ok_C_back [.iload_n 1] (pc1 := 1) (ls1 := [some (.ref 0), some (.int x1)]) (st1 := [.int x1]) (h1 := h) (P := True) (by decide +kernel) rfl trivial ?_
  refine q_if_lt (off := 14) (tgt := 15) (by decide +kernel) (by decide) (fun c_1 => ?_) (fun c_1 => ?_)
  · have e := it_t c_1 e
    refine sl_ok ok_C_back [.iconst (-1)] (pc1 := 16) (ls1 := [some (.ref 0), some (.int x1)]) (st1 := [.int (-1)]) (h1 := h) (P := True) (by decide +kernel) rfl trivial ?_
    cases e
    exact q_iret rfl k.1 k.2 (by decide +kernel)
  · have e := it_f c_1 e
    refine sl_ok ok_C_back [.iload_n 1, .aload_n 0, .getfield 10, .getfield 93] (pc1 := 12) (ls1 := [some (.ref 0), some (.int x1)]) (st1 := [.int (hI h 1 1), .int x1]) (h1 := h) (P := (ak 0 = 0 ∧ cx 0 = 11) ∧ (ak 1 = 0 ∧ cx 1 = 9) ∧ True) (by decide +kernel) rfl ⟨⟨rfl, rfl⟩, ⟨rfl, rfl⟩, trivial⟩ ?_
    refine q_icmp_le (off := 5) (tgt := 17) (by decide +kernel) (by decide) (fun c_2 => ?_) (fun c_2 => ?_)
    · have e := it_t c_2 e
      refine sl_ok ok_C_back [.aload_n 0, .getfield 10, .dup, .getfield 93, .iload_n 1, .isub, .putfield 93, .aload_n 0, .getfield 10, .getfield 93] (pc1 := 37) (ls1 := [some (.ref 0), some (.int x1)]) (st1 := [.int (hI (sI h 1 1 ((hI h 1 1) - x1)) 1 1)]) (h1 := (sI h 1 1 ((hI h 1 1) - x1))) (P := (ak 0 = 0 ∧ cx 0 = 11) ∧ (ak 1 = 0 ∧ cx 1 = 9) ∧ (ak 1 = 0 ∧ cx 1 = 9) ∧ (ak 0 = 0 ∧ cx 0 = 11) ∧ (ak 1 = 0 ∧ cx 1 = 9) ∧ True) (by decide +kernel) rfl ⟨⟨rfl, rfl⟩, ⟨rfl, rfl⟩, ⟨rfl, rfl⟩, ⟨rfl, rfl⟩, ⟨rfl, rfl⟩, trivial⟩ ?_
      cases e
      exact q_iret rfl k.1 k.2 (by decide +kernel)
    · have e := it_f c_2 e
      refine sl_ok ok_C_back [.iconst (-1)] (pc1 := 16) (ls1 := [some (.ref 0), some (.int x1)]) (st1 := [.int (-1)]) (h1 := h) (P := True) (by decide +kernel) rfl trivial ?_
      cases e
      exact q_iret rfl k.1 k.2 (by decide +kernel)
theorem s_C_back {E : pE} {x1 : Int32} {h : pH}  : Ct E M_C_back [.ref 0, .int x1] h (some (.int (f_C_back x1 h).1)) (f_C_back x1 h).2 :=
  Ct_of ok_C_back [some (.ref 0), some (.int x1)] (Nat.le_of_ble_eq_true rfl) rfl (b_C_back  rfl ⟨rfl, rfl⟩)
def f_R_back (x1 : Int32) (h : pH) : (Int32 × pH) :=
  if x1 < 0 then
    ((-1), h)
  else
    if x1 ≤ (hI h 79 2) then
      ((hI (sI h 79 2 ((hI h 79 2) - x1)) 79 2), (sI h 79 2 ((hI h 79 2) - x1)))
    else
      ((-1), h)
set_option maxHeartbeats 4000000 in
theorem b_R_back {E : pE} {r : Option Value} {hr : pH} {x1 : Int32} {h : pH}  {b : (Int32 × pH)} (e : f_R_back x1 h = b) (k : (fun v : (Int32 × pH) => r = some (.int v.1) ∧ hr = v.2) b) : Go E M_R_back 0 [some (.ref 79), some (.int x1)] [] h r hr := by
  unfold f_R_back at e
  refine sl_ok ok_R_back [.iload_n 1] (pc1 := 1) (ls1 := [some (.ref 79), some (.int x1)]) (st1 := [.int x1]) (h1 := h) (P := True) (by decide +kernel) rfl trivial ?_
  refine q_if_lt (off := 11) (tgt := 12) (by decide +kernel) (by decide) (fun c_1 => ?_) (fun c_1 => ?_)
  · have e := it_t c_1 e
    refine sl_ok ok_R_back [.iconst (-1)] (pc1 := 13) (ls1 := [some (.ref 79), some (.int x1)]) (st1 := [.int (-1)]) (h1 := h) (P := True) (by decide +kernel) rfl trivial ?_
    cases e
    exact q_iret rfl k.1 k.2 (by decide +kernel)
  · have e := it_f c_1 e
    refine sl_ok ok_R_back [.iload_n 1, .aload_n 0, .getfield 93] (pc1 := 9) (ls1 := [some (.ref 79), some (.int x1)]) (st1 := [.int (hI h 79 2), .int x1]) (h1 := h) (P := (ak 79 = 0 ∧ cx 79 = 12) ∧ True) (by decide +kernel) rfl ⟨⟨rfl, rfl⟩, trivial⟩ ?_
    refine q_icmp_le (off := 5) (tgt := 14) (by decide +kernel) (by decide) (fun c_2 => ?_) (fun c_2 => ?_)
    · have e := it_t c_2 e
      refine sl_ok ok_R_back [.aload_n 0, .dup, .getfield 93, .iload_n 1, .isub, .putfield 93, .aload_n 0, .getfield 93] (pc1 := 28) (ls1 := [some (.ref 79), some (.int x1)]) (st1 := [.int (hI (sI h 79 2 ((hI h 79 2) - x1)) 79 2)]) (h1 := (sI h 79 2 ((hI h 79 2) - x1))) (P := (ak 79 = 0 ∧ cx 79 = 12) ∧ (ak 79 = 0 ∧ cx 79 = 12) ∧ (ak 79 = 0 ∧ cx 79 = 12) ∧ True) (by decide +kernel) rfl ⟨⟨rfl, rfl⟩, ⟨rfl, rfl⟩, ⟨rfl, rfl⟩, trivial⟩ ?_
      cases e
      exact q_iret rfl k.1 k.2 (by decide +kernel)
    · have e := it_f c_2 e
      refine sl_ok ok_R_back [.iconst (-1)] (pc1 := 13) (ls1 := [some (.ref 79), some (.int x1)]) (st1 := [.int (-1)]) (h1 := h) (P := True) (by decide +kernel) rfl trivial ?_
      cases e
      exact q_iret rfl k.1 k.2 (by decide +kernel)
theorem s_R_back {E : pE} {x1 : Int32} {h : pH}  : Ct E M_R_back [.ref 79, .int x1] h (some (.int (f_R_back x1 h).1)) (f_R_back x1 h).2 :=
  Ct_of ok_R_back [some (.ref 79), some (.int x1)] (Nat.le_of_ble_eq_true rfl) rfl (b_R_back  rfl ⟨rfl, rfl⟩)
def f_Tape_rewind (h : pH) : pH :=
  (sI h 1 6 0)
set_option maxHeartbeats 4000000 in
theorem b_Tape_rewind {E : pE} {r : Option Value} {hr : pH} {h : pH}  {b : pH} (e : f_Tape_rewind h = b) (k : (fun v : pH => r = none ∧ hr = v) b) : Go E M_Tape_rewind 0 [some (.ref 1)] [] h r hr := by
  unfold f_Tape_rewind at e
  refine sl_ok ok_Tape_rewind [.aload_n 0, .iconst 0, .putfield 19] (pc1 := 5) (ls1 := [some (.ref 1)]) (st1 := []) (h1 := (sI h 1 6 0)) (P := (ak 1 = 0 ∧ cx 1 = 9) ∧ True) (by decide +kernel) rfl ⟨⟨rfl, rfl⟩, trivial⟩ ?_
  cases e
  exact q_vret rfl k.1 k.2 (by decide +kernel)
theorem s_Tape_rewind {E : pE} {h : pH}  : Ct E M_Tape_rewind [.ref 1] h none (f_Tape_rewind h) :=
  Ct_of ok_Tape_rewind [some (.ref 1)] (Nat.le_of_ble_eq_true rfl) rfl (b_Tape_rewind  rfl ⟨rfl, rfl⟩)
def f_Cloud_clear (o0 : Nat) (h : pH) : pH :=
  (sI (sI (sI h o0 2 0) o0 3 10) o0 4 ((hI (sI (sI h o0 2 0) o0 3 10) o0 4) + 1))
set_option maxHeartbeats 4000000 in
theorem b_Cloud_clear {E : pE} {r : Option Value} {hr : pH} {o0 : Nat} {h : pH} (ho0 : ak o0 = 0 ∧ cx o0 = 0) {b : pH} (e : f_Cloud_clear o0 h = b) (k : (fun v : pH => r = none ∧ hr = v) b) : Go E M_Cloud_clear 0 [some (.ref o0)] [] h r hr := by
  unfold f_Cloud_clear at e
  refine sl_ok ok_Cloud_clear [.aload_n 0, .iconst 0, .putfield 22, .aload_n 0, .bipush 10, .putfield 18, .aload_n 0, .dup, .getfield 37, .iconst 1, .iadd, .putfield 37] (pc1 := 21) (ls1 := [some (.ref o0)]) (st1 := []) (h1 := (sI (sI (sI h o0 2 0) o0 3 10) o0 4 ((hI (sI (sI h o0 2 0) o0 3 10) o0 4) + 1))) (P := (ak o0 = 0 ∧ cx o0 = 0) ∧ (ak o0 = 0 ∧ cx o0 = 0) ∧ (ak o0 = 0 ∧ cx o0 = 0) ∧ (ak o0 = 0 ∧ cx o0 = 0) ∧ True) (by decide +kernel) rfl ⟨ho0, ho0, ho0, ho0, trivial⟩ ?_
  cases e
  exact q_vret rfl k.1 k.2 (by decide +kernel)
theorem s_Cloud_clear {E : pE} {o0 : Nat} {h : pH} (ho0 : ak o0 = 0 ∧ cx o0 = 0) : Ct E M_Cloud_clear [.ref o0] h none (f_Cloud_clear o0 h) :=
  Ct_of ok_Cloud_clear [some (.ref o0)] (Nat.le_of_ble_eq_true rfl) rfl (b_Cloud_clear ho0 rfl ⟨rfl, rfl⟩)
def f_TextReader_reset (h : pH) : pH :=
  (sI (sI (sI (sI (sI (sI (f_Cloud_clear 4 (f_Tape_rewind h)) 3 4 0) 3 1 (-1)) 3 5 0) 3 6 0) 3 7 0) 3 9 0)
set_option maxHeartbeats 4000000 in
theorem b_TextReader_reset {E : pE} {r : Option Value} {hr : pH} {h : pH}  {b : pH} (e : f_TextReader_reset h = b) (k : (fun v : pH => r = none ∧ hr = v) b) : Go E M_TextReader_reset 0 [some (.ref 3)] [] h r hr := by
  unfold f_TextReader_reset at e
  refine sl_ok ok_TextReader_reset [.aload_n 0, .getfield 26] (pc1 := 4) (ls1 := [some (.ref 3)]) (st1 := [.ref 1]) (h1 := h) (P := (ak 3 = 0 ∧ cx 3 = 10) ∧ True) (by decide +kernel) rfl ⟨⟨rfl, rfl⟩, trivial⟩ ?_
  refine q_callV ok_Tape_rewind (as := []) (st := []) ⟨wd_8, wd_9, wd_10, wd_3, ds_Tape_rewind, Nat.le_of_ble_eq_true rfl, Nat.le_of_ble_eq_true rfl⟩ (s_Tape_rewind ) rfl ⟨rfl, rfl⟩ (ci := 9) rfl (fun v hv => by cases hv) (Nat.le_of_ble_eq_true rfl) (by decide +kernel) rfl ?_
  refine sl_ok ok_TextReader_reset [.aload_n 0, .getfield 12] (pc1 := 11) (ls1 := [some (.ref 3)]) (st1 := [.ref 4]) (h1 := (f_Tape_rewind h)) (P := (ak 3 = 0 ∧ cx 3 = 10) ∧ True) (by decide +kernel) rfl ⟨⟨rfl, rfl⟩, trivial⟩ ?_
  refine q_callV ok_Cloud_clear (as := []) (st := []) ⟨wd_11, wd_12, wd_13, wd_14, ds_Cloud_clear, Nat.le_of_ble_eq_true rfl, Nat.le_of_ble_eq_true rfl⟩ (s_Cloud_clear ⟨rfl, rfl⟩) rfl ⟨rfl, rfl⟩ (ci := 0) rfl (fun v hv => by cases hv) (Nat.le_of_ble_eq_true rfl) (by decide +kernel) rfl ?_
  refine sl_ok ok_TextReader_reset [.aload_n 0, .iconst 0, .putfield 65, .aload_n 0, .iconst (-1), .putfield 18, .aload_n 0, .iconst 0, .putfield 53, .aload_n 0, .iconst 0, .putfield 74, .aload_n 0, .iconst 0, .putfield 77, .aload_n 0, .iconst 0, .putfield 80] (pc1 := 44) (ls1 := [some (.ref 3)]) (st1 := []) (h1 := (sI (sI (sI (sI (sI (sI (f_Cloud_clear 4 (f_Tape_rewind h)) 3 4 0) 3 1 (-1)) 3 5 0) 3 6 0) 3 7 0) 3 9 0)) (P := (ak 3 = 0 ∧ cx 3 = 10) ∧ (ak 3 = 0 ∧ cx 3 = 10) ∧ (ak 3 = 0 ∧ cx 3 = 10) ∧ (ak 3 = 0 ∧ cx 3 = 10) ∧ (ak 3 = 0 ∧ cx 3 = 10) ∧ ((ak 3 = 0 ∧ cx 3 = 10) ∧ ((0 : Int32) = 0 ∨ (0 : Int32) = 1)) ∧ True) (by decide +kernel) rfl ⟨⟨rfl, rfl⟩, ⟨rfl, rfl⟩, ⟨rfl, rfl⟩, ⟨rfl, rfl⟩, ⟨rfl, rfl⟩, ⟨⟨rfl, rfl⟩, Or.inl rfl⟩, trivial⟩ ?_
  cases e
  exact q_vret rfl k.1 k.2 (by decide +kernel)
theorem s_TextReader_reset {E : pE} {h : pH}  : Ct E M_TextReader_reset [.ref 3] h none (f_TextReader_reset h) :=
  Ct_of ok_TextReader_reset [some (.ref 3)] (Nat.le_of_ble_eq_true rfl) rfl (b_TextReader_reset  rfl ⟨rfl, rfl⟩)
def f_Tape_byteAt (x1 : Int32) (h : pH) : Option Int32 :=
  if x1 < 0 then
    some (-1)
  else
    if 2000 ≤ x1 then
      some (-1)
    else
      if x1 < 0 ∨ 2000 ≤ x1.toNatClampNeg then none else
      some (hI h 2 x1.toNatClampNeg)
set_option maxHeartbeats 4000000 in
theorem b_Tape_byteAt {E : pE} {r : Option Value} {hr : pH} {x1 : Int32} {h : pH}  {b : Int32} (e : f_Tape_byteAt x1 h = some b) (k : (fun v : Int32 => r = some (.int v) ∧ hr = h) b) : Go E M_Tape_byteAt 0 [some (.ref 1), some (.int x1)] [] h r hr := by
  unfold f_Tape_byteAt at e
  refine sl_ok ok_Tape_byteAt [.iload_n 1] (pc1 := 1) (ls1 := [some (.ref 1), some (.int x1)]) (st1 := [.int x1]) (h1 := h) (P := True) (by decide +kernel) rfl trivial ?_
  refine q_if_lt (off := 19) (tgt := 20) (by decide +kernel) (by decide) (fun c_1 => ?_) (fun c_1 => ?_)
  · have e := it_t c_1 e
    refine sl_ok ok_Tape_byteAt [.iconst (-1)] (pc1 := 21) (ls1 := [some (.ref 1), some (.int x1)]) (st1 := [.int (-1)]) (h1 := h) (P := True) (by decide +kernel) rfl trivial ?_
    cases e
    exact q_iret rfl k.1 k.2 (by decide +kernel)
  · have e := it_f c_1 e
    refine sl_ok ok_Tape_byteAt [.iload_n 1, .sipush 2000] (pc1 := 8) (ls1 := [some (.ref 1), some (.int x1)]) (st1 := [.int 2000, .int x1]) (h1 := h) (P := True) (by decide +kernel) rfl trivial ?_
    refine q_icmp_ge (off := 12) (tgt := 20) (by decide +kernel) (by decide) (fun c_2 => ?_) (fun c_2 => ?_)
    · have e := it_t c_2 e
      refine sl_ok ok_Tape_byteAt [.iconst (-1)] (pc1 := 21) (ls1 := [some (.ref 1), some (.int x1)]) (st1 := [.int (-1)]) (h1 := h) (P := True) (by decide +kernel) rfl trivial ?_
      cases e
      exact q_iret rfl k.1 k.2 (by decide +kernel)
    · have e := it_f c_2 e
      obtain ⟨g_3, e⟩ := it_g e
      refine sl_ok ok_Tape_byteAt [.aload_n 0, .getfield 9, .iload_n 1, .iaload] (pc1 := 17) (ls1 := [some (.ref 1), some (.int x1)]) (st1 := [.int (hI h 2 x1.toNatClampNeg)]) (h1 := h) (P := (ak 1 = 0 ∧ cx 1 = 9) ∧ (ak 2 = 1 ∧ ¬ (x1 < 0 ∨ cx 2 ≤ x1.toNatClampNeg)) ∧ True) (by decide +kernel) rfl ⟨⟨rfl, rfl⟩, ⟨rfl, g_3⟩, trivial⟩ ?_
      refine q_goto (off := 4) (tgt := 21) (by decide) (by decide +kernel) ?_
      cases e
      exact q_iret rfl k.1 k.2 (by decide +kernel)
theorem s_Tape_byteAt {E : pE} {x1 : Int32} {h : pH}  {v : Int32} (e : f_Tape_byteAt x1 h = some v) : Ct E M_Tape_byteAt [.ref 1, .int x1] h (some (.int v)) h :=
  Ct_of ok_Tape_byteAt [some (.ref 1), some (.int x1)] (Nat.le_of_ble_eq_true rfl) rfl (b_Tape_byteAt  e ⟨rfl, rfl⟩)
def f_Tape_isBlank (x0 : Int32) : Int32 :=
  if x0 = 9 then
    1
  else
    if x0 = 10 then
      1
    else
      if x0 = 13 then
        1
      else
        if x0 = 32 then
          1
        else
          0
set_option maxHeartbeats 4000000 in
theorem b_Tape_isBlank {E : pE} {r : Option Value} {hr : pH} {x0 : Int32} {h : pH}  {b : Int32} (e : f_Tape_isBlank x0 = b) (k : (fun v : Int32 => r = some (.int v) ∧ hr = h) b) : Go E M_Tape_isBlank 0 [some (.int x0)] [] h r hr := by
  unfold f_Tape_isBlank at e
  refine sl_ok ok_Tape_isBlank [.iload_n 0, .bipush 9] (pc1 := 3) (ls1 := [some (.int x0)]) (st1 := [.int 9, .int x0]) (h1 := h) (P := True) (by decide +kernel) rfl trivial ?_
  refine q_icmp_eq (off := 21) (tgt := 24) (by decide +kernel) (by decide) (fun c_1 => ?_) (fun c_1 => ?_)
  · have e := it_t c_1 e
    refine sl_ok ok_Tape_isBlank [.iconst 1] (pc1 := 25) (ls1 := [some (.int x0)]) (st1 := [.int 1]) (h1 := h) (P := True) (by decide +kernel) rfl trivial ?_
    refine q_goto (off := 4) (tgt := 29) (by decide) (by decide +kernel) ?_
    cases e
    exact q_zret rfl (Or.inr rfl) k.1 k.2 (by decide +kernel)
  · have e := it_f c_1 e
    refine sl_ok ok_Tape_isBlank [.iload_n 0, .bipush 10] (pc1 := 9) (ls1 := [some (.int x0)]) (st1 := [.int 10, .int x0]) (h1 := h) (P := True) (by decide +kernel) rfl trivial ?_
    refine q_icmp_eq (off := 15) (tgt := 24) (by decide +kernel) (by decide) (fun c_2 => ?_) (fun c_2 => ?_)
    · have e := it_t c_2 e
      refine sl_ok ok_Tape_isBlank [.iconst 1] (pc1 := 25) (ls1 := [some (.int x0)]) (st1 := [.int 1]) (h1 := h) (P := True) (by decide +kernel) rfl trivial ?_
      refine q_goto (off := 4) (tgt := 29) (by decide) (by decide +kernel) ?_
      cases e
      exact q_zret rfl (Or.inr rfl) k.1 k.2 (by decide +kernel)
    · have e := it_f c_2 e
      refine sl_ok ok_Tape_isBlank [.iload_n 0, .bipush 13] (pc1 := 15) (ls1 := [some (.int x0)]) (st1 := [.int 13, .int x0]) (h1 := h) (P := True) (by decide +kernel) rfl trivial ?_
      refine q_icmp_eq (off := 9) (tgt := 24) (by decide +kernel) (by decide) (fun c_3 => ?_) (fun c_3 => ?_)
      · have e := it_t c_3 e
        refine sl_ok ok_Tape_isBlank [.iconst 1] (pc1 := 25) (ls1 := [some (.int x0)]) (st1 := [.int 1]) (h1 := h) (P := True) (by decide +kernel) rfl trivial ?_
        refine q_goto (off := 4) (tgt := 29) (by decide) (by decide +kernel) ?_
        cases e
        exact q_zret rfl (Or.inr rfl) k.1 k.2 (by decide +kernel)
      · have e := it_f c_3 e
        refine sl_ok ok_Tape_isBlank [.iload_n 0, .bipush 32] (pc1 := 21) (ls1 := [some (.int x0)]) (st1 := [.int 32, .int x0]) (h1 := h) (P := True) (by decide +kernel) rfl trivial ?_
        refine q_icmp_ne (off := 7) (tgt := 28) (by decide +kernel) (by decide) (fun c_4 => ?_) (fun c_4 => ?_)
        · have e := it_f c_4 e
          refine sl_ok ok_Tape_isBlank [.iconst 0] (pc1 := 29) (ls1 := [some (.int x0)]) (st1 := [.int 0]) (h1 := h) (P := True) (by decide +kernel) rfl trivial ?_
          cases e
          exact q_zret rfl (Or.inl rfl) k.1 k.2 (by decide +kernel)
        · have e := it_t c_4 e
          refine sl_ok ok_Tape_isBlank [.iconst 1] (pc1 := 25) (ls1 := [some (.int x0)]) (st1 := [.int 1]) (h1 := h) (P := True) (by decide +kernel) rfl trivial ?_
          refine q_goto (off := 4) (tgt := 29) (by decide) (by decide +kernel) ?_
          cases e
          exact q_zret rfl (Or.inr rfl) k.1 k.2 (by decide +kernel)
theorem s_Tape_isBlank {E : pE} {x0 : Int32} {h : pH}  : Ct E M_Tape_isBlank [.int x0] h (some (.int (f_Tape_isBlank x0))) h :=
  Ct_of ok_Tape_isBlank [some (.int x0)] (Nat.le_of_ble_eq_true rfl) rfl (b_Tape_isBlank  rfl ⟨rfl, rfl⟩)
def f_Tape_isLetter (x0 : Int32) : Int32 :=
  if x0 < 97 then
    0
  else
    if 122 < x0 then
      0
    else
      1
set_option maxHeartbeats 4000000 in
theorem b_Tape_isLetter {E : pE} {r : Option Value} {hr : pH} {x0 : Int32} {h : pH}  {b : Int32} (e : f_Tape_isLetter x0 = b) (k : (fun v : Int32 => r = some (.int v) ∧ hr = h) b) : Go E M_Tape_isLetter 0 [some (.int x0)] [] h r hr := by
  unfold f_Tape_isLetter at e
  refine sl_ok ok_Tape_isLetter [.iload_n 0, .bipush 97] (pc1 := 3) (ls1 := [some (.int x0)]) (st1 := [.int 97, .int x0]) (h1 := h) (P := True) (by decide +kernel) rfl trivial ?_
  refine q_icmp_lt (off := 13) (tgt := 16) (by decide +kernel) (by decide) (fun c_1 => ?_) (fun c_1 => ?_)
  · have e := it_t c_1 e
    refine sl_ok ok_Tape_isLetter [.iconst 0] (pc1 := 17) (ls1 := [some (.int x0)]) (st1 := [.int 0]) (h1 := h) (P := True) (by decide +kernel) rfl trivial ?_
    cases e
    exact q_zret rfl (Or.inl rfl) k.1 k.2 (by decide +kernel)
  · have e := it_f c_1 e
    refine sl_ok ok_Tape_isLetter [.iload_n 0, .bipush 122] (pc1 := 9) (ls1 := [some (.int x0)]) (st1 := [.int 122, .int x0]) (h1 := h) (P := True) (by decide +kernel) rfl trivial ?_
    refine q_icmp_gt (off := 7) (tgt := 16) (by decide +kernel) (by decide) (fun c_2 => ?_) (fun c_2 => ?_)
    · have e := it_t c_2 e
      refine sl_ok ok_Tape_isLetter [.iconst 0] (pc1 := 17) (ls1 := [some (.int x0)]) (st1 := [.int 0]) (h1 := h) (P := True) (by decide +kernel) rfl trivial ?_
      cases e
      exact q_zret rfl (Or.inl rfl) k.1 k.2 (by decide +kernel)
    · have e := it_f c_2 e
      refine sl_ok ok_Tape_isLetter [.iconst 1] (pc1 := 13) (ls1 := [some (.int x0)]) (st1 := [.int 1]) (h1 := h) (P := True) (by decide +kernel) rfl trivial ?_
      refine q_goto (off := 4) (tgt := 17) (by decide) (by decide +kernel) ?_
      cases e
      exact q_zret rfl (Or.inr rfl) k.1 k.2 (by decide +kernel)
theorem s_Tape_isLetter {E : pE} {x0 : Int32} {h : pH}  : Ct E M_Tape_isLetter [.int x0] h (some (.int (f_Tape_isLetter x0))) h :=
  Ct_of ok_Tape_isLetter [some (.int x0)] (Nat.le_of_ble_eq_true rfl) rfl (b_Tape_isLetter  rfl ⟨rfl, rfl⟩)
def f_Tape_isDigit (x0 : Int32) : Int32 :=
  if x0 < 48 then
    0
  else
    if 57 < x0 then
      0
    else
      1
set_option maxHeartbeats 4000000 in
theorem b_Tape_isDigit {E : pE} {r : Option Value} {hr : pH} {x0 : Int32} {h : pH}  {b : Int32} (e : f_Tape_isDigit x0 = b) (k : (fun v : Int32 => r = some (.int v) ∧ hr = h) b) : Go E M_Tape_isDigit 0 [some (.int x0)] [] h r hr := by
  unfold f_Tape_isDigit at e
  refine sl_ok ok_Tape_isDigit [.iload_n 0, .bipush 48] (pc1 := 3) (ls1 := [some (.int x0)]) (st1 := [.int 48, .int x0]) (h1 := h) (P := True) (by decide +kernel) rfl trivial ?_
  refine q_icmp_lt (off := 13) (tgt := 16) (by decide +kernel) (by decide) (fun c_1 => ?_) (fun c_1 => ?_)
  · have e := it_t c_1 e
    refine sl_ok ok_Tape_isDigit [.iconst 0] (pc1 := 17) (ls1 := [some (.int x0)]) (st1 := [.int 0]) (h1 := h) (P := True) (by decide +kernel) rfl trivial ?_
    cases e
    exact q_zret rfl (Or.inl rfl) k.1 k.2 (by decide +kernel)
  · have e := it_f c_1 e
    refine sl_ok ok_Tape_isDigit [.iload_n 0, .bipush 57] (pc1 := 9) (ls1 := [some (.int x0)]) (st1 := [.int 57, .int x0]) (h1 := h) (P := True) (by decide +kernel) rfl trivial ?_
    refine q_icmp_gt (off := 7) (tgt := 16) (by decide +kernel) (by decide) (fun c_2 => ?_) (fun c_2 => ?_)
    · have e := it_t c_2 e
      refine sl_ok ok_Tape_isDigit [.iconst 0] (pc1 := 17) (ls1 := [some (.int x0)]) (st1 := [.int 0]) (h1 := h) (P := True) (by decide +kernel) rfl trivial ?_
      cases e
      exact q_zret rfl (Or.inl rfl) k.1 k.2 (by decide +kernel)
    · have e := it_f c_2 e
      refine sl_ok ok_Tape_isDigit [.iconst 1] (pc1 := 13) (ls1 := [some (.int x0)]) (st1 := [.int 1]) (h1 := h) (P := True) (by decide +kernel) rfl trivial ?_
      refine q_goto (off := 4) (tgt := 17) (by decide) (by decide +kernel) ?_
      cases e
      exact q_zret rfl (Or.inr rfl) k.1 k.2 (by decide +kernel)
theorem s_Tape_isDigit {E : pE} {x0 : Int32} {h : pH}  : Ct E M_Tape_isDigit [.int x0] h (some (.int (f_Tape_isDigit x0))) h :=
  Ct_of ok_Tape_isDigit [some (.int x0)] (Nat.le_of_ble_eq_true rfl) rfl (b_Tape_isDigit  rfl ⟨rfl, rfl⟩)
def f_Tape_scanDigits_J2 (h : pH) : Option pH :=
  if ((hI h 1 6) - (hI h 1 2)) ≤ 4 then
    some (sI h 1 3 4)
  else
    some (sI h 1 3 0)
set_option maxHeartbeats 4000000 in
theorem b_Tape_scanDigits_J2 {E : pE} {r : Option Value} {hr : pH} {h : pH}  {b : pH} (e : f_Tape_scanDigits_J2 h = some b) (k : (fun v : pH => r = none ∧ hr = v) b) : Go E M_Tape_scanDigits 66 [some (.ref 1)] [] h r hr := by
  unfold f_Tape_scanDigits_J2 at e
  refine sl_ok ok_Tape_scanDigits [.aload_n 0, .aload_n 0, .getfield 19, .aload_n 0, .getfield 22, .isub, .iconst 4] (pc1 := 77) (ls1 := [some (.ref 1)]) (st1 := [.int 4, .int ((hI h 1 6) - (hI h 1 2)), .ref 1]) (h1 := h) (P := (ak 1 = 0 ∧ cx 1 = 9) ∧ (ak 1 = 0 ∧ cx 1 = 9) ∧ True) (by decide +kernel) rfl ⟨⟨rfl, rfl⟩, ⟨rfl, rfl⟩, trivial⟩ ?_
  refine q_icmp_le (off := 7) (tgt := 84) (by decide +kernel) (by decide) (fun c_1 => ?_) (fun c_1 => ?_)
  · have e := it_t c_1 e
    refine sl_ok ok_Tape_scanDigits [.iconst 4, .putfield 45] (pc1 := 88) (ls1 := [some (.ref 1)]) (st1 := []) (h1 := (sI h 1 3 4)) (P := (ak 1 = 0 ∧ cx 1 = 9) ∧ True) (by decide +kernel) rfl ⟨⟨rfl, rfl⟩, trivial⟩ ?_
    cases e
    exact q_vret rfl k.1 k.2 (by decide +kernel)
  · have e := it_f c_1 e
    refine sl_ok ok_Tape_scanDigits [.iconst 0] (pc1 := 81) (ls1 := [some (.ref 1)]) (st1 := [.int 0, .ref 1]) (h1 := h) (P := True) (by decide +kernel) rfl trivial ?_
    refine q_goto (off := 4) (tgt := 85) (by decide) (by decide +kernel) ?_
    refine sl_ok ok_Tape_scanDigits [.putfield 45] (pc1 := 88) (ls1 := [some (.ref 1)]) (st1 := []) (h1 := (sI h 1 3 0)) (P := (ak 1 = 0 ∧ cx 1 = 9) ∧ True) (by decide +kernel) rfl ⟨⟨rfl, rfl⟩, trivial⟩ ?_
    cases e
    exact q_vret rfl k.1 k.2 (by decide +kernel)
def f_Tape_scanDigits_L1 (h : pH) : Option (pH ⊕ pH) :=
  if (hI h 1 1) ≤ (hI h 1 6) then
    mi (f_Tape_scanDigits_J2 h)
  else
    (f_Tape_byteAt (hI h 1 6) h).bind fun v_2 =>
    if (f_Tape_isDigit v_2) = 0 then
      mi (f_Tape_scanDigits_J2 h)
    else
      (f_Tape_byteAt (hI h 1 6) h).bind fun v_5 =>
      some (.inl (sI (sI h 1 4 (((hI h 1 4) * 10) + (v_5 - 48))) 1 6 ((hI (sI h 1 4 (((hI h 1 4) * 10) + (v_5 - 48))) 1 6) + 1)))
set_option maxHeartbeats 4000000 in
theorem b_Tape_scanDigits_L1 {E : pE} {r : Option Value} {hr : pH} {h : pH}  {b : (pH ⊕ pH)} (e : f_Tape_scanDigits_L1 h = some b) (k : (Sum.elim (fun s : pH => Go E M_Tape_scanDigits 5 [some (.ref 1)] [] s r hr) (fun v : pH => r = none ∧ hr = v)) b) : Go E M_Tape_scanDigits 5 [some (.ref 1)] [] h r hr := by
  unfold f_Tape_scanDigits_L1 at e
  refine sl_ok ok_Tape_scanDigits [.aload_n 0, .getfield 19, .aload_n 0, .getfield 15] (pc1 := 13) (ls1 := [some (.ref 1)]) (st1 := [.int (hI h 1 1), .int (hI h 1 6)]) (h1 := h) (P := (ak 1 = 0 ∧ cx 1 = 9) ∧ (ak 1 = 0 ∧ cx 1 = 9) ∧ True) (by decide +kernel) rfl ⟨⟨rfl, rfl⟩, ⟨rfl, rfl⟩, trivial⟩ ?_
  refine q_icmp_ge (off := 53) (tgt := 66) (by decide +kernel) (by decide) (fun c_1 => ?_) (fun c_1 => ?_)
  · have e := it_t c_1 e
    obtain ⟨_, e9, rfl⟩ := mi_s e
    have e := e9
    exact b_Tape_scanDigits_J2  e k
  · have e := it_f c_1 e
    refine sl_ok ok_Tape_scanDigits [.aload_n 0, .aload_n 0, .getfield 19] (pc1 := 21) (ls1 := [some (.ref 1)]) (st1 := [.int (hI h 1 6), .ref 1]) (h1 := h) (P := (ak 1 = 0 ∧ cx 1 = 9) ∧ True) (by decide +kernel) rfl ⟨⟨rfl, rfl⟩, trivial⟩ ?_
    obtain ⟨v_2, e_3, e⟩ := bi_s e
    refine q_callV ok_Tape_byteAt (as := [.int (hI h 1 6)]) (st := []) ⟨wd_19, wd_20, wd_21, wd_3, ds_Tape_byteAt, Nat.le_of_ble_eq_true rfl, Nat.le_of_ble_eq_true rfl⟩ (s_Tape_byteAt  e_3) rfl ⟨rfl, rfl⟩ (ci := 9) rfl (fun v hv => by cases hv; rfl) (Nat.le_of_ble_eq_true rfl) (by decide +kernel) rfl ?_
    refine q_callS ok_Tape_isDigit (as := [.int v_2]) (st := []) ⟨wd_31, wd_32, wd_3, ds_Tape_isDigit, Nat.le_of_ble_eq_true rfl, Nat.le_of_ble_eq_true rfl⟩ (s_Tape_isDigit ) rfl (fun v hv => by cases hv; rfl) (Nat.le_of_ble_eq_true rfl) (by decide +kernel) rfl ?_
    refine q_if_eq (off := 39) (tgt := 66) (by decide +kernel) (by decide) (fun c_4 => ?_) (fun c_4 => ?_)
    · have e := it_t c_4 e
      obtain ⟨_, e9, rfl⟩ := mi_s e
      have e := e9
      exact b_Tape_scanDigits_J2  e k
    · have e := it_f c_4 e
      refine sl_ok ok_Tape_scanDigits [.aload_n 0, .aload_n 0, .getfield 71, .bipush 10, .imul, .aload_n 0, .aload_n 0, .getfield 19] (pc1 := 43) (ls1 := [some (.ref 1)]) (st1 := [.int (hI h 1 6), .ref 1, .int ((hI h 1 4) * 10), .ref 1]) (h1 := h) (P := (ak 1 = 0 ∧ cx 1 = 9) ∧ (ak 1 = 0 ∧ cx 1 = 9) ∧ True) (by decide +kernel) rfl ⟨⟨rfl, rfl⟩, ⟨rfl, rfl⟩, trivial⟩ ?_
      obtain ⟨v_5, e_6, e⟩ := bi_s e
      refine q_callV ok_Tape_byteAt (as := [.int (hI h 1 6)]) (st := [.int ((hI h 1 4) * 10), .ref 1]) ⟨wd_19, wd_20, wd_21, wd_3, ds_Tape_byteAt, Nat.le_of_ble_eq_true rfl, Nat.le_of_ble_eq_true rfl⟩ (s_Tape_byteAt  e_6) rfl ⟨rfl, rfl⟩ (ci := 9) rfl (fun v hv => by cases hv; rfl) (Nat.le_of_ble_eq_true rfl) (by decide +kernel) rfl ?_
      refine sl_ok ok_Tape_scanDigits [.bipush 48, .isub, .iadd, .putfield 71, .aload_n 0, .dup, .getfield 19, .iconst 1, .iadd, .putfield 19] (pc1 := 63) (ls1 := [some (.ref 1)]) (st1 := []) (h1 := (sI (sI h 1 4 (((hI h 1 4) * 10) + (v_5 - 48))) 1 6 ((hI (sI h 1 4 (((hI h 1 4) * 10) + (v_5 - 48))) 1 6) + 1))) (P := (ak 1 = 0 ∧ cx 1 = 9) ∧ (ak 1 = 0 ∧ cx 1 = 9) ∧ (ak 1 = 0 ∧ cx 1 = 9) ∧ True) (by decide +kernel) rfl ⟨⟨rfl, rfl⟩, ⟨rfl, rfl⟩, ⟨rfl, rfl⟩, trivial⟩ ?_
      refine q_goto (off := -58) (tgt := 5) (by decide) (by decide +kernel) ?_
      cases e
      exact k
def f_Tape_scanDigits (h : pH) : Option pH :=
  lp (fun s => f_Tape_scanDigits_L1 s) lpN (sI h 1 4 0)
set_option maxHeartbeats 4000000 in
theorem b_Tape_scanDigits {E : pE} {r : Option Value} {hr : pH} {h : pH}  {b : pH} (e : f_Tape_scanDigits h = some b) (k : (fun v : pH => r = none ∧ hr = v) b) : Go E M_Tape_scanDigits 0 [some (.ref 1)] [] h r hr := by
  unfold f_Tape_scanDigits at e
  refine sl_ok ok_Tape_scanDigits [.aload_n 0, .iconst 0, .putfield 71] (pc1 := 5) (ls1 := [some (.ref 1)]) (st1 := []) (h1 := (sI h 1 4 0)) (P := (ak 1 = 0 ∧ cx 1 = 9) ∧ True) (by decide +kernel) rfl ⟨⟨rfl, rfl⟩, trivial⟩ ?_
  exact lp_in e (fun s => Go E M_Tape_scanDigits 5 [some (.ref 1)] [] s r hr) (fun v : pH => r = none ∧ hr = v) (fun _ _ e k => b_Tape_scanDigits_L1  e k) k
theorem s_Tape_scanDigits {E : pE} {h : pH}  {v : pH} (e : f_Tape_scanDigits h = some v) : Ct E M_Tape_scanDigits [.ref 1] h none v :=
  Ct_of ok_Tape_scanDigits [some (.ref 1)] (Nat.le_of_ble_eq_true rfl) rfl (b_Tape_scanDigits  e ⟨rfl, rfl⟩)
def f_TextReader_following (x0 : Int32) (x1 : Int32) : Int32 :=
  if x0 = 0 then
    if x1 = 1 then
      1
    else
      if x1 = 2 then
        6
      else
        (-1)
  else
    if x0 = 1 then
      if x1 = 3 then
        2
      else
        (-1)
    else
      if x0 = 2 then
        if x1 = 5 then
          3
        else
          if x1 = 4 then
            4
          else
            (-1)
      else
        if x0 = 3 then
          if x1 = 4 then
            4
          else
            (-1)
        else
          if x0 = 4 then
            if x1 = 5 then
              5
            else
              if x1 = 4 then
                7
              else
                (-1)
          else
            if x0 = 5 then
              if x1 = 4 then
                7
              else
                (-1)
            else
              if x0 = 6 then
                if x1 = 4 then
                  7
                else
                  (-1)
              else
                if x1 = 6 then
                  0
                else
                  (-1)
set_option maxHeartbeats 4000000 in
theorem b_TextReader_following {E : pE} {r : Option Value} {hr : pH} {x0 : Int32} {x1 : Int32} {h : pH}  {b : Int32} (e : f_TextReader_following x0 x1 = b) (k : (fun v : Int32 => r = some (.int v) ∧ hr = h) b) : Go E M_TextReader_following 0 [some (.int x0), some (.int x1)] [] h r hr := by
  unfold f_TextReader_following at e
  refine sl_ok ok_TextReader_following [.iload_n 0] (pc1 := 1) (ls1 := [some (.int x0), some (.int x1)]) (st1 := [.int x0]) (h1 := h) (P := True) (by decide +kernel) rfl trivial ?_
  by_cases c_2 : x0 = 0
  · have e := it_t c_2 e
    refine q_tableIn (off := 43) (tgt := 44) (by decide +kernel : decode (mB M_TextReader_following) 1 = .ok (.tableswitch 139 0 6 #[43, 64, 75, 95, 106, 127, 127], 43)) (by rw [c_2]; decide) (by rw [c_2]; decide) (by rw [c_2]; decide) (by decide) ?_
    refine sl_ok ok_TextReader_following [.iload_n 1, .iconst 1] (pc1 := 46) (ls1 := [some (.int x0), some (.int x1)]) (st1 := [.int 1, .int x1]) (h1 := h) (P := True) (by decide +kernel) rfl trivial ?_
    refine q_icmp_ne (off := 7) (tgt := 53) (by decide +kernel) (by decide) (fun c_17 => ?_) (fun c_17 => ?_)
    · have e := it_f c_17 e
      refine sl_ok ok_TextReader_following [.iload_n 1, .iconst 2] (pc1 := 55) (ls1 := [some (.int x0), some (.int x1)]) (st1 := [.int 2, .int x1]) (h1 := h) (P := True) (by decide +kernel) rfl trivial ?_
      refine q_icmp_ne (off := 8) (tgt := 63) (by decide +kernel) (by decide) (fun c_18 => ?_) (fun c_18 => ?_)
      · have e := it_f c_18 e
        refine sl_ok ok_TextReader_following [.iconst (-1)] (pc1 := 64) (ls1 := [some (.int x0), some (.int x1)]) (st1 := [.int (-1)]) (h1 := h) (P := True) (by decide +kernel) rfl trivial ?_
        cases e
        exact q_iret rfl k.1 k.2 (by decide +kernel)
      · have e := it_t c_18 e
        refine sl_ok ok_TextReader_following [.bipush 6] (pc1 := 60) (ls1 := [some (.int x0), some (.int x1)]) (st1 := [.int 6]) (h1 := h) (P := True) (by decide +kernel) rfl trivial ?_
        refine q_goto (off := 4) (tgt := 64) (by decide) (by decide +kernel) ?_
        cases e
        exact q_iret rfl k.1 k.2 (by decide +kernel)
    · have e := it_t c_17 e
      refine sl_ok ok_TextReader_following [.iconst 1] (pc1 := 50) (ls1 := [some (.int x0), some (.int x1)]) (st1 := [.int 1]) (h1 := h) (P := True) (by decide +kernel) rfl trivial ?_
      refine q_goto (off := 14) (tgt := 64) (by decide) (by decide +kernel) ?_
      cases e
      exact q_iret rfl k.1 k.2 (by decide +kernel)
  · have e := it_f c_2 e
    by_cases c_3 : x0 = 1
    · have e := it_t c_3 e
      refine q_tableIn (off := 64) (tgt := 65) (by decide +kernel : decode (mB M_TextReader_following) 1 = .ok (.tableswitch 139 0 6 #[43, 64, 75, 95, 106, 127, 127], 43)) (by rw [c_3]; decide) (by rw [c_3]; decide) (by rw [c_3]; decide) (by decide) ?_
      refine sl_ok ok_TextReader_following [.iload_n 1, .iconst 3] (pc1 := 67) (ls1 := [some (.int x0), some (.int x1)]) (st1 := [.int 3, .int x1]) (h1 := h) (P := True) (by decide +kernel) rfl trivial ?_
      refine q_icmp_ne (off := 7) (tgt := 74) (by decide +kernel) (by decide) (fun c_16 => ?_) (fun c_16 => ?_)
      · have e := it_f c_16 e
        refine sl_ok ok_TextReader_following [.iconst (-1)] (pc1 := 75) (ls1 := [some (.int x0), some (.int x1)]) (st1 := [.int (-1)]) (h1 := h) (P := True) (by decide +kernel) rfl trivial ?_
        cases e
        exact q_iret rfl k.1 k.2 (by decide +kernel)
      · have e := it_t c_16 e
        refine sl_ok ok_TextReader_following [.iconst 2] (pc1 := 71) (ls1 := [some (.int x0), some (.int x1)]) (st1 := [.int 2]) (h1 := h) (P := True) (by decide +kernel) rfl trivial ?_
        refine q_goto (off := 4) (tgt := 75) (by decide) (by decide +kernel) ?_
        cases e
        exact q_iret rfl k.1 k.2 (by decide +kernel)
    · have e := it_f c_3 e
      by_cases c_4 : x0 = 2
      · have e := it_t c_4 e
        refine q_tableIn (off := 75) (tgt := 76) (by decide +kernel : decode (mB M_TextReader_following) 1 = .ok (.tableswitch 139 0 6 #[43, 64, 75, 95, 106, 127, 127], 43)) (by rw [c_4]; decide) (by rw [c_4]; decide) (by rw [c_4]; decide) (by decide) ?_
        refine sl_ok ok_TextReader_following [.iload_n 1, .iconst 5] (pc1 := 78) (ls1 := [some (.int x0), some (.int x1)]) (st1 := [.int 5, .int x1]) (h1 := h) (P := True) (by decide +kernel) rfl trivial ?_
        refine q_icmp_ne (off := 7) (tgt := 85) (by decide +kernel) (by decide) (fun c_14 => ?_) (fun c_14 => ?_)
        · have e := it_f c_14 e
          refine sl_ok ok_TextReader_following [.iload_n 1, .iconst 4] (pc1 := 87) (ls1 := [some (.int x0), some (.int x1)]) (st1 := [.int 4, .int x1]) (h1 := h) (P := True) (by decide +kernel) rfl trivial ?_
          refine q_icmp_ne (off := 7) (tgt := 94) (by decide +kernel) (by decide) (fun c_15 => ?_) (fun c_15 => ?_)
          · have e := it_f c_15 e
            refine sl_ok ok_TextReader_following [.iconst (-1)] (pc1 := 95) (ls1 := [some (.int x0), some (.int x1)]) (st1 := [.int (-1)]) (h1 := h) (P := True) (by decide +kernel) rfl trivial ?_
            cases e
            exact q_iret rfl k.1 k.2 (by decide +kernel)
          · have e := it_t c_15 e
            refine sl_ok ok_TextReader_following [.iconst 4] (pc1 := 91) (ls1 := [some (.int x0), some (.int x1)]) (st1 := [.int 4]) (h1 := h) (P := True) (by decide +kernel) rfl trivial ?_
            refine q_goto (off := 4) (tgt := 95) (by decide) (by decide +kernel) ?_
            cases e
            exact q_iret rfl k.1 k.2 (by decide +kernel)
        · have e := it_t c_14 e
          refine sl_ok ok_TextReader_following [.iconst 3] (pc1 := 82) (ls1 := [some (.int x0), some (.int x1)]) (st1 := [.int 3]) (h1 := h) (P := True) (by decide +kernel) rfl trivial ?_
          refine q_goto (off := 13) (tgt := 95) (by decide) (by decide +kernel) ?_
          cases e
          exact q_iret rfl k.1 k.2 (by decide +kernel)
      · have e := it_f c_4 e
        by_cases c_5 : x0 = 3
        · have e := it_t c_5 e
          refine q_tableIn (off := 95) (tgt := 96) (by decide +kernel : decode (mB M_TextReader_following) 1 = .ok (.tableswitch 139 0 6 #[43, 64, 75, 95, 106, 127, 127], 43)) (by rw [c_5]; decide) (by rw [c_5]; decide) (by rw [c_5]; decide) (by decide) ?_
          refine sl_ok ok_TextReader_following [.iload_n 1, .iconst 4] (pc1 := 98) (ls1 := [some (.int x0), some (.int x1)]) (st1 := [.int 4, .int x1]) (h1 := h) (P := True) (by decide +kernel) rfl trivial ?_
          refine q_icmp_ne (off := 7) (tgt := 105) (by decide +kernel) (by decide) (fun c_13 => ?_) (fun c_13 => ?_)
          · have e := it_f c_13 e
            refine sl_ok ok_TextReader_following [.iconst (-1)] (pc1 := 106) (ls1 := [some (.int x0), some (.int x1)]) (st1 := [.int (-1)]) (h1 := h) (P := True) (by decide +kernel) rfl trivial ?_
            cases e
            exact q_iret rfl k.1 k.2 (by decide +kernel)
          · have e := it_t c_13 e
            refine sl_ok ok_TextReader_following [.iconst 4] (pc1 := 102) (ls1 := [some (.int x0), some (.int x1)]) (st1 := [.int 4]) (h1 := h) (P := True) (by decide +kernel) rfl trivial ?_
            refine q_goto (off := 4) (tgt := 106) (by decide) (by decide +kernel) ?_
            cases e
            exact q_iret rfl k.1 k.2 (by decide +kernel)
        · have e := it_f c_5 e
          by_cases c_6 : x0 = 4
          · have e := it_t c_6 e
            refine q_tableIn (off := 106) (tgt := 107) (by decide +kernel : decode (mB M_TextReader_following) 1 = .ok (.tableswitch 139 0 6 #[43, 64, 75, 95, 106, 127, 127], 43)) (by rw [c_6]; decide) (by rw [c_6]; decide) (by rw [c_6]; decide) (by decide) ?_
            refine sl_ok ok_TextReader_following [.iload_n 1, .iconst 5] (pc1 := 109) (ls1 := [some (.int x0), some (.int x1)]) (st1 := [.int 5, .int x1]) (h1 := h) (P := True) (by decide +kernel) rfl trivial ?_
            refine q_icmp_ne (off := 7) (tgt := 116) (by decide +kernel) (by decide) (fun c_11 => ?_) (fun c_11 => ?_)
            · have e := it_f c_11 e
              refine sl_ok ok_TextReader_following [.iload_n 1, .iconst 4] (pc1 := 118) (ls1 := [some (.int x0), some (.int x1)]) (st1 := [.int 4, .int x1]) (h1 := h) (P := True) (by decide +kernel) rfl trivial ?_
              refine q_icmp_ne (off := 8) (tgt := 126) (by decide +kernel) (by decide) (fun c_12 => ?_) (fun c_12 => ?_)
              · have e := it_f c_12 e
                refine sl_ok ok_TextReader_following [.iconst (-1)] (pc1 := 127) (ls1 := [some (.int x0), some (.int x1)]) (st1 := [.int (-1)]) (h1 := h) (P := True) (by decide +kernel) rfl trivial ?_
                cases e
                exact q_iret rfl k.1 k.2 (by decide +kernel)
              · have e := it_t c_12 e
                refine sl_ok ok_TextReader_following [.bipush 7] (pc1 := 123) (ls1 := [some (.int x0), some (.int x1)]) (st1 := [.int 7]) (h1 := h) (P := True) (by decide +kernel) rfl trivial ?_
                refine q_goto (off := 4) (tgt := 127) (by decide) (by decide +kernel) ?_
                cases e
                exact q_iret rfl k.1 k.2 (by decide +kernel)
            · have e := it_t c_11 e
              refine sl_ok ok_TextReader_following [.iconst 5] (pc1 := 113) (ls1 := [some (.int x0), some (.int x1)]) (st1 := [.int 5]) (h1 := h) (P := True) (by decide +kernel) rfl trivial ?_
              refine q_goto (off := 14) (tgt := 127) (by decide) (by decide +kernel) ?_
              cases e
              exact q_iret rfl k.1 k.2 (by decide +kernel)
          · have e := it_f c_6 e
            by_cases c_7 : x0 = 5
            · have e := it_t c_7 e
              refine q_tableIn (off := 127) (tgt := 128) (by decide +kernel : decode (mB M_TextReader_following) 1 = .ok (.tableswitch 139 0 6 #[43, 64, 75, 95, 106, 127, 127], 43)) (by rw [c_7]; decide) (by rw [c_7]; decide) (by rw [c_7]; decide) (by decide) ?_
              refine sl_ok ok_TextReader_following [.iload_n 1, .iconst 4] (pc1 := 130) (ls1 := [some (.int x0), some (.int x1)]) (st1 := [.int 4, .int x1]) (h1 := h) (P := True) (by decide +kernel) rfl trivial ?_
              refine q_icmp_ne (off := 8) (tgt := 138) (by decide +kernel) (by decide) (fun c_10 => ?_) (fun c_10 => ?_)
              · have e := it_f c_10 e
                refine sl_ok ok_TextReader_following [.iconst (-1)] (pc1 := 139) (ls1 := [some (.int x0), some (.int x1)]) (st1 := [.int (-1)]) (h1 := h) (P := True) (by decide +kernel) rfl trivial ?_
                cases e
                exact q_iret rfl k.1 k.2 (by decide +kernel)
              · have e := it_t c_10 e
                refine sl_ok ok_TextReader_following [.bipush 7] (pc1 := 135) (ls1 := [some (.int x0), some (.int x1)]) (st1 := [.int 7]) (h1 := h) (P := True) (by decide +kernel) rfl trivial ?_
                refine q_goto (off := 4) (tgt := 139) (by decide) (by decide +kernel) ?_
                cases e
                exact q_iret rfl k.1 k.2 (by decide +kernel)
            · have e := it_f c_7 e
              by_cases c_8 : x0 = 6
              · have e := it_t c_8 e
                refine q_tableIn (off := 127) (tgt := 128) (by decide +kernel : decode (mB M_TextReader_following) 1 = .ok (.tableswitch 139 0 6 #[43, 64, 75, 95, 106, 127, 127], 43)) (by rw [c_8]; decide) (by rw [c_8]; decide) (by rw [c_8]; decide) (by decide) ?_
                refine sl_ok ok_TextReader_following [.iload_n 1, .iconst 4] (pc1 := 130) (ls1 := [some (.int x0), some (.int x1)]) (st1 := [.int 4, .int x1]) (h1 := h) (P := True) (by decide +kernel) rfl trivial ?_
                refine q_icmp_ne (off := 8) (tgt := 138) (by decide +kernel) (by decide) (fun c_9 => ?_) (fun c_9 => ?_)
                · have e := it_f c_9 e
                  refine sl_ok ok_TextReader_following [.iconst (-1)] (pc1 := 139) (ls1 := [some (.int x0), some (.int x1)]) (st1 := [.int (-1)]) (h1 := h) (P := True) (by decide +kernel) rfl trivial ?_
                  cases e
                  exact q_iret rfl k.1 k.2 (by decide +kernel)
                · have e := it_t c_9 e
                  refine sl_ok ok_TextReader_following [.bipush 7] (pc1 := 135) (ls1 := [some (.int x0), some (.int x1)]) (st1 := [.int 7]) (h1 := h) (P := True) (by decide +kernel) rfl trivial ?_
                  refine q_goto (off := 4) (tgt := 139) (by decide) (by decide +kernel) ?_
                  cases e
                  exact q_iret rfl k.1 k.2 (by decide +kernel)
              · have e := it_f c_8 e
                refine q_tableOut (tgt := 140) (by decide +kernel : decode (mB M_TextReader_following) 1 = .ok (.tableswitch 139 0 6 #[43, 64, 75, 95, 106, 127, 127], 43)) (sw_out [0, 1, 2, 3, 4, 5, 6] (by decide) ⟨c_2, c_3, c_4, c_5, c_6, c_7, c_8, trivial⟩) (by decide) ?_
                refine sl_ok ok_TextReader_following [.iload_n 1, .bipush 6] (pc1 := 143) (ls1 := [some (.int x0), some (.int x1)]) (st1 := [.int 6, .int x1]) (h1 := h) (P := True) (by decide +kernel) rfl trivial ?_
                refine q_icmp_ne (off := 7) (tgt := 150) (by decide +kernel) (by decide) (fun c_1 => ?_) (fun c_1 => ?_)
                · have e := it_f c_1 e
                  refine sl_ok ok_TextReader_following [.iconst (-1)] (pc1 := 151) (ls1 := [some (.int x0), some (.int x1)]) (st1 := [.int (-1)]) (h1 := h) (P := True) (by decide +kernel) rfl trivial ?_
                  cases e
                  exact q_iret rfl k.1 k.2 (by decide +kernel)
                · have e := it_t c_1 e
                  refine sl_ok ok_TextReader_following [.iconst 0] (pc1 := 147) (ls1 := [some (.int x0), some (.int x1)]) (st1 := [.int 0]) (h1 := h) (P := True) (by decide +kernel) rfl trivial ?_
                  refine q_goto (off := 4) (tgt := 151) (by decide) (by decide +kernel) ?_
                  cases e
                  exact q_iret rfl k.1 k.2 (by decide +kernel)
theorem s_TextReader_following {E : pE} {x0 : Int32} {x1 : Int32} {h : pH}  : Ct E M_TextReader_following [.int x0, .int x1] h (some (.int (f_TextReader_following x0 x1))) h :=
  Ct_of ok_TextReader_following [some (.int x0), some (.int x1)] (Nat.le_of_ble_eq_true rfl) rfl (b_TextReader_following  rfl ⟨rfl, rfl⟩)
def f_TextReader_hardFault_J1 (h : pH) : (Int32 × pH) :=
  if 400 < (hI h 3 6) then
    (2, h)
  else
    if (hI h 3 7) ≤ 12 then
      (0, h)
    else
      (2, h)
set_option maxHeartbeats 4000000 in
theorem b_TextReader_hardFault_J1 {E : pE} {r : Option Value} {hr : pH} {h : pH}  {b : (Int32 × pH)} (e : f_TextReader_hardFault_J1 h = b) (k : (fun v : (Int32 × pH) => r = some (.int v.1) ∧ hr = v.2) b) : Go E M_TextReader_hardFault 51 [some (.ref 3)] [] h r hr := by
  unfold f_TextReader_hardFault_J1 at e
  refine sl_ok ok_TextReader_hardFault [.aload_n 0, .getfield 74, .sipush 400] (pc1 := 58) (ls1 := [some (.ref 3)]) (st1 := [.int 400, .int (hI h 3 6)]) (h1 := h) (P := (ak 3 = 0 ∧ cx 3 = 10) ∧ True) (by decide +kernel) rfl ⟨⟨rfl, rfl⟩, trivial⟩ ?_
  refine q_icmp_gt (off := 12) (tgt := 70) (by decide +kernel) (by decide) (fun c_1 => ?_) (fun c_1 => ?_)
  · have e := it_t c_1 e
    refine sl_ok ok_TextReader_hardFault [.iconst 2] (pc1 := 71) (ls1 := [some (.ref 3)]) (st1 := [.int 2]) (h1 := h) (P := True) (by decide +kernel) rfl trivial ?_
    refine q_goto (off := 4) (tgt := 75) (by decide) (by decide +kernel) ?_
    cases e
    exact q_iret rfl k.1 k.2 (by decide +kernel)
  · have e := it_f c_1 e
    refine sl_ok ok_TextReader_hardFault [.aload_n 0, .getfield 77, .bipush 12] (pc1 := 67) (ls1 := [some (.ref 3)]) (st1 := [.int 12, .int (hI h 3 7)]) (h1 := h) (P := (ak 3 = 0 ∧ cx 3 = 10) ∧ True) (by decide +kernel) rfl ⟨⟨rfl, rfl⟩, trivial⟩ ?_
    refine q_icmp_le (off := 7) (tgt := 74) (by decide +kernel) (by decide) (fun c_2 => ?_) (fun c_2 => ?_)
    · have e := it_t c_2 e
      refine sl_ok ok_TextReader_hardFault [.iconst 0] (pc1 := 75) (ls1 := [some (.ref 3)]) (st1 := [.int 0]) (h1 := h) (P := True) (by decide +kernel) rfl trivial ?_
      cases e
      exact q_iret rfl k.1 k.2 (by decide +kernel)
    · have e := it_f c_2 e
      refine sl_ok ok_TextReader_hardFault [.iconst 2] (pc1 := 71) (ls1 := [some (.ref 3)]) (st1 := [.int 2]) (h1 := h) (P := True) (by decide +kernel) rfl trivial ?_
      refine q_goto (off := 4) (tgt := 75) (by decide) (by decide +kernel) ?_
      cases e
      exact q_iret rfl k.1 k.2 (by decide +kernel)
def f_TextReader_hardFault (h : pH) : (Int32 × pH) :=
  if (f_TextReader_following (hI h 3 5) (hI h 1 3)) = (-1) then
    (1, h)
  else
    if (hI (sI h 3 6 ((hI h 3 6) + 1)) 1 3) = 1 then
      f_TextReader_hardFault_J1 (sI (sI h 3 6 ((hI h 3 6) + 1)) 3 7 ((hI (sI h 3 6 ((hI h 3 6) + 1)) 3 7) + 1))
    else
      f_TextReader_hardFault_J1 (sI h 3 6 ((hI h 3 6) + 1))
set_option maxHeartbeats 4000000 in
theorem b_TextReader_hardFault {E : pE} {r : Option Value} {hr : pH} {h : pH}  {b : (Int32 × pH)} (e : f_TextReader_hardFault h = b) (k : (fun v : (Int32 × pH) => r = some (.int v.1) ∧ hr = v.2) b) : Go E M_TextReader_hardFault 0 [some (.ref 3)] [] h r hr := by
  unfold f_TextReader_hardFault at e
  refine sl_ok ok_TextReader_hardFault [.aload_n 0, .getfield 53, .aload_n 0, .getfield 26, .getfield 56] (pc1 := 11) (ls1 := [some (.ref 3)]) (st1 := [.int (hI h 1 3), .int (hI h 3 5)]) (h1 := h) (P := (ak 3 = 0 ∧ cx 3 = 10) ∧ (ak 3 = 0 ∧ cx 3 = 10) ∧ (ak 1 = 0 ∧ cx 1 = 9) ∧ True) (by decide +kernel) rfl ⟨⟨rfl, rfl⟩, ⟨rfl, rfl⟩, ⟨rfl, rfl⟩, trivial⟩ ?_
  refine q_callS ok_TextReader_following (as := [.int (hI h 3 5), .int (hI h 1 3)]) (st := []) ⟨wd_41, wd_42, wd_43, ds_TextReader_following, Nat.le_of_ble_eq_true rfl, Nat.le_of_ble_eq_true rfl⟩ (s_TextReader_following ) rfl (fun v hv => by cases hv; rfl) (Nat.le_of_ble_eq_true rfl) (by decide +kernel) rfl ?_
  refine sl_ok ok_TextReader_hardFault [.iconst (-1)] (pc1 := 15) (ls1 := [some (.ref 3)]) (st1 := [.int (-1), .int (f_TextReader_following (hI h 3 5) (hI h 1 3))]) (h1 := h) (P := True) (by decide +kernel) rfl trivial ?_
  refine q_icmp_ne (off := 5) (tgt := 20) (by decide +kernel) (by decide) (fun c_1 => ?_) (fun c_1 => ?_)
  · have e := it_f c_1 e
    refine sl_ok ok_TextReader_hardFault [.aload_n 0, .dup, .getfield 74, .iconst 1, .iadd, .putfield 74, .aload_n 0, .getfield 26, .getfield 56, .iconst 1] (pc1 := 38) (ls1 := [some (.ref 3)]) (st1 := [.int 1, .int (hI (sI h 3 6 ((hI h 3 6) + 1)) 1 3)]) (h1 := (sI h 3 6 ((hI h 3 6) + 1))) (P := (ak 3 = 0 ∧ cx 3 = 10) ∧ (ak 3 = 0 ∧ cx 3 = 10) ∧ (ak 3 = 0 ∧ cx 3 = 10) ∧ (ak 1 = 0 ∧ cx 1 = 9) ∧ True) (by decide +kernel) rfl ⟨⟨rfl, rfl⟩, ⟨rfl, rfl⟩, ⟨rfl, rfl⟩, ⟨rfl, rfl⟩, trivial⟩ ?_
    refine q_icmp_ne (off := 13) (tgt := 51) (by decide +kernel) (by decide) (fun c_2 => ?_) (fun c_2 => ?_)
    · have e := it_f c_2 e
      exact b_TextReader_hardFault_J1  e k
    · have e := it_t c_2 e
      refine sl_ok ok_TextReader_hardFault [.aload_n 0, .dup, .getfield 77, .iconst 1, .iadd, .putfield 77] (pc1 := 51) (ls1 := [some (.ref 3)]) (st1 := []) (h1 := (sI (sI h 3 6 ((hI h 3 6) + 1)) 3 7 ((hI (sI h 3 6 ((hI h 3 6) + 1)) 3 7) + 1))) (P := (ak 3 = 0 ∧ cx 3 = 10) ∧ (ak 3 = 0 ∧ cx 3 = 10) ∧ True) (by decide +kernel) rfl ⟨⟨rfl, rfl⟩, ⟨rfl, rfl⟩, trivial⟩ ?_
      exact b_TextReader_hardFault_J1  e k
  · have e := it_t c_1 e
    refine sl_ok ok_TextReader_hardFault [.iconst 1] (pc1 := 19) (ls1 := [some (.ref 3)]) (st1 := [.int 1]) (h1 := h) (P := True) (by decide +kernel) rfl trivial ?_
    cases e
    exact q_iret rfl k.1 k.2 (by decide +kernel)
theorem s_TextReader_hardFault {E : pE} {h : pH}  : Ct E M_TextReader_hardFault [.ref 3] h (some (.int (f_TextReader_hardFault h).1)) (f_TextReader_hardFault h).2 :=
  Ct_of ok_TextReader_hardFault [some (.ref 3)] (Nat.le_of_ble_eq_true rfl) rfl (b_TextReader_hardFault  rfl ⟨rfl, rfl⟩)
def f_TextReader_endWith (x1 : Int32) (x2 : Int32) (h : pH) : (Int32 × pH) :=
  (x1, (sI (sI h 3 4 x1) 3 1 x2))
set_option maxHeartbeats 4000000 in
theorem b_TextReader_endWith {E : pE} {r : Option Value} {hr : pH} {x1 : Int32} {x2 : Int32} {h : pH}  {b : (Int32 × pH)} (e : f_TextReader_endWith x1 x2 h = b) (k : (fun v : (Int32 × pH) => r = some (.int v.1) ∧ hr = v.2) b) : Go E M_TextReader_endWith 0 [some (.ref 3), some (.int x1), some (.int x2)] [] h r hr := by
  unfold f_TextReader_endWith at e
  refine sl_ok ok_TextReader_endWith [.aload_n 0, .iload_n 1, .putfield 65, .aload_n 0, .iload_n 2, .putfield 18, .iload_n 1] (pc1 := 11) (ls1 := [some (.ref 3), some (.int x1), some (.int x2)]) (st1 := [.int x1]) (h1 := (sI (sI h 3 4 x1) 3 1 x2)) (P := (ak 3 = 0 ∧ cx 3 = 10) ∧ (ak 3 = 0 ∧ cx 3 = 10) ∧ True) (by decide +kernel) rfl ⟨⟨rfl, rfl⟩, ⟨rfl, rfl⟩, trivial⟩ ?_
  cases e
  exact q_iret rfl k.1 k.2 (by decide +kernel)
theorem s_TextReader_endWith {E : pE} {x1 : Int32} {x2 : Int32} {h : pH}  : Ct E M_TextReader_endWith [.ref 3, .int x1, .int x2] h (some (.int (f_TextReader_endWith x1 x2 h).1)) (f_TextReader_endWith x1 x2 h).2 :=
  Ct_of ok_TextReader_endWith [some (.ref 3), some (.int x1), some (.int x2)] (Nat.le_of_ble_eq_true rfl) rfl (b_TextReader_endWith  rfl ⟨rfl, rfl⟩)
def f_TextReader_takeName_L1 (x1 : Int32) (h : pH) : Option ((Int32 × pH) ⊕ pH) :=
  if (hI h 4 2) ≤ x1 then
    if 12 ≤ (hI h 4 2) then
      some (.inr h)
    else
      if (hI h 4 2) < 0 ∨ 12 ≤ (hI h 4 2).toNatClampNeg then none else
      some (.inr (sL h 7 (hI h 4 2).toNatClampNeg (hL h 1 5)))
  else
    if x1 < 0 ∨ 12 ≤ x1.toNatClampNeg then none else
    if (lg_cmp (hL h 7 x1.toNatClampNeg) (hL h 1 5)) = 0 then
      some (.inl ((x1 + 1), ((f_TextReader_endWith (3 : Int32) (hI h 1 2) h).2)))
    else
      some (.inl ((x1 + 1), h))
set_option maxHeartbeats 4000000 in
theorem b_TextReader_takeName_L1 {E : pE} {r : Option Value} {hr : pH} {x1 : Int32} {h : pH}  {b : ((Int32 × pH) ⊕ pH)} (e : f_TextReader_takeName_L1 x1 h = some b) (k : (Sum.elim (fun s : (Int32 × pH) => Go E M_TextReader_takeName 2 [some (.ref 3), some (.int s.1)] [] s.2 r hr) (fun v : pH => r = none ∧ hr = v)) b) : Go E M_TextReader_takeName 2 [some (.ref 3), some (.int x1)] [] h r hr := by
  unfold f_TextReader_takeName_L1 at e
  refine sl_ok ok_TextReader_takeName [.iload_n 1, .aload_n 0, .getfield 12, .getfield 94] (pc1 := 10) (ls1 := [some (.ref 3), some (.int x1)]) (st1 := [.int (hI h 4 2), .int x1]) (h1 := h) (P := (ak 3 = 0 ∧ cx 3 = 10) ∧ (ak 4 = 0 ∧ cx 4 = 0) ∧ True) (by decide +kernel) rfl ⟨⟨rfl, rfl⟩, ⟨rfl, rfl⟩, trivial⟩ ?_
  refine q_icmp_ge (off := 39) (tgt := 49) (by decide +kernel) (by decide) (fun c_1 => ?_) (fun c_1 => ?_)
  · have e := it_t c_1 e
    refine sl_ok ok_TextReader_takeName [.aload_n 0, .getfield 12, .getfield 94, .bipush 12] (pc1 := 58) (ls1 := [some (.ref 3), some (.int x1)]) (st1 := [.int 12, .int (hI h 4 2)]) (h1 := h) (P := (ak 3 = 0 ∧ cx 3 = 10) ∧ (ak 4 = 0 ∧ cx 4 = 0) ∧ True) (by decide +kernel) rfl ⟨⟨rfl, rfl⟩, ⟨rfl, rfl⟩, trivial⟩ ?_
    refine q_icmp_ge (off := 22) (tgt := 80) (by decide +kernel) (by decide) (fun c_2 => ?_) (fun c_2 => ?_)
    · have e := it_t c_2 e
      cases e
      exact q_vret rfl k.1 k.2 (by decide +kernel)
    · have e := it_f c_2 e
      obtain ⟨g_3, e⟩ := it_g e
      refine sl_ok ok_TextReader_takeName [.aload_n 0, .getfield 22, .aload_n 0, .getfield 12, .getfield 94, .aload_n 0, .getfield 26, .getfield 97, .lastore] (pc1 := 80) (ls1 := [some (.ref 3), some (.int x1)]) (st1 := []) (h1 := (sL h 7 (hI h 4 2).toNatClampNeg (hL h 1 5))) (P := (ak 3 = 0 ∧ cx 3 = 10) ∧ (ak 3 = 0 ∧ cx 3 = 10) ∧ (ak 4 = 0 ∧ cx 4 = 0) ∧ (ak 3 = 0 ∧ cx 3 = 10) ∧ (ak 1 = 0 ∧ cx 1 = 9) ∧ (ak 7 = 4 ∧ ¬ ((hI h 4 2) < 0 ∨ cx 7 ≤ (hI h 4 2).toNatClampNeg)) ∧ True) (by decide +kernel) rfl ⟨⟨rfl, rfl⟩, ⟨rfl, rfl⟩, ⟨rfl, rfl⟩, ⟨rfl, rfl⟩, ⟨rfl, rfl⟩, ⟨rfl, g_3⟩, trivial⟩ ?_
      cases e
      exact q_vret rfl k.1 k.2 (by decide +kernel)
  · have e := it_f c_1 e
    obtain ⟨g_4, e⟩ := it_g e
    refine sl_ok ok_TextReader_takeName [.aload_n 0, .getfield 22, .iload_n 1, .laload, .aload_n 0, .getfield 26, .getfield 97, .lcmp] (pc1 := 27) (ls1 := [some (.ref 3), some (.int x1)]) (st1 := [.int (lg_cmp (hL h 7 x1.toNatClampNeg) (hL h 1 5))]) (h1 := h) (P := (ak 3 = 0 ∧ cx 3 = 10) ∧ (ak 7 = 4 ∧ ¬ (x1 < 0 ∨ cx 7 ≤ x1.toNatClampNeg)) ∧ (ak 3 = 0 ∧ cx 3 = 10) ∧ (ak 1 = 0 ∧ cx 1 = 9) ∧ True) (by decide +kernel) rfl ⟨⟨rfl, rfl⟩, ⟨rfl, g_4⟩, ⟨rfl, rfl⟩, ⟨rfl, rfl⟩, trivial⟩ ?_
    refine q_if_ne (off := 16) (tgt := 43) (by decide +kernel) (by decide) (fun c_5 => ?_) (fun c_5 => ?_)
    · have e := it_f c_5 e
      refine sl_ok ok_TextReader_takeName [.iinc 1 1] (pc1 := 46) (ls1 := [some (.ref 3), some (.int (x1 + 1))]) (st1 := []) (h1 := h) (P := True) (by decide +kernel) rfl trivial ?_
      refine q_goto (off := -44) (tgt := 2) (by decide) (by decide +kernel) ?_
      cases e
      exact k
    · have e := it_t c_5 e
      refine sl_ok ok_TextReader_takeName [.aload_n 0, .iconst 3, .aload_n 0, .getfield 26, .getfield 43] (pc1 := 39) (ls1 := [some (.ref 3), some (.int x1)]) (st1 := [.int (hI h 1 2), .int 3, .ref 3]) (h1 := h) (P := (ak 3 = 0 ∧ cx 3 = 10) ∧ (ak 1 = 0 ∧ cx 1 = 9) ∧ True) (by decide +kernel) rfl ⟨⟨rfl, rfl⟩, ⟨rfl, rfl⟩, trivial⟩ ?_
      refine q_callV ok_TextReader_endWith (as := [.int 3, .int (hI h 1 2)]) (st := []) ⟨wd_44, wd_45, wd_46, wd_43, ds_TextReader_endWith, Nat.le_of_ble_eq_true rfl, Nat.le_of_ble_eq_true rfl⟩ (s_TextReader_endWith ) rfl ⟨rfl, rfl⟩ (ci := 10) rfl (fun v hv => by cases hv; rfl) (Nat.le_of_ble_eq_true rfl) (by decide +kernel) rfl ?_
      refine sl_ok ok_TextReader_takeName [.pop, .iinc 1 1] (pc1 := 46) (ls1 := [some (.ref 3), some (.int (x1 + 1))]) (st1 := []) (h1 := ((f_TextReader_endWith (3 : Int32) (hI h 1 2) h).2)) (P := True) (by decide +kernel) rfl trivial ?_
      refine q_goto (off := -44) (tgt := 2) (by decide) (by decide +kernel) ?_
      cases e
      exact k
def f_TextReader_takeName (h : pH) : Option pH :=
  lp (fun s => f_TextReader_takeName_L1 s.1 s.2) lpN (0, h)
set_option maxHeartbeats 4000000 in
theorem b_TextReader_takeName {E : pE} {r : Option Value} {hr : pH} {h : pH}  {b : pH} (e : f_TextReader_takeName h = some b) (k : (fun v : pH => r = none ∧ hr = v) b) : Go E M_TextReader_takeName 0 [some (.ref 3), none] [] h r hr := by
  unfold f_TextReader_takeName at e
  refine sl_ok ok_TextReader_takeName [.iconst 0, .istore_n 1] (pc1 := 2) (ls1 := [some (.ref 3), some (.int 0)]) (st1 := []) (h1 := h) (P := True) (by decide +kernel) rfl trivial ?_
  exact lp_in e (fun s => Go E M_TextReader_takeName 2 [some (.ref 3), some (.int s.1)] [] s.2 r hr) (fun v : pH => r = none ∧ hr = v) (fun _ _ e k => b_TextReader_takeName_L1  e k) k
theorem s_TextReader_takeName {E : pE} {h : pH}  {v : pH} (e : f_TextReader_takeName h = some v) : Ct E M_TextReader_takeName [.ref 3] h none v :=
  Ct_of ok_TextReader_takeName [some (.ref 3), none] (Nat.le_of_ble_eq_true rfl) rfl (b_TextReader_takeName  e ⟨rfl, rfl⟩)
def f_TextReader_takeGrid_J1 (h : pH) : pH :=
  ((f_TextReader_endWith (5 : Int32) (hI h 1 2) h).2)
set_option maxHeartbeats 4000000 in
theorem b_TextReader_takeGrid_J1 {E : pE} {r : Option Value} {hr : pH} {h : pH}  {b : pH} (e : f_TextReader_takeGrid_J1 h = b) (k : (fun v : pH => r = none ∧ hr = v) b) : Go E M_TextReader_takeGrid 11 [some (.ref 3), none] [] h r hr := by
  unfold f_TextReader_takeGrid_J1 at e
  refine sl_ok ok_TextReader_takeGrid [.aload_n 0, .iconst 5, .aload_n 0, .getfield 26, .getfield 43] (pc1 := 20) (ls1 := [some (.ref 3), none]) (st1 := [.int (hI h 1 2), .int 5, .ref 3]) (h1 := h) (P := (ak 3 = 0 ∧ cx 3 = 10) ∧ (ak 1 = 0 ∧ cx 1 = 9) ∧ True) (by decide +kernel) rfl ⟨⟨rfl, rfl⟩, ⟨rfl, rfl⟩, trivial⟩ ?_
  refine q_callV ok_TextReader_endWith (as := [.int 5, .int (hI h 1 2)]) (st := []) ⟨wd_44, wd_45, wd_46, wd_43, ds_TextReader_endWith, Nat.le_of_ble_eq_true rfl, Nat.le_of_ble_eq_true rfl⟩ (s_TextReader_endWith ) rfl ⟨rfl, rfl⟩ (ci := 10) rfl (fun v hv => by cases hv; rfl) (Nat.le_of_ble_eq_true rfl) (by decide +kernel) rfl ?_
  refine sl_ok ok_TextReader_takeGrid [.pop] (pc1 := 24) (ls1 := [some (.ref 3), none]) (st1 := []) (h1 := ((f_TextReader_endWith (5 : Int32) (hI h 1 2) h).2)) (P := True) (by decide +kernel) rfl trivial ?_
  refine q_goto (off := 11) (tgt := 35) (by decide) (by decide +kernel) ?_
  cases e
  exact q_vret rfl k.1 k.2 (by decide +kernel)
def f_TextReader_takeGrid (x1 : Int32) (h : pH) : pH :=
  if x1 < 1 then
    f_TextReader_takeGrid_J1 h
  else
    if x1 ≤ 20 then
      (sI h 4 3 x1)
    else
      f_TextReader_takeGrid_J1 h
set_option maxHeartbeats 4000000 in
theorem b_TextReader_takeGrid {E : pE} {r : Option Value} {hr : pH} {x1 : Int32} {h : pH}  {b : pH} (e : f_TextReader_takeGrid x1 h = b) (k : (fun v : pH => r = none ∧ hr = v) b) : Go E M_TextReader_takeGrid 0 [some (.ref 3), some (.int x1)] [] h r hr := by
  unfold f_TextReader_takeGrid at e
  refine sl_ok ok_TextReader_takeGrid [.iload_n 1, .iconst 1] (pc1 := 2) (ls1 := [some (.ref 3), some (.int x1)]) (st1 := [.int 1, .int x1]) (h1 := h) (P := True) (by decide +kernel) rfl trivial ?_
  refine q_icmp_lt (off := 9) (tgt := 11) (by decide +kernel) (by decide) (fun c_1 => ?_) (fun c_1 => ?_)
  · have e := it_t c_1 e
    refine Go.sb [some (.ref 3), none] (And.intro rfl trivial) ?_
    exact b_TextReader_takeGrid_J1  e k
  · have e := it_f c_1 e
    refine sl_ok ok_TextReader_takeGrid [.iload_n 1, .bipush 20] (pc1 := 8) (ls1 := [some (.ref 3), some (.int x1)]) (st1 := [.int 20, .int x1]) (h1 := h) (P := True) (by decide +kernel) rfl trivial ?_
    refine q_icmp_le (off := 19) (tgt := 27) (by decide +kernel) (by decide) (fun c_2 => ?_) (fun c_2 => ?_)
    · have e := it_t c_2 e
      refine sl_ok ok_TextReader_takeGrid [.aload_n 0, .getfield 12, .iload_n 1, .putfield 119] (pc1 := 35) (ls1 := [some (.ref 3), some (.int x1)]) (st1 := []) (h1 := (sI h 4 3 x1)) (P := (ak 3 = 0 ∧ cx 3 = 10) ∧ (ak 4 = 0 ∧ cx 4 = 0) ∧ True) (by decide +kernel) rfl ⟨⟨rfl, rfl⟩, ⟨rfl, rfl⟩, trivial⟩ ?_
      cases e
      exact q_vret rfl k.1 k.2 (by decide +kernel)
    · have e := it_f c_2 e
      refine Go.sb [some (.ref 3), none] (And.intro rfl trivial) ?_
      exact b_TextReader_takeGrid_J1  e k
theorem s_TextReader_takeGrid {E : pE} {x1 : Int32} {h : pH}  : Ct E M_TextReader_takeGrid [.ref 3, .int x1] h none (f_TextReader_takeGrid x1 h) :=
  Ct_of ok_TextReader_takeGrid [some (.ref 3), some (.int x1)] (Nat.le_of_ble_eq_true rfl) rfl (b_TextReader_takeGrid  rfl ⟨rfl, rfl⟩)
def f_C_isWithinReach (x0 : Int32) : Int32 :=
  if x0 < (-50) then
    0
  else
    if 50 < x0 then
      0
    else
      1
set_option maxHeartbeats 4000000 in
theorem b_C_isWithinReach {E : pE} {r : Option Value} {hr : pH} {x0 : Int32} {h : pH}  {b : Int32} (e : f_C_isWithinReach x0 = b) (k : (fun v : Int32 => r = some (.int v) ∧ hr = h) b) : Go E M_C_isWithinReach 0 [some (.int x0)] [] h r hr := by
  unfold f_C_isWithinReach at e
  refine sl_ok ok_C_isWithinReach [.iload_n 0, .bipush (-50)] (pc1 := 3) (ls1 := [some (.int x0)]) (st1 := [.int (-50), .int x0]) (h1 := h) (P := True) (by decide +kernel) rfl trivial ?_
  refine q_icmp_lt (off := 13) (tgt := 16) (by decide +kernel) (by decide) (fun c_1 => ?_) (fun c_1 => ?_)
  · have e := it_t c_1 e
    refine sl_ok ok_C_isWithinReach [.iconst 0] (pc1 := 17) (ls1 := [some (.int x0)]) (st1 := [.int 0]) (h1 := h) (P := True) (by decide +kernel) rfl trivial ?_
    cases e
    exact q_zret rfl (Or.inl rfl) k.1 k.2 (by decide +kernel)
  · have e := it_f c_1 e
    refine sl_ok ok_C_isWithinReach [.iload_n 0, .bipush 50] (pc1 := 9) (ls1 := [some (.int x0)]) (st1 := [.int 50, .int x0]) (h1 := h) (P := True) (by decide +kernel) rfl trivial ?_
    refine q_icmp_gt (off := 7) (tgt := 16) (by decide +kernel) (by decide) (fun c_2 => ?_) (fun c_2 => ?_)
    · have e := it_t c_2 e
      refine sl_ok ok_C_isWithinReach [.iconst 0] (pc1 := 17) (ls1 := [some (.int x0)]) (st1 := [.int 0]) (h1 := h) (P := True) (by decide +kernel) rfl trivial ?_
      cases e
      exact q_zret rfl (Or.inl rfl) k.1 k.2 (by decide +kernel)
    · have e := it_f c_2 e
      refine sl_ok ok_C_isWithinReach [.iconst 1] (pc1 := 13) (ls1 := [some (.int x0)]) (st1 := [.int 1]) (h1 := h) (P := True) (by decide +kernel) rfl trivial ?_
      refine q_goto (off := 4) (tgt := 17) (by decide) (by decide +kernel) ?_
      cases e
      exact q_zret rfl (Or.inr rfl) k.1 k.2 (by decide +kernel)
theorem s_C_isWithinReach {E : pE} {x0 : Int32} {h : pH}  : Ct E M_C_isWithinReach [.int x0] h (some (.int (f_C_isWithinReach x0))) h :=
  Ct_of ok_C_isWithinReach [some (.int x0)] (Nat.le_of_ble_eq_true rfl) rfl (b_C_isWithinReach  rfl ⟨rfl, rfl⟩)
def f_Cloud_isTaken_L1 (o0 : Nat) (x1 : Int32) (x2 : Int32) (h : pH) (x3 : Int32) : Option (Int32 ⊕ Int32) :=
  if (hI h o0 2) ≤ x3 then
    some (.inr 0)
  else
    if x3 < 0 ∨ 12 ≤ x3.toNatClampNeg then none else
    if (hI h (rf o0 0) x3.toNatClampNeg) = x1 then
      if (hI h (rf o0 1) x3.toNatClampNeg) = x2 then
        some (.inr 1)
      else
        some (.inl (x3 + 1))
    else
      some (.inl (x3 + 1))
set_option maxHeartbeats 4000000 in
theorem b_Cloud_isTaken_L1 {E : pE} {r : Option Value} {hr : pH} {o0 : Nat} {x1 : Int32} {x2 : Int32} {h : pH} {x3 : Int32} (ho0 : ak o0 = 0 ∧ cx o0 = 0) {b : (Int32 ⊕ Int32)} (e : f_Cloud_isTaken_L1 o0 x1 x2 h x3 = some b) (k : (Sum.elim (fun s : Int32 => Go E M_Cloud_isTaken 2 [some (.ref o0), some (.int x1), some (.int x2), some (.int s)] [] h r hr) (fun v : Int32 => r = some (.int v) ∧ hr = h)) b) : Go E M_Cloud_isTaken 2 [some (.ref o0), some (.int x1), some (.int x2), some (.int x3)] [] h r hr := by
  unfold f_Cloud_isTaken_L1 at e
  refine sl_ok ok_Cloud_isTaken [.iload_n 3, .aload_n 0, .getfield 22] (pc1 := 7) (ls1 := [some (.ref o0), some (.int x1), some (.int x2), some (.int x3)]) (st1 := [.int (hI h o0 2), .int x3]) (h1 := h) (P := (ak o0 = 0 ∧ cx o0 = 0) ∧ True) (by decide +kernel) rfl ⟨ho0, trivial⟩ ?_
  refine q_icmp_ge (off := 31) (tgt := 38) (by decide +kernel) (by decide) (fun c_1 => ?_) (fun c_1 => ?_)
  · have e := it_t c_1 e
    refine sl_ok ok_Cloud_isTaken [.iconst 0] (pc1 := 39) (ls1 := [some (.ref o0), some (.int x1), some (.int x2), some (.int x3)]) (st1 := [.int 0]) (h1 := h) (P := True) (by decide +kernel) rfl trivial ?_
    cases e
    exact q_zret rfl (Or.inl rfl) k.1 k.2 (by decide +kernel)
  · have e := it_f c_1 e
    obtain ⟨g_2, e⟩ := it_g e
    refine sl_ok ok_Cloud_isTaken [.aload_n 0, .getfield 9, .iload_n 3, .iaload, .iload_n 1] (pc1 := 17) (ls1 := [some (.ref o0), some (.int x1), some (.int x2), some (.int x3)]) (st1 := [.int x1, .int (hI h (rf o0 0) x3.toNatClampNeg)]) (h1 := h) (P := (ak o0 = 0 ∧ cx o0 = 0) ∧ (ak (rf o0 0) = 1 ∧ ¬ (x3 < 0 ∨ cx (rf o0 0) ≤ x3.toNatClampNeg)) ∧ True) (by decide +kernel) rfl ⟨ho0, ⟨(st_0_0 ho0).1, (by rw [(st_0_0 ho0).2]; exact g_2)⟩, trivial⟩ ?_
    refine q_icmp_ne (off := 15) (tgt := 32) (by decide +kernel) (by decide) (fun c_3 => ?_) (fun c_3 => ?_)
    · have e := it_f c_3 e
      refine sl_ok ok_Cloud_isTaken [.iinc 3 1] (pc1 := 35) (ls1 := [some (.ref o0), some (.int x1), some (.int x2), some (.int (x3 + 1))]) (st1 := []) (h1 := h) (P := True) (by decide +kernel) rfl trivial ?_
      refine q_goto (off := -33) (tgt := 2) (by decide) (by decide +kernel) ?_
      cases e
      exact k
    · have e := it_t c_3 e
      refine sl_ok ok_Cloud_isTaken [.aload_n 0, .getfield 15, .iload_n 3, .iaload, .iload_n 2] (pc1 := 27) (ls1 := [some (.ref o0), some (.int x1), some (.int x2), some (.int x3)]) (st1 := [.int x2, .int (hI h (rf o0 1) x3.toNatClampNeg)]) (h1 := h) (P := (ak o0 = 0 ∧ cx o0 = 0) ∧ (ak (rf o0 1) = 1 ∧ ¬ (x3 < 0 ∨ cx (rf o0 1) ≤ x3.toNatClampNeg)) ∧ True) (by decide +kernel) rfl ⟨ho0, ⟨(st_0_1 ho0).1, (by rw [(st_0_1 ho0).2]; exact g_2)⟩, trivial⟩ ?_
      refine q_icmp_ne (off := 5) (tgt := 32) (by decide +kernel) (by decide) (fun c_4 => ?_) (fun c_4 => ?_)
      · have e := it_f c_4 e
        refine sl_ok ok_Cloud_isTaken [.iinc 3 1] (pc1 := 35) (ls1 := [some (.ref o0), some (.int x1), some (.int x2), some (.int (x3 + 1))]) (st1 := []) (h1 := h) (P := True) (by decide +kernel) rfl trivial ?_
        refine q_goto (off := -33) (tgt := 2) (by decide) (by decide +kernel) ?_
        cases e
        exact k
      · have e := it_t c_4 e
        refine sl_ok ok_Cloud_isTaken [.iconst 1] (pc1 := 31) (ls1 := [some (.ref o0), some (.int x1), some (.int x2), some (.int x3)]) (st1 := [.int 1]) (h1 := h) (P := True) (by decide +kernel) rfl trivial ?_
        cases e
        exact q_zret rfl (Or.inr rfl) k.1 k.2 (by decide +kernel)
def f_Cloud_isTaken (o0 : Nat) (x1 : Int32) (x2 : Int32) (h : pH) : Option Int32 :=
  lp (fun s => f_Cloud_isTaken_L1 o0 x1 x2 h s) lpN 0
set_option maxHeartbeats 4000000 in
theorem b_Cloud_isTaken {E : pE} {r : Option Value} {hr : pH} {o0 : Nat} {x1 : Int32} {x2 : Int32} {h : pH} (ho0 : ak o0 = 0 ∧ cx o0 = 0) {b : Int32} (e : f_Cloud_isTaken o0 x1 x2 h = some b) (k : (fun v : Int32 => r = some (.int v) ∧ hr = h) b) : Go E M_Cloud_isTaken 0 [some (.ref o0), some (.int x1), some (.int x2), none] [] h r hr := by
  unfold f_Cloud_isTaken at e
  refine sl_ok ok_Cloud_isTaken [.iconst 0, .istore_n 3] (pc1 := 2) (ls1 := [some (.ref o0), some (.int x1), some (.int x2), some (.int 0)]) (st1 := []) (h1 := h) (P := True) (by decide +kernel) rfl trivial ?_
  exact lp_in e (fun s => Go E M_Cloud_isTaken 2 [some (.ref o0), some (.int x1), some (.int x2), some (.int s)] [] h r hr) (fun v : Int32 => r = some (.int v) ∧ hr = h) (fun _ _ e k => b_Cloud_isTaken_L1 ho0 e k) k
theorem s_Cloud_isTaken {E : pE} {o0 : Nat} {x1 : Int32} {x2 : Int32} {h : pH} (ho0 : ak o0 = 0 ∧ cx o0 = 0) {v : Int32} (e : f_Cloud_isTaken o0 x1 x2 h = some v) : Ct E M_Cloud_isTaken [.ref o0, .int x1, .int x2] h (some (.int v)) h :=
  Ct_of ok_Cloud_isTaken [some (.ref o0), some (.int x1), some (.int x2), none] (Nat.le_of_ble_eq_true rfl) rfl (b_Cloud_isTaken ho0 e ⟨rfl, rfl⟩)
def f_Cloud_isFree (o0 : Nat) (x1 : Int32) (x2 : Int32) (h : pH) : Option Int32 :=
  if (f_C_isWithinReach x1) = 0 then
    some 0
  else
    if (f_C_isWithinReach x2) = 0 then
      some 0
    else
      (f_Cloud_isTaken o0 x1 x2 h).bind fun v_3 =>
      if v_3 = 0 then
        some 1
      else
        some 0
set_option maxHeartbeats 4000000 in
theorem b_Cloud_isFree {E : pE} {r : Option Value} {hr : pH} {o0 : Nat} {x1 : Int32} {x2 : Int32} {h : pH} (ho0 : ak o0 = 0 ∧ cx o0 = 0) {b : Int32} (e : f_Cloud_isFree o0 x1 x2 h = some b) (k : (fun v : Int32 => r = some (.int v) ∧ hr = h) b) : Go E M_Cloud_isFree 0 [some (.ref o0), some (.int x1), some (.int x2)] [] h r hr := by
  unfold f_Cloud_isFree at e
  refine sl_ok ok_Cloud_isFree [.iload_n 1] (pc1 := 1) (ls1 := [some (.ref o0), some (.int x1), some (.int x2)]) (st1 := [.int x1]) (h1 := h) (P := True) (by decide +kernel) rfl trivial ?_
  refine q_callSN ok_C_isWithinReach (as := [.int x1]) (st := []) ⟨(List.mem_of_getElem? (i := 12) rfl), wd_47, wd_48, ds_C_isWithinReach, Nat.le_of_ble_eq_true rfl, Nat.le_of_ble_eq_true rfl⟩ (s_C_isWithinReach ) rfl (fun v hv => by cases hv; rfl) (Nat.le_of_ble_eq_true rfl) (by decide +kernel) rfl ?_
  refine q_if_eq (off := 23) (tgt := 27) (by decide +kernel) (by decide) (fun c_1 => ?_) (fun c_1 => ?_)
  · have e := it_t c_1 e
    refine sl_ok ok_Cloud_isFree [.iconst 0] (pc1 := 28) (ls1 := [some (.ref o0), some (.int x1), some (.int x2)]) (st1 := [.int 0]) (h1 := h) (P := True) (by decide +kernel) rfl trivial ?_
    cases e
    exact q_zret rfl (Or.inl rfl) k.1 k.2 (by decide +kernel)
  · have e := it_f c_1 e
    refine sl_ok ok_Cloud_isFree [.iload_n 2] (pc1 := 8) (ls1 := [some (.ref o0), some (.int x1), some (.int x2)]) (st1 := [.int x2]) (h1 := h) (P := True) (by decide +kernel) rfl trivial ?_
    refine q_callSN ok_C_isWithinReach (as := [.int x2]) (st := []) ⟨(List.mem_of_getElem? (i := 12) rfl), wd_47, wd_48, ds_C_isWithinReach, Nat.le_of_ble_eq_true rfl, Nat.le_of_ble_eq_true rfl⟩ (s_C_isWithinReach ) rfl (fun v hv => by cases hv; rfl) (Nat.le_of_ble_eq_true rfl) (by decide +kernel) rfl ?_
    refine q_if_eq (off := 16) (tgt := 27) (by decide +kernel) (by decide) (fun c_2 => ?_) (fun c_2 => ?_)
    · have e := it_t c_2 e
      refine sl_ok ok_Cloud_isFree [.iconst 0] (pc1 := 28) (ls1 := [some (.ref o0), some (.int x1), some (.int x2)]) (st1 := [.int 0]) (h1 := h) (P := True) (by decide +kernel) rfl trivial ?_
      cases e
      exact q_zret rfl (Or.inl rfl) k.1 k.2 (by decide +kernel)
    · have e := it_f c_2 e
      refine sl_ok ok_Cloud_isFree [.aload_n 0, .iload_n 1, .iload_n 2] (pc1 := 17) (ls1 := [some (.ref o0), some (.int x1), some (.int x2)]) (st1 := [.int x2, .int x1, .ref o0]) (h1 := h) (P := True) (by decide +kernel) rfl trivial ?_
      obtain ⟨v_3, e_4, e⟩ := bi_s e
      refine q_callV ok_Cloud_isTaken (as := [.int x1, .int x2]) (st := []) ⟨wd_49, wd_50, wd_51, wd_14, ds_Cloud_isTaken, Nat.le_of_ble_eq_true rfl, Nat.le_of_ble_eq_true rfl⟩ (s_Cloud_isTaken ho0 e_4) rfl ho0 (ci := 0) rfl (fun v hv => by cases hv; rfl) (Nat.le_of_ble_eq_true rfl) (by decide +kernel) rfl ?_
      refine q_if_ne (off := 7) (tgt := 27) (by decide +kernel) (by decide) (fun c_5 => ?_) (fun c_5 => ?_)
      · have e := it_f c_5 e
        refine sl_ok ok_Cloud_isFree [.iconst 0] (pc1 := 28) (ls1 := [some (.ref o0), some (.int x1), some (.int x2)]) (st1 := [.int 0]) (h1 := h) (P := True) (by decide +kernel) rfl trivial ?_
        cases e
        exact q_zret rfl (Or.inl rfl) k.1 k.2 (by decide +kernel)
      · have e := it_t c_5 e
        refine sl_ok ok_Cloud_isFree [.iconst 1] (pc1 := 24) (ls1 := [some (.ref o0), some (.int x1), some (.int x2)]) (st1 := [.int 1]) (h1 := h) (P := True) (by decide +kernel) rfl trivial ?_
        refine q_goto (off := 4) (tgt := 28) (by decide) (by decide +kernel) ?_
        cases e
        exact q_zret rfl (Or.inr rfl) k.1 k.2 (by decide +kernel)
theorem s_Cloud_isFree {E : pE} {o0 : Nat} {x1 : Int32} {x2 : Int32} {h : pH} (ho0 : ak o0 = 0 ∧ cx o0 = 0) {v : Int32} (e : f_Cloud_isFree o0 x1 x2 h = some v) : Ct E M_Cloud_isFree [.ref o0, .int x1, .int x2] h (some (.int v)) h :=
  Ct_of ok_Cloud_isFree [some (.ref o0), some (.int x1), some (.int x2)] (Nat.le_of_ble_eq_true rfl) rfl (b_Cloud_isFree ho0 e ⟨rfl, rfl⟩)
def f_Cloud_append (o0 : Nat) (x1 : Int32) (x2 : Int32) (h : pH) : Option pH :=
  if 12 ≤ (hI h o0 2) then
    some h
  else
    if (hI h o0 2) < 0 ∨ 12 ≤ (hI h o0 2).toNatClampNeg then none else
    if (hI (sI h (rf o0 0) (hI h o0 2).toNatClampNeg x1) o0 2) < 0 ∨ 12 ≤ (hI (sI h (rf o0 0) (hI h o0 2).toNatClampNeg x1) o0 2).toNatClampNeg then none else
    some (sI (sI (sI (sI h (rf o0 0) (hI h o0 2).toNatClampNeg x1) (rf o0 1) (hI (sI h (rf o0 0) (hI h o0 2).toNatClampNeg x1) o0 2).toNatClampNeg x2) o0 2 ((hI (sI (sI h (rf o0 0) (hI h o0 2).toNatClampNeg x1) (rf o0 1) (hI (sI h (rf o0 0) (hI h o0 2).toNatClampNeg x1) o0 2).toNatClampNeg x2) o0 2) + 1)) o0 4 ((hI (sI (sI (sI h (rf o0 0) (hI h o0 2).toNatClampNeg x1) (rf o0 1) (hI (sI h (rf o0 0) (hI h o0 2).toNatClampNeg x1) o0 2).toNatClampNeg x2) o0 2 ((hI (sI (sI h (rf o0 0) (hI h o0 2).toNatClampNeg x1) (rf o0 1) (hI (sI h (rf o0 0) (hI h o0 2).toNatClampNeg x1) o0 2).toNatClampNeg x2) o0 2) + 1)) o0 4) + 1))
set_option maxHeartbeats 4000000 in
theorem b_Cloud_append {E : pE} {r : Option Value} {hr : pH} {o0 : Nat} {x1 : Int32} {x2 : Int32} {h : pH} (ho0 : ak o0 = 0 ∧ cx o0 = 0) {b : pH} (e : f_Cloud_append o0 x1 x2 h = some b) (k : (fun v : pH => r = none ∧ hr = v) b) : Go E M_Cloud_append 0 [some (.ref o0), some (.int x1), some (.int x2)] [] h r hr := by
  unfold f_Cloud_append at e
  refine sl_ok ok_Cloud_append [.aload_n 0, .getfield 22, .bipush 12] (pc1 := 6) (ls1 := [some (.ref o0), some (.int x1), some (.int x2)]) (st1 := [.int 12, .int (hI h o0 2)]) (h1 := h) (P := (ak o0 = 0 ∧ cx o0 = 0) ∧ True) (by decide +kernel) rfl ⟨ho0, trivial⟩ ?_
  refine q_icmp_ge (off := 43) (tgt := 49) (by decide +kernel) (by decide) (fun c_1 => ?_) (fun c_1 => ?_)
  · have e := it_t c_1 e
    cases e
    exact q_vret rfl k.1 k.2 (by decide +kernel)
  · have e := it_f c_1 e
    obtain ⟨g_2, e⟩ := it_g e
    obtain ⟨g_3, e⟩ := it_g e
    refine sl_ok ok_Cloud_append [.aload_n 0, .getfield 9, .aload_n 0, .getfield 22, .iload_n 1, .iastore, .aload_n 0, .getfield 15, .aload_n 0, .getfield 22, .iload_n 2, .iastore, .aload_n 0, .dup, .getfield 22, .iconst 1, .iadd, .putfield 22, .aload_n 0, .dup, .getfield 37, .iconst 1, .iadd, .putfield 37] (pc1 := 49) (ls1 := [some (.ref o0), some (.int x1), some (.int x2)]) (st1 := []) (h1 := (sI (sI (sI (sI h (rf o0 0) (hI h o0 2).toNatClampNeg x1) (rf o0 1) (hI (sI h (rf o0 0) (hI h o0 2).toNatClampNeg x1) o0 2).toNatClampNeg x2) o0 2 ((hI (sI (sI h (rf o0 0) (hI h o0 2).toNatClampNeg x1) (rf o0 1) (hI (sI h (rf o0 0) (hI h o0 2).toNatClampNeg x1) o0 2).toNatClampNeg x2) o0 2) + 1)) o0 4 ((hI (sI (sI (sI h (rf o0 0) (hI h o0 2).toNatClampNeg x1) (rf o0 1) (hI (sI h (rf o0 0) (hI h o0 2).toNatClampNeg x1) o0 2).toNatClampNeg x2) o0 2 ((hI (sI (sI h (rf o0 0) (hI h o0 2).toNatClampNeg x1) (rf o0 1) (hI (sI h (rf o0 0) (hI h o0 2).toNatClampNeg x1) o0 2).toNatClampNeg x2) o0 2) + 1)) o0 4) + 1))) (P := (ak o0 = 0 ∧ cx o0 = 0) ∧ (ak o0 = 0 ∧ cx o0 = 0) ∧ (ak (rf o0 0) = 1 ∧ ¬ ((hI h o0 2) < 0 ∨ cx (rf o0 0) ≤ (hI h o0 2).toNatClampNeg)) ∧ (ak o0 = 0 ∧ cx o0 = 0) ∧ (ak o0 = 0 ∧ cx o0 = 0) ∧ (ak (rf o0 1) = 1 ∧ ¬ ((hI (sI h (rf o0 0) (hI h o0 2).toNatClampNeg x1) o0 2) < 0 ∨ cx (rf o0 1) ≤ (hI (sI h (rf o0 0) (hI h o0 2).toNatClampNeg x1) o0 2).toNatClampNeg)) ∧ (ak o0 = 0 ∧ cx o0 = 0) ∧ (ak o0 = 0 ∧ cx o0 = 0) ∧ (ak o0 = 0 ∧ cx o0 = 0) ∧ (ak o0 = 0 ∧ cx o0 = 0) ∧ True) (by decide +kernel) rfl ⟨ho0, ho0, ⟨(st_0_0 ho0).1, (by rw [(st_0_0 ho0).2]; exact g_2)⟩, ho0, ho0, ⟨(st_0_1 ho0).1, (by rw [(st_0_1 ho0).2]; exact g_3)⟩, ho0, ho0, ho0, ho0, trivial⟩ ?_
    cases e
    exact q_vret rfl k.1 k.2 (by decide +kernel)
theorem s_Cloud_append {E : pE} {o0 : Nat} {x1 : Int32} {x2 : Int32} {h : pH} (ho0 : ak o0 = 0 ∧ cx o0 = 0) {v : pH} (e : f_Cloud_append o0 x1 x2 h = some v) : Ct E M_Cloud_append [.ref o0, .int x1, .int x2] h none v :=
  Ct_of ok_Cloud_append [some (.ref o0), some (.int x1), some (.int x2)] (Nat.le_of_ble_eq_true rfl) rfl (b_Cloud_append ho0 e ⟨rfl, rfl⟩)
