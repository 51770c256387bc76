def f_R_add (x1 : Int32) (x2 : Int32) (h : pH) : Option (Int32 × pH) :=
  if (f_R_all h) = 12 then
    some ((-1), h)
  else
    (f_R_canBe x1 x2 h).bind fun v_2 =>
    if v_2 = 0 then
      some ((-1), h)
    else
      (f_R_marks h).bind fun v_5 =>
      (f_R_lays3 (f_R_all v_5) x1 x2 v_5).bind fun v_7 =>
      some (((f_R_all (sI v_7 87 0 ((hI v_7 87 0) + 1))) - 1), (sI v_7 87 0 ((hI v_7 87 0) + 1)))
set_option maxHeartbeats 4000000 in
theorem b_R_add {E : pE} {r : Option Value} {hr : pH} {x1 : Int32} {x2 : Int32} {h : pH}  {b : (Int32 × pH)} (e : f_R_add x1 x2 h = some b) (k : (fun v : (Int32 × pH) => r = some (.int v.1) ∧ hr = v.2) b) : Go E M_R_add 0 [some (.ref 79), some (.int x1), some (.int x2)] [] h r hr := by
  unfold f_R_add at e
  refine sl_ok ok_R_add [.aload_n 0] (pc1 := 1) (ls1 := [some (.ref 79), some (.int x1), some (.int x2)]) (st1 := [.ref 79]) (h1 := h) (P := True) (by decide +kernel) rfl trivial ?_
  refine q_callV ok_R_all (as := []) (st := []) ⟨wd_151, wd_152, wd_153, wd_7, ds_R_all, Nat.le_of_ble_eq_true rfl, Nat.le_of_ble_eq_true rfl⟩ (s_R_all ) rfl ⟨rfl, rfl⟩ (ci := 12) rfl (fun v hv => by cases hv; rfl) (Nat.le_of_ble_eq_true rfl) (by decide +kernel) rfl ?_
  refine sl_ok ok_R_add [.bipush 12] (pc1 := 6) (ls1 := [some (.ref 79), some (.int x1), some (.int x2)]) (st1 := [.int 12, .int (f_R_all h)]) (h1 := h) (P := True) (by decide +kernel) rfl trivial ?_
  refine q_icmp_eq (off := 12) (tgt := 18) (by decide +kernel) (by decide) (fun c_1 => ?_) (fun c_1 => ?_)
  · have e := it_t c_1 e
    refine sl_ok ok_R_add [.iconst (-1)] (pc1 := 19) (ls1 := [some (.ref 79), some (.int x1), some (.int x2)]) (st1 := [.int (-1)]) (h1 := h) (P := True) (by decide +kernel) rfl trivial ?_
    cases e
    exact q_iret rfl k.1 k.2 (by decide +kernel)
  · have e := it_f c_1 e
    refine sl_ok ok_R_add [.aload_n 0, .iload_n 1, .iload_n 2] (pc1 := 12) (ls1 := [some (.ref 79), some (.int x1), some (.int x2)]) (st1 := [.int x2, .int x1, .ref 79]) (h1 := h) (P := True) (by decide +kernel) rfl trivial ?_
    obtain ⟨v_2, e_3, e⟩ := bi_s e
    refine q_callV ok_R_canBe (as := [.int x1, .int x2]) (st := []) ⟨wd_163, wd_164, wd_165, wd_7, ds_R_canBe, Nat.le_of_ble_eq_true rfl, Nat.le_of_ble_eq_true rfl⟩ (s_R_canBe  e_3) rfl ⟨rfl, rfl⟩ (ci := 12) rfl (fun v hv => by cases hv; rfl) (Nat.le_of_ble_eq_true rfl) (by decide +kernel) rfl ?_
    refine q_if_ne (off := 5) (tgt := 20) (by decide +kernel) (by decide) (fun c_4 => ?_) (fun c_4 => ?_)
    · have e := it_f c_4 e
      refine sl_ok ok_R_add [.aload_n 0] (pc1 := 21) (ls1 := [some (.ref 79), some (.int x1), some (.int x2)]) (st1 := [.ref 79]) (h1 := h) (P := True) (by decide +kernel) rfl trivial ?_
      obtain ⟨v_5, e_6, e⟩ := bi_s e
      refine q_callV ok_R_marks (as := []) (st := []) ⟨wd_166, wd_167, wd_168, wd_7, ds_R_marks, Nat.le_of_ble_eq_true rfl, Nat.le_of_ble_eq_true rfl⟩ (s_R_marks  e_6) rfl ⟨rfl, rfl⟩ (ci := 12) rfl (fun v hv => by cases hv) (Nat.le_of_ble_eq_true rfl) (by decide +kernel) rfl ?_
      refine sl_ok ok_R_add [.aload_n 0, .aload_n 0] (pc1 := 26) (ls1 := [some (.ref 79), some (.int x1), some (.int x2)]) (st1 := [.ref 79, .ref 79]) (h1 := v_5) (P := True) (by decide +kernel) rfl trivial ?_
      refine q_callV ok_R_all (as := []) (st := [.ref 79]) ⟨wd_151, wd_152, wd_153, wd_7, ds_R_all, Nat.le_of_ble_eq_true rfl, Nat.le_of_ble_eq_true rfl⟩ (s_R_all ) rfl ⟨rfl, rfl⟩ (ci := 12) rfl (fun v hv => by cases hv; rfl) (Nat.le_of_ble_eq_true rfl) (by decide +kernel) rfl ?_
      refine sl_ok ok_R_add [.iload_n 1, .iload_n 2] (pc1 := 31) (ls1 := [some (.ref 79), some (.int x1), some (.int x2)]) (st1 := [.int x2, .int x1, .int (f_R_all v_5), .ref 79]) (h1 := v_5) (P := True) (by decide +kernel) rfl trivial ?_
      obtain ⟨v_7, e_8, e⟩ := bi_s e
      refine q_callV ok_R_lays3 (as := [.int (f_R_all v_5), .int x1, .int x2]) (st := []) ⟨wd_169, wd_170, wd_171, wd_7, ds_R_lays3, Nat.le_of_ble_eq_true rfl, Nat.le_of_ble_eq_true rfl⟩ (s_R_lays3  e_8) rfl ⟨rfl, rfl⟩ (ci := 12) rfl (fun v hv => by cases hv) (Nat.le_of_ble_eq_true rfl) (by decide +kernel) rfl ?_
      refine sl_ok ok_R_add [.aload_n 0, .getfield 40, .iconst 0, .dup2, .iaload, .iconst 1, .iadd, .iastore, .aload_n 0] (pc1 := 45) (ls1 := [some (.ref 79), some (.int x1), some (.int x2)]) (st1 := [.ref 79]) (h1 := (sI v_7 87 0 ((hI v_7 87 0) + 1))) (P := (ak 79 = 0 ∧ cx 79 = 12) ∧ (ak 87 = 1 ∧ ¬ ((0 : Int32) < 0 ∨ cx 87 ≤ (0 : Int32).toNatClampNeg)) ∧ (ak 87 = 1 ∧ ¬ ((0 : Int32) < 0 ∨ cx 87 ≤ (0 : Int32).toNatClampNeg)) ∧ True) (by decide +kernel) rfl ⟨⟨rfl, rfl⟩, ⟨rfl, (by decide)⟩, ⟨rfl, (by decide)⟩, trivial⟩ ?_
      refine q_callV ok_R_all (as := []) (st := []) ⟨wd_151, wd_152, wd_153, wd_7, ds_R_all, Nat.le_of_ble_eq_true rfl, Nat.le_of_ble_eq_true rfl⟩ (s_R_all ) rfl ⟨rfl, rfl⟩ (ci := 12) rfl (fun v hv => by cases hv; rfl) (Nat.le_of_ble_eq_true rfl) (by decide +kernel) rfl ?_
      refine sl_ok ok_R_add [.iconst 1, .isub] (pc1 := 50) (ls1 := [some (.ref 79), some (.int x1), some (.int x2)]) (st1 := [.int ((f_R_all (sI v_7 87 0 ((hI v_7 87 0) + 1))) - 1)]) (h1 := (sI v_7 87 0 ((hI v_7 87 0) + 1))) (P := True) (by decide +kernel) rfl trivial ?_
      cases e
      exact q_iret rfl k.1 k.2 (by decide +kernel)
    · have e := it_t c_4 e
      refine sl_ok ok_R_add [.iconst (-1)] (pc1 := 19) (ls1 := [some (.ref 79), some (.int x1), some (.int x2)]) (st1 := [.int (-1)]) (h1 := h) (P := True) (by decide +kernel) rfl trivial ?_
      cases e
      exact q_iret rfl k.1 k.2 (by decide +kernel)
theorem s_R_add {E : pE} {x1 : Int32} {x2 : Int32} {h : pH}  {v : (Int32 × pH)} (e : f_R_add x1 x2 h = some v) : Ct E M_R_add [.ref 79, .int x1, .int x2] h (some (.int v.1)) v.2 :=
  Ct_of ok_R_add [some (.ref 79), some (.int x1), some (.int x2)] (Nat.le_of_ble_eq_true rfl) rfl (b_R_add  e ⟨rfl, rfl⟩)
def f_Cloud_has (o0 : Nat) (x1 : Int32) (h : pH) : Int32 :=
  if x1 < 0 then
    0
  else
    if (hI h o0 2) ≤ x1 then
      0
    else
      1
set_option maxHeartbeats 4000000 in
theorem b_Cloud_has {E : pE} {r : Option Value} {hr : pH} {o0 : Nat} {x1 : Int32} {h : pH} (ho0 : ak o0 = 0 ∧ cx o0 = 0) {b : Int32} (e : f_Cloud_has o0 x1 h = b) (k : (fun v : Int32 => r = some (.int v) ∧ hr = h) b) : Go E M_Cloud_has 0 [some (.ref o0), some (.int x1)] [] h r hr := by
  unfold f_Cloud_has at e
  refine sl_ok ok_Cloud_has [.iload_n 1] (pc1 := 1) (ls1 := [some (.ref o0), some (.int x1)]) (st1 := [.int x1]) (h1 := h) (P := True) (by decide +kernel) rfl trivial ?_
  refine q_if_lt (off := 15) (tgt := 16) (by decide +kernel) (by decide) (fun c_1 => ?_) (fun c_1 => ?_)
  · have e := it_t c_1 e
    refine sl_ok ok_Cloud_has [.iconst 0] (pc1 := 17) (ls1 := [some (.ref o0), some (.int x1)]) (st1 := [.int 0]) (h1 := h) (P := True) (by decide +kernel) rfl trivial ?_
    cases e
    exact q_zret rfl (Or.inl rfl) k.1 k.2 (by decide +kernel)
  · have e := it_f c_1 e
    refine sl_ok ok_Cloud_has [.iload_n 1, .aload_n 0, .getfield 22] (pc1 := 9) (ls1 := [some (.ref o0), some (.int x1)]) (st1 := [.int (hI h o0 2), .int x1]) (h1 := h) (P := (ak o0 = 0 ∧ cx o0 = 0) ∧ True) (by decide +kernel) rfl ⟨ho0, trivial⟩ ?_
    refine q_icmp_ge (off := 7) (tgt := 16) (by decide +kernel) (by decide) (fun c_2 => ?_) (fun c_2 => ?_)
    · have e := it_t c_2 e
      refine sl_ok ok_Cloud_has [.iconst 0] (pc1 := 17) (ls1 := [some (.ref o0), some (.int x1)]) (st1 := [.int 0]) (h1 := h) (P := True) (by decide +kernel) rfl trivial ?_
      cases e
      exact q_zret rfl (Or.inl rfl) k.1 k.2 (by decide +kernel)
    · have e := it_f c_2 e
      refine sl_ok ok_Cloud_has [.iconst 1] (pc1 := 13) (ls1 := [some (.ref o0), some (.int x1)]) (st1 := [.int 1]) (h1 := h) (P := True) (by decide +kernel) rfl trivial ?_
      refine q_goto (off := 4) (tgt := 17) (by decide) (by decide +kernel) ?_
      cases e
      exact q_zret rfl (Or.inr rfl) k.1 k.2 (by decide +kernel)
theorem s_Cloud_has {E : pE} {o0 : Nat} {x1 : Int32} {h : pH} (ho0 : ak o0 = 0 ∧ cx o0 = 0) : Ct E M_Cloud_has [.ref o0, .int x1] h (some (.int (f_Cloud_has o0 x1 h))) h :=
  Ct_of ok_Cloud_has [some (.ref o0), some (.int x1)] (Nat.le_of_ble_eq_true rfl) rfl (b_Cloud_has ho0 rfl ⟨rfl, rfl⟩)
def f_Cloud_drop_L1 (o0 : Nat) (x2 : Int32) (h : pH) : Option ((Int32 × pH) ⊕ pH) :=
  if (hI h o0 2) ≤ (x2 + 1) then
    some (.inr (sI (sI h o0 2 ((hI h o0 2) - 1)) o0 4 ((hI (sI h o0 2 ((hI h o0 2) - 1)) o0 4) + 1)))
  else
    if (x2 + 1) < 0 ∨ 12 ≤ (x2 + 1).toNatClampNeg then none else
    if x2 < 0 ∨ 12 ≤ x2.toNatClampNeg then none else
    some (.inl ((x2 + 1), (sI (sI h (rf o0 0) x2.toNatClampNeg (hI h (rf o0 0) (x2 + 1).toNatClampNeg)) (rf o0 1) x2.toNatClampNeg (hI (sI h (rf o0 0) x2.toNatClampNeg (hI h (rf o0 0) (x2 + 1).toNatClampNeg)) (rf o0 1) (x2 + 1).toNatClampNeg))))
set_option maxHeartbeats 4000000 in
theorem b_Cloud_drop_L1 {E : pE} {r : Option Value} {hr : pH} {o0 : Nat} {x2 : Int32} {h : pH} (ho0 : ak o0 = 0 ∧ cx o0 = 0) {b : ((Int32 × pH) ⊕ pH)} (e : f_Cloud_drop_L1 o0 x2 h = some b) (k : (Sum.elim (fun s : (Int32 × pH) => Go E M_Cloud_drop 10 [some (.ref o0), none, some (.int s.1)] [] s.2 r hr) (fun v : pH => r = none ∧ hr = v)) b) : Go E M_Cloud_drop 10 [some (.ref o0), none, some (.int x2)] [] h r hr := by
  unfold f_Cloud_drop_L1 at e
  refine sl_ok ok_Cloud_drop [.iload_n 2, .iconst 1, .iadd, .aload_n 0, .getfield 22] (pc1 := 17) (ls1 := [some (.ref o0), none, some (.int x2)]) (st1 := [.int (hI h o0 2), .int (x2 + 1)]) (h1 := h) (P := (ak o0 = 0 ∧ cx o0 = 0) ∧ True) (by decide +kernel) rfl ⟨ho0, trivial⟩ ?_
  refine q_icmp_ge (off := 37) (tgt := 54) (by decide +kernel) (by decide) (fun c_1 => ?_) (fun c_1 => ?_)
  · have e := it_t c_1 e
    refine sl_ok ok_Cloud_drop [.aload_n 0, .dup, .getfield 22, .iconst 1, .isub, .putfield 22, .aload_n 0, .dup, .getfield 37, .iconst 1, .iadd, .putfield 37] (pc1 := 74) (ls1 := [some (.ref o0), none, some (.int x2)]) (st1 := []) (h1 := (sI (sI h o0 2 ((hI h o0 2) - 1)) o0 4 ((hI (sI h o0 2 ((hI h o0 2) - 1)) o0 4) + 1))) (P := (ak o0 = 0 ∧ cx o0 = 0) ∧ (ak o0 = 0 ∧ cx o0 = 0) ∧ (ak o0 = 0 ∧ cx o0 = 0) ∧ (ak o0 = 0 ∧ cx o0 = 0) ∧ True) (by decide +kernel) rfl ⟨ho0, ho0, ho0, ho0, trivial⟩ ?_
    cases e
    exact q_vret rfl k.1 k.2 (by decide +kernel)
  · have e := it_f c_1 e
    obtain ⟨g_2, e⟩ := it_g e
    obtain ⟨g_3, e⟩ := it_g e
    refine sl_ok ok_Cloud_drop [.aload_n 0, .getfield 9, .iload_n 2, .aload_n 0, .getfield 9, .iload_n 2, .iconst 1, .iadd, .iaload, .iastore, .aload_n 0, .getfield 15, .iload_n 2, .aload_n 0, .getfield 15, .iload_n 2, .iconst 1, .iadd, .iaload, .iastore, .iinc 2 1] (pc1 := 51) (ls1 := [some (.ref o0), none, some (.int (x2 + 1))]) (st1 := []) (h1 := (sI (sI h (rf o0 0) x2.toNatClampNeg (hI h (rf o0 0) (x2 + 1).toNatClampNeg)) (rf o0 1) x2.toNatClampNeg (hI (sI h (rf o0 0) x2.toNatClampNeg (hI h (rf o0 0) (x2 + 1).toNatClampNeg)) (rf o0 1) (x2 + 1).toNatClampNeg))) (P := (ak o0 = 0 ∧ cx o0 = 0) ∧ (ak o0 = 0 ∧ cx o0 = 0) ∧ (ak (rf o0 0) = 1 ∧ ¬ ((x2 + 1) < 0 ∨ cx (rf o0 0) ≤ (x2 + 1).toNatClampNeg)) ∧ (ak (rf o0 0) = 1 ∧ ¬ (x2 < 0 ∨ cx (rf o0 0) ≤ x2.toNatClampNeg)) ∧ (ak o0 = 0 ∧ cx o0 = 0) ∧ (ak o0 = 0 ∧ cx o0 = 0) ∧ (ak (rf o0 1) = 1 ∧ ¬ ((x2 + 1) < 0 ∨ cx (rf o0 1) ≤ (x2 + 1).toNatClampNeg)) ∧ (ak (rf o0 1) = 1 ∧ ¬ (x2 < 0 ∨ cx (rf o0 1) ≤ x2.toNatClampNeg)) ∧ True) (by decide +kernel) rfl ⟨ho0, ho0, ⟨(st_0_0 ho0).1, (by rw [(st_0_0 ho0).2]; exact g_2)⟩, ⟨(st_0_0 ho0).1, (by rw [(st_0_0 ho0).2]; exact g_3)⟩, ho0, ho0, ⟨(st_0_1 ho0).1, (by rw [(st_0_1 ho0).2]; exact g_2)⟩, ⟨(st_0_1 ho0).1, (by rw [(st_0_1 ho0).2]; exact g_3)⟩, trivial⟩ ?_
    refine q_goto (off := -41) (tgt := 10) (by decide) (by decide +kernel) ?_
    cases e
    exact k
def f_Cloud_drop (o0 : Nat) (x1 : Int32) (h : pH) : Option pH :=
  if (f_Cloud_has o0 x1 h) = 0 then
    some h
  else
    lp (fun s => f_Cloud_drop_L1 o0 s.1 s.2) lpN (x1, h)
set_option maxHeartbeats 4000000 in
theorem b_Cloud_drop {E : pE} {r : Option Value} {hr : pH} {o0 : Nat} {x1 : Int32} {h : pH} (ho0 : ak o0 = 0 ∧ cx o0 = 0) {b : pH} (e : f_Cloud_drop o0 x1 h = some b) (k : (fun v : pH => r = none ∧ hr = v) b) : Go E M_Cloud_drop 0 [some (.ref o0), some (.int x1), none] [] h r hr := by
  unfold f_Cloud_drop at e
  refine sl_ok ok_Cloud_drop [.aload_n 0, .iload_n 1] (pc1 := 2) (ls1 := [some (.ref o0), some (.int x1), none]) (st1 := [.int x1, .ref o0]) (h1 := h) (P := True) (by decide +kernel) rfl trivial ?_
  refine q_callV ok_Cloud_has (as := [.int x1]) (st := []) ⟨wd_172, wd_173, wd_174, wd_14, ds_Cloud_has, Nat.le_of_ble_eq_true rfl, Nat.le_of_ble_eq_true rfl⟩ (s_Cloud_has ho0) rfl ho0 (ci := 0) rfl (fun v hv => by cases hv; rfl) (Nat.le_of_ble_eq_true rfl) (by decide +kernel) rfl ?_
  refine q_if_eq (off := 69) (tgt := 74) (by decide +kernel) (by decide) (fun c_1 => ?_) (fun c_1 => ?_)
  · have e := it_t c_1 e
    cases e
    exact q_vret rfl k.1 k.2 (by decide +kernel)
  · have e := it_f c_1 e
    refine sl_ok ok_Cloud_drop [.iload_n 1, .istore_n 2] (pc1 := 10) (ls1 := [some (.ref o0), some (.int x1), some (.int x1)]) (st1 := []) (h1 := h) (P := True) (by decide +kernel) rfl trivial ?_
    refine Go.sb [some (.ref o0), none, some (.int x1)] (And.intro rfl (And.intro rfl trivial)) ?_
    exact lp_in e (fun s => Go E M_Cloud_drop 10 [some (.ref o0), none, some (.int s.1)] [] s.2 r hr) (fun v : pH => r = none ∧ hr = v) (fun _ _ e k => b_Cloud_drop_L1 ho0 e k) k
theorem s_Cloud_drop {E : pE} {o0 : Nat} {x1 : Int32} {h : pH} (ho0 : ak o0 = 0 ∧ cx o0 = 0) {v : pH} (e : f_Cloud_drop o0 x1 h = some v) : Ct E M_Cloud_drop [.ref o0, .int x1] h none v :=
  Ct_of ok_Cloud_drop [some (.ref o0), some (.int x1), none] (Nat.le_of_ble_eq_true rfl) rfl (b_Cloud_drop ho0 e ⟨rfl, rfl⟩)
def f_C_goes (x1 : Int32) (h : pH) : Option (Int32 × pH) :=
  if (f_Cloud_has 8 x1 h) = 0 then
    some (0, h)
  else
    (f_C_rememberPast h).bind fun v_2 =>
    (f_Cloud_drop 8 x1 v_2).bind fun v_4 =>
    some (1, v_4)
set_option maxHeartbeats 4000000 in
theorem b_C_goes {E : pE} {r : Option Value} {hr : pH} {x1 : Int32} {h : pH}  {b : (Int32 × pH)} (e : f_C_goes x1 h = some b) (k : (fun v : (Int32 × pH) => r = some (.int v.1) ∧ hr = v.2) b) : Go E M_C_goes 0 [some (.ref 0), some (.int x1)] [] h r hr := by
  unfold f_C_goes at e
  refine sl_ok ok_C_goes [.aload_n 0, .getfield 28, .iload_n 1] (pc1 := 5) (ls1 := [some (.ref 0), some (.int x1)]) (st1 := [.int x1, .ref 8]) (h1 := h) (P := (ak 0 = 0 ∧ cx 0 = 11) ∧ True) (by decide +kernel) rfl ⟨⟨rfl, rfl⟩, trivial⟩ ?_
  refine q_callV ok_Cloud_has (as := [.int x1]) (st := []) ⟨wd_175, wd_173, wd_174, wd_14, ds_Cloud_has, Nat.le_of_ble_eq_true rfl, Nat.le_of_ble_eq_true rfl⟩ (s_Cloud_has ⟨rfl, rfl⟩) rfl ⟨rfl, rfl⟩ (ci := 0) rfl (fun v hv => by cases hv; rfl) (Nat.le_of_ble_eq_true rfl) (by decide +kernel) rfl ?_
  refine q_if_ne (off := 5) (tgt := 13) (by decide +kernel) (by decide) (fun c_1 => ?_) (fun c_1 => ?_)
  · have e := it_f c_1 e
    refine sl_ok ok_C_goes [.aload_n 0] (pc1 := 14) (ls1 := [some (.ref 0), some (.int x1)]) (st1 := [.ref 0]) (h1 := h) (P := True) (by decide +kernel) rfl trivial ?_
    obtain ⟨v_2, e_3, e⟩ := bi_s e
    refine q_callV ok_C_rememberPast (as := []) (st := []) ⟨wd_147, wd_148, wd_149, wd_48, ds_C_rememberPast, Nat.le_of_ble_eq_true rfl, Nat.le_of_ble_eq_true rfl⟩ (s_C_rememberPast  e_3) rfl ⟨rfl, rfl⟩ (ci := 11) rfl (fun v hv => by cases hv) (Nat.le_of_ble_eq_true rfl) (by decide +kernel) rfl ?_
    refine sl_ok ok_C_goes [.aload_n 0, .getfield 28, .iload_n 1] (pc1 := 22) (ls1 := [some (.ref 0), some (.int x1)]) (st1 := [.int x1, .ref 8]) (h1 := v_2) (P := (ak 0 = 0 ∧ cx 0 = 11) ∧ True) (by decide +kernel) rfl ⟨⟨rfl, rfl⟩, trivial⟩ ?_
    obtain ⟨v_4, e_5, e⟩ := bi_s e
    refine q_callV ok_Cloud_drop (as := [.int x1]) (st := []) ⟨wd_176, wd_177, wd_178, wd_14, ds_Cloud_drop, Nat.le_of_ble_eq_true rfl, Nat.le_of_ble_eq_true rfl⟩ (s_Cloud_drop ⟨rfl, rfl⟩ e_5) rfl ⟨rfl, rfl⟩ (ci := 0) rfl (fun v hv => by cases hv) (Nat.le_of_ble_eq_true rfl) (by decide +kernel) rfl ?_
    refine sl_ok ok_C_goes [.iconst 1] (pc1 := 26) (ls1 := [some (.ref 0), some (.int x1)]) (st1 := [.int 1]) (h1 := v_4) (P := True) (by decide +kernel) rfl trivial ?_
    cases e
    exact q_zret rfl (Or.inr rfl) k.1 k.2 (by decide +kernel)
  · have e := it_t c_1 e
    refine sl_ok ok_C_goes [.iconst 0] (pc1 := 12) (ls1 := [some (.ref 0), some (.int x1)]) (st1 := [.int 0]) (h1 := h) (P := True) (by decide +kernel) rfl trivial ?_
    cases e
    exact q_zret rfl (Or.inl rfl) k.1 k.2 (by decide +kernel)
theorem s_C_goes {E : pE} {x1 : Int32} {h : pH}  {v : (Int32 × pH)} (e : f_C_goes x1 h = some v) : Ct E M_C_goes [.ref 0, .int x1] h (some (.int v.1)) v.2 :=
  Ct_of ok_C_goes [some (.ref 0), some (.int x1)] (Nat.le_of_ble_eq_true rfl) rfl (b_C_goes  e ⟨rfl, rfl⟩)
def f_R_isPoint (x1 : Int32) (h : pH) : Int32 :=
  (f_R_in x1 (0 : Int32) ((f_R_all h) - 1))
set_option maxHeartbeats 4000000 in
theorem b_R_isPoint {E : pE} {r : Option Value} {hr : pH} {x1 : Int32} {h : pH}  {b : Int32} (e : f_R_isPoint x1 h = b) (k : (fun v : Int32 => r = some (.int v) ∧ hr = h) b) : Go E M_R_isPoint 0 [some (.ref 79), some (.int x1)] [] h r hr := by
  unfold f_R_isPoint at e
  refine sl_ok ok_R_isPoint [.iload_n 1, .iconst 0, .aload_n 0] (pc1 := 3) (ls1 := [some (.ref 79), some (.int x1)]) (st1 := [.ref 79, .int 0, .int x1]) (h1 := h) (P := True) (by decide +kernel) rfl trivial ?_
  refine q_callV ok_R_all (as := []) (st := [.int 0, .int x1]) ⟨wd_151, wd_152, wd_153, wd_7, ds_R_all, Nat.le_of_ble_eq_true rfl, Nat.le_of_ble_eq_true rfl⟩ (s_R_all ) rfl ⟨rfl, rfl⟩ (ci := 12) rfl (fun v hv => by cases hv; rfl) (Nat.le_of_ble_eq_true rfl) (by decide +kernel) rfl ?_
  refine sl_ok ok_R_isPoint [.iconst 1, .isub] (pc1 := 8) (ls1 := [some (.ref 79), some (.int x1)]) (st1 := [.int ((f_R_all h) - 1), .int 0, .int x1]) (h1 := h) (P := True) (by decide +kernel) rfl trivial ?_
  refine q_callS ok_R_in (as := [.int x1, .int 0, .int ((f_R_all h) - 1)]) (st := []) ⟨wd_127, wd_128, wd_7, ds_R_in, Nat.le_of_ble_eq_true rfl, Nat.le_of_ble_eq_true rfl⟩ (s_R_in ) rfl (fun v hv => by cases hv; rfl) (Nat.le_of_ble_eq_true rfl) (by decide +kernel) rfl ?_
  cases e
  exact q_zret rfl (z_R_in ) k.1 k.2 (by decide +kernel)
theorem s_R_isPoint {E : pE} {x1 : Int32} {h : pH}  : Ct E M_R_isPoint [.ref 79, .int x1] h (some (.int (f_R_isPoint x1 h))) h :=
  Ct_of ok_R_isPoint [some (.ref 79), some (.int x1)] (Nat.le_of_ble_eq_true rfl) rfl (b_R_isPoint  rfl ⟨rfl, rfl⟩)
def f_R_goes_L1 (x2 : Int32) (h : pH) : Option ((Int32 × pH) ⊕ (Int32 × pH)) :=
  if (f_R_all h) ≤ (x2 + 1) then
    some (.inr (1, (sI h 87 0 ((hI h 87 0) - 1))))
  else
    (f_R_x (x2 + 1) h).bind fun v_2 =>
    (f_R_y (x2 + 1) h).bind fun v_4 =>
    (f_R_lays3 x2 v_2 v_4 h).bind fun v_6 =>
    some (.inl ((x2 + 1), v_6))
set_option maxHeartbeats 4000000 in
theorem b_R_goes_L1 {E : pE} {r : Option Value} {hr : pH} {x2 : Int32} {h : pH}  {b : ((Int32 × pH) ⊕ (Int32 × pH))} (e : f_R_goes_L1 x2 h = some b) (k : (Sum.elim (fun s : (Int32 × pH) => Go E M_R_goes 16 [some (.ref 79), none, some (.int s.1)] [] s.2 r hr) (fun v : (Int32 × pH) => r = some (.int v.1) ∧ hr = v.2)) b) : Go E M_R_goes 16 [some (.ref 79), none, some (.int x2)] [] h r hr := by
  unfold f_R_goes_L1 at e
  refine sl_ok ok_R_goes [.iload_n 2, .iconst 1, .iadd, .aload_n 0] (pc1 := 20) (ls1 := [some (.ref 79), none, some (.int x2)]) (st1 := [.ref 79, .int (x2 + 1)]) (h1 := h) (P := True) (by decide +kernel) rfl trivial ?_
  refine q_callV ok_R_all (as := []) (st := [.int (x2 + 1)]) ⟨wd_151, wd_152, wd_153, wd_7, ds_R_all, Nat.le_of_ble_eq_true rfl, Nat.le_of_ble_eq_true rfl⟩ (s_R_all ) rfl ⟨rfl, rfl⟩ (ci := 12) rfl (fun v hv => by cases hv; rfl) (Nat.le_of_ble_eq_true rfl) (by decide +kernel) rfl ?_
  refine q_icmp_ge (off := 28) (tgt := 51) (by decide +kernel) (by decide) (fun c_1 => ?_) (fun c_1 => ?_)
  · have e := it_t c_1 e
    refine sl_ok ok_R_goes [.aload_n 0, .getfield 40, .iconst 0, .dup2, .iaload, .iconst 1, .isub, .iastore, .iconst 1] (pc1 := 62) (ls1 := [some (.ref 79), none, some (.int x2)]) (st1 := [.int 1]) (h1 := (sI h 87 0 ((hI h 87 0) - 1))) (P := (ak 79 = 0 ∧ cx 79 = 12) ∧ (ak 87 = 1 ∧ ¬ ((0 : Int32) < 0 ∨ cx 87 ≤ (0 : Int32).toNatClampNeg)) ∧ (ak 87 = 1 ∧ ¬ ((0 : Int32) < 0 ∨ cx 87 ≤ (0 : Int32).toNatClampNeg)) ∧ True) (by decide +kernel) rfl ⟨⟨rfl, rfl⟩, ⟨rfl, (by decide)⟩, ⟨rfl, (by decide)⟩, trivial⟩ ?_
    cases e
    exact q_zret rfl (Or.inr rfl) k.1 k.2 (by decide +kernel)
  · have e := it_f c_1 e
    refine sl_ok ok_R_goes [.aload_n 0, .iload_n 2, .aload_n 0, .iload_n 2, .iconst 1, .iadd] (pc1 := 32) (ls1 := [some (.ref 79), none, some (.int x2)]) (st1 := [.int (x2 + 1), .ref 79, .int x2, .ref 79]) (h1 := h) (P := True) (by decide +kernel) rfl trivial ?_
    obtain ⟨v_2, e_3, e⟩ := bi_s e
    refine q_callV ok_R_x (as := [.int (x2 + 1)]) (st := [.int x2, .ref 79]) ⟨wd_154, wd_155, wd_156, wd_7, ds_R_x, Nat.le_of_ble_eq_true rfl, Nat.le_of_ble_eq_true rfl⟩ (s_R_x  e_3) rfl ⟨rfl, rfl⟩ (ci := 12) rfl (fun v hv => by cases hv; rfl) (Nat.le_of_ble_eq_true rfl) (by decide +kernel) rfl ?_
    refine sl_ok ok_R_goes [.aload_n 0, .iload_n 2, .iconst 1, .iadd] (pc1 := 39) (ls1 := [some (.ref 79), none, some (.int x2)]) (st1 := [.int (x2 + 1), .ref 79, .int v_2, .int x2, .ref 79]) (h1 := h) (P := True) (by decide +kernel) rfl trivial ?_
    obtain ⟨v_4, e_5, e⟩ := bi_s e
    refine q_callV ok_R_y (as := [.int (x2 + 1)]) (st := [.int v_2, .int x2, .ref 79]) ⟨wd_157, wd_158, wd_159, wd_7, ds_R_y, Nat.le_of_ble_eq_true rfl, Nat.le_of_ble_eq_true rfl⟩ (s_R_y  e_5) rfl ⟨rfl, rfl⟩ (ci := 12) rfl (fun v hv => by cases hv; rfl) (Nat.le_of_ble_eq_true rfl) (by decide +kernel) rfl ?_
    obtain ⟨v_6, e_7, e⟩ := bi_s e
    refine q_callV ok_R_lays3 (as := [.int x2, .int v_2, .int v_4]) (st := []) ⟨wd_169, wd_170, wd_171, wd_7, ds_R_lays3, Nat.le_of_ble_eq_true rfl, Nat.le_of_ble_eq_true rfl⟩ (s_R_lays3  e_7) rfl ⟨rfl, rfl⟩ (ci := 12) rfl (fun v hv => by cases hv) (Nat.le_of_ble_eq_true rfl) (by decide +kernel) rfl ?_
    refine sl_ok ok_R_goes [.iinc 2 1] (pc1 := 48) (ls1 := [some (.ref 79), none, some (.int (x2 + 1))]) (st1 := []) (h1 := v_6) (P := True) (by decide +kernel) rfl trivial ?_
    refine q_goto (off := -32) (tgt := 16) (by decide) (by decide +kernel) ?_
    cases e
    exact k
def f_R_goes (x1 : Int32) (h : pH) : Option (Int32 × pH) :=
  if (f_R_isPoint x1 h) = 0 then
    some (0, h)
  else
    (f_R_marks h).bind fun v_2 =>
    lp (fun s => f_R_goes_L1 s.1 s.2) lpN (x1, v_2)
set_option maxHeartbeats 4000000 in
theorem b_R_goes {E : pE} {r : Option Value} {hr : pH} {x1 : Int32} {h : pH}  {b : (Int32 × pH)} (e : f_R_goes x1 h = some b) (k : (fun v : (Int32 × pH) => r = some (.int v.1) ∧ hr = v.2) b) : Go E M_R_goes 0 [some (.ref 79), some (.int x1), none] [] h r hr := by
  unfold f_R_goes at e
  refine sl_ok ok_R_goes [.aload_n 0, .iload_n 1] (pc1 := 2) (ls1 := [some (.ref 79), some (.int x1), none]) (st1 := [.int x1, .ref 79]) (h1 := h) (P := True) (by decide +kernel) rfl trivial ?_
  refine q_callV ok_R_isPoint (as := [.int x1]) (st := []) ⟨wd_179, wd_180, wd_181, wd_7, ds_R_isPoint, Nat.le_of_ble_eq_true rfl, Nat.le_of_ble_eq_true rfl⟩ (s_R_isPoint ) rfl ⟨rfl, rfl⟩ (ci := 12) rfl (fun v hv => by cases hv; rfl) (Nat.le_of_ble_eq_true rfl) (by decide +kernel) rfl ?_
  refine q_if_ne (off := 5) (tgt := 10) (by decide +kernel) (by decide) (fun c_1 => ?_) (fun c_1 => ?_)
  · have e := it_f c_1 e
    refine sl_ok ok_R_goes [.aload_n 0] (pc1 := 11) (ls1 := [some (.ref 79), some (.int x1), none]) (st1 := [.ref 79]) (h1 := h) (P := True) (by decide +kernel) rfl trivial ?_
    obtain ⟨v_2, e_3, e⟩ := bi_s e
    refine q_callV ok_R_marks (as := []) (st := []) ⟨wd_166, wd_167, wd_168, wd_7, ds_R_marks, Nat.le_of_ble_eq_true rfl, Nat.le_of_ble_eq_true rfl⟩ (s_R_marks  e_3) rfl ⟨rfl, rfl⟩ (ci := 12) rfl (fun v hv => by cases hv) (Nat.le_of_ble_eq_true rfl) (by decide +kernel) rfl ?_
    refine sl_ok ok_R_goes [.iload_n 1, .istore_n 2] (pc1 := 16) (ls1 := [some (.ref 79), some (.int x1), some (.int x1)]) (st1 := []) (h1 := v_2) (P := True) (by decide +kernel) rfl trivial ?_
    refine Go.sb [some (.ref 79), none, some (.int x1)] (And.intro rfl (And.intro rfl trivial)) ?_
    exact lp_in e (fun s => Go E M_R_goes 16 [some (.ref 79), none, some (.int s.1)] [] s.2 r hr) (fun v : (Int32 × pH) => r = some (.int v.1) ∧ hr = v.2) (fun _ _ e k => b_R_goes_L1  e k) k
  · have e := it_t c_1 e
    refine sl_ok ok_R_goes [.iconst 0] (pc1 := 9) (ls1 := [some (.ref 79), some (.int x1), none]) (st1 := [.int 0]) (h1 := h) (P := True) (by decide +kernel) rfl trivial ?_
    cases e
    exact q_zret rfl (Or.inl rfl) k.1 k.2 (by decide +kernel)
theorem s_R_goes {E : pE} {x1 : Int32} {h : pH}  {v : (Int32 × pH)} (e : f_R_goes x1 h = some v) : Ct E M_R_goes [.ref 79, .int x1] h (some (.int v.1)) v.2 :=
  Ct_of ok_R_goes [some (.ref 79), some (.int x1), none] (Nat.le_of_ble_eq_true rfl) rfl (b_R_goes  e ⟨rfl, rfl⟩)
def f_Cloud_put (o0 : Nat) (x1 : Int32) (x2 : Int32) (x3 : Int32) (h : pH) : Option pH :=
  if (f_Cloud_has o0 x1 h) = 0 then
    some h
  else
    if x1 < 0 ∨ 12 ≤ x1.toNatClampNeg then none else
    some (sI (sI (sI h (rf o0 0) x1.toNatClampNeg x2) (rf o0 1) x1.toNatClampNeg x3) o0 4 ((hI (sI (sI h (rf o0 0) x1.toNatClampNeg x2) (rf o0 1) x1.toNatClampNeg x3) o0 4) + 1))
set_option maxHeartbeats 4000000 in
theorem b_Cloud_put {E : pE} {r : Option Value} {hr : pH} {o0 : Nat} {x1 : Int32} {x2 : Int32} {x3 : Int32} {h : pH} (ho0 : ak o0 = 0 ∧ cx o0 = 0) {b : pH} (e : f_Cloud_put o0 x1 x2 x3 h = some b) (k : (fun v : pH => r = none ∧ hr = v) b) : Go E M_Cloud_put 0 [some (.ref o0), some (.int x1), some (.int x2), some (.int x3)] [] h r hr := by
  unfold f_Cloud_put at e
  refine sl_ok ok_Cloud_put [.aload_n 0, .iload_n 1] (pc1 := 2) (ls1 := [some (.ref o0), some (.int x1), some (.int x2), some (.int x3)]) (st1 := [.int x1, .ref o0]) (h1 := h) (P := True) (by decide +kernel) rfl trivial ?_
  refine q_callV ok_Cloud_has (as := [.int x1]) (st := []) ⟨wd_172, wd_173, wd_174, wd_14, ds_Cloud_has, Nat.le_of_ble_eq_true rfl, Nat.le_of_ble_eq_true rfl⟩ (s_Cloud_has ho0) rfl ho0 (ci := 0) rfl (fun v hv => by cases hv; rfl) (Nat.le_of_ble_eq_true rfl) (by decide +kernel) rfl ?_
  refine q_if_eq (off := 27) (tgt := 32) (by decide +kernel) (by decide) (fun c_1 => ?_) (fun c_1 => ?_)
  · have e := it_t c_1 e
    cases e
    exact q_vret rfl k.1 k.2 (by decide +kernel)
  · have e := it_f c_1 e
    obtain ⟨g_2, e⟩ := it_g e
    refine sl_ok ok_Cloud_put [.aload_n 0, .getfield 9, .iload_n 1, .iload_n 2, .iastore, .aload_n 0, .getfield 15, .iload_n 1, .iload_n 3, .iastore, .aload_n 0, .dup, .getfield 37, .iconst 1, .iadd, .putfield 37] (pc1 := 32) (ls1 := [some (.ref o0), some (.int x1), some (.int x2), some (.int x3)]) (st1 := []) (h1 := (sI (sI (sI h (rf o0 0) x1.toNatClampNeg x2) (rf o0 1) x1.toNatClampNeg x3) o0 4 ((hI (sI (sI h (rf o0 0) x1.toNatClampNeg x2) (rf o0 1) x1.toNatClampNeg x3) o0 4) + 1))) (P := (ak o0 = 0 ∧ cx o0 = 0) ∧ (ak (rf o0 0) = 1 ∧ ¬ (x1 < 0 ∨ cx (rf o0 0) ≤ x1.toNatClampNeg)) ∧ (ak o0 = 0 ∧ cx o0 = 0) ∧ (ak (rf o0 1) = 1 ∧ ¬ (x1 < 0 ∨ cx (rf o0 1) ≤ x1.toNatClampNeg)) ∧ (ak o0 = 0 ∧ cx o0 = 0) ∧ (ak o0 = 0 ∧ cx o0 = 0) ∧ True) (by decide +kernel) rfl ⟨ho0, ⟨(st_0_0 ho0).1, (by rw [(st_0_0 ho0).2]; exact g_2)⟩, ho0, ⟨(st_0_1 ho0).1, (by rw [(st_0_1 ho0).2]; exact g_2)⟩, ho0, ho0, trivial⟩ ?_
    cases e
    exact q_vret rfl k.1 k.2 (by decide +kernel)
theorem s_Cloud_put {E : pE} {o0 : Nat} {x1 : Int32} {x2 : Int32} {x3 : Int32} {h : pH} (ho0 : ak o0 = 0 ∧ cx o0 = 0) {v : pH} (e : f_Cloud_put o0 x1 x2 x3 h = some v) : Ct E M_Cloud_put [.ref o0, .int x1, .int x2, .int x3] h none v :=
  Ct_of ok_Cloud_put [some (.ref o0), some (.int x1), some (.int x2), some (.int x3)] (Nat.le_of_ble_eq_true rfl) rfl (b_Cloud_put ho0 e ⟨rfl, rfl⟩)
def f_C_move (x1 : Int32) (x2 : Int32) (x3 : Int32) (h : pH) : Option (Int32 × pH) :=
  if (f_Cloud_has 8 x1 h) = 0 then
    some (0, h)
  else
    (f_Cloud_isFree 8 x2 x3 h).bind fun v_2 =>
    if v_2 = 0 then
      some (0, h)
    else
      (f_C_rememberPast h).bind fun v_5 =>
      (f_Cloud_put 8 x1 x2 x3 v_5).bind fun v_7 =>
      some (1, v_7)
set_option maxHeartbeats 4000000 in
theorem b_C_move {E : pE} {r : Option Value} {hr : pH} {x1 : Int32} {x2 : Int32} {x3 : Int32} {h : pH}  {b : (Int32 × pH)} (e : f_C_move x1 x2 x3 h = some b) (k : (fun v : (Int32 × pH) => r = some (.int v.1) ∧ hr = v.2) b) : Go E M_C_move 0 [some (.ref 0), some (.int x1), some (.int x2), some (.int x3)] [] h r hr := by
  unfold f_C_move at e
  refine sl_ok ok_C_move [.aload_n 0, .getfield 28, .iload_n 1] (pc1 := 5) (ls1 := [some (.ref 0), some (.int x1), some (.int x2), some (.int x3)]) (st1 := [.int x1, .ref 8]) (h1 := h) (P := (ak 0 = 0 ∧ cx 0 = 11) ∧ True) (by decide +kernel) rfl ⟨⟨rfl, rfl⟩, trivial⟩ ?_
  refine q_callV ok_Cloud_has (as := [.int x1]) (st := []) ⟨wd_175, wd_173, wd_174, wd_14, ds_Cloud_has, Nat.le_of_ble_eq_true rfl, Nat.le_of_ble_eq_true rfl⟩ (s_Cloud_has ⟨rfl, rfl⟩) rfl ⟨rfl, rfl⟩ (ci := 0) rfl (fun v hv => by cases hv; rfl) (Nat.le_of_ble_eq_true rfl) (by decide +kernel) rfl ?_
  refine q_if_eq (off := 15) (tgt := 23) (by decide +kernel) (by decide) (fun c_1 => ?_) (fun c_1 => ?_)
  · have e := it_t c_1 e
    refine sl_ok ok_C_move [.iconst 0] (pc1 := 24) (ls1 := [some (.ref 0), some (.int x1), some (.int x2), some (.int x3)]) (st1 := [.int 0]) (h1 := h) (P := True) (by decide +kernel) rfl trivial ?_
    cases e
    exact q_zret rfl (Or.inl rfl) k.1 k.2 (by decide +kernel)
  · have e := it_f c_1 e
    refine sl_ok ok_C_move [.aload_n 0, .getfield 28, .iload_n 2, .iload_n 3] (pc1 := 17) (ls1 := [some (.ref 0), some (.int x1), some (.int x2), some (.int x3)]) (st1 := [.int x3, .int x2, .ref 8]) (h1 := h) (P := (ak 0 = 0 ∧ cx 0 = 11) ∧ True) (by decide +kernel) rfl ⟨⟨rfl, rfl⟩, trivial⟩ ?_
    obtain ⟨v_2, e_3, e⟩ := bi_s e
    refine q_callV ok_Cloud_isFree (as := [.int x2, .int x3]) (st := []) ⟨wd_146, wd_53, wd_54, wd_14, ds_Cloud_isFree, Nat.le_of_ble_eq_true rfl, Nat.le_of_ble_eq_true rfl⟩ (s_Cloud_isFree ⟨rfl, rfl⟩ e_3) rfl ⟨rfl, rfl⟩ (ci := 0) rfl (fun v hv => by cases hv; rfl) (Nat.le_of_ble_eq_true rfl) (by decide +kernel) rfl ?_
    refine q_if_ne (off := 5) (tgt := 25) (by decide +kernel) (by decide) (fun c_4 => ?_) (fun c_4 => ?_)
    · have e := it_f c_4 e
      refine sl_ok ok_C_move [.aload_n 0] (pc1 := 26) (ls1 := [some (.ref 0), some (.int x1), some (.int x2), some (.int x3)]) (st1 := [.ref 0]) (h1 := h) (P := True) (by decide +kernel) rfl trivial ?_
      obtain ⟨v_5, e_6, e⟩ := bi_s e
      refine q_callV ok_C_rememberPast (as := []) (st := []) ⟨wd_147, wd_148, wd_149, wd_48, ds_C_rememberPast, Nat.le_of_ble_eq_true rfl, Nat.le_of_ble_eq_true rfl⟩ (s_C_rememberPast  e_6) rfl ⟨rfl, rfl⟩ (ci := 11) rfl (fun v hv => by cases hv) (Nat.le_of_ble_eq_true rfl) (by decide +kernel) rfl ?_
      refine sl_ok ok_C_move [.aload_n 0, .getfield 28, .iload_n 1, .iload_n 2, .iload_n 3] (pc1 := 36) (ls1 := [some (.ref 0), some (.int x1), some (.int x2), some (.int x3)]) (st1 := [.int x3, .int x2, .int x1, .ref 8]) (h1 := v_5) (P := (ak 0 = 0 ∧ cx 0 = 11) ∧ True) (by decide +kernel) rfl ⟨⟨rfl, rfl⟩, trivial⟩ ?_
      obtain ⟨v_7, e_8, e⟩ := bi_s e
      refine q_callV ok_Cloud_put (as := [.int x1, .int x2, .int x3]) (st := []) ⟨wd_182, wd_183, wd_184, wd_14, ds_Cloud_put, Nat.le_of_ble_eq_true rfl, Nat.le_of_ble_eq_true rfl⟩ (s_Cloud_put ⟨rfl, rfl⟩ e_8) rfl ⟨rfl, rfl⟩ (ci := 0) rfl (fun v hv => by cases hv) (Nat.le_of_ble_eq_true rfl) (by decide +kernel) rfl ?_
      refine sl_ok ok_C_move [.iconst 1] (pc1 := 40) (ls1 := [some (.ref 0), some (.int x1), some (.int x2), some (.int x3)]) (st1 := [.int 1]) (h1 := v_7) (P := True) (by decide +kernel) rfl trivial ?_
      cases e
      exact q_zret rfl (Or.inr rfl) k.1 k.2 (by decide +kernel)
    · have e := it_t c_4 e
      refine sl_ok ok_C_move [.iconst 0] (pc1 := 24) (ls1 := [some (.ref 0), some (.int x1), some (.int x2), some (.int x3)]) (st1 := [.int 0]) (h1 := h) (P := True) (by decide +kernel) rfl trivial ?_
      cases e
      exact q_zret rfl (Or.inl rfl) k.1 k.2 (by decide +kernel)
theorem s_C_move {E : pE} {x1 : Int32} {x2 : Int32} {x3 : Int32} {h : pH}  {v : (Int32 × pH)} (e : f_C_move x1 x2 x3 h = some v) : Ct E M_C_move [.ref 0, .int x1, .int x2, .int x3] h (some (.int v.1)) v.2 :=
  Ct_of ok_C_move [some (.ref 0), some (.int x1), some (.int x2), some (.int x3)] (Nat.le_of_ble_eq_true rfl) rfl (b_C_move  e ⟨rfl, rfl⟩)
def f_R_move (x1 : Int32) (x2 : Int32) (x3 : Int32) (h : pH) : Option (Int32 × pH) :=
  if (f_R_isPoint x1 h) = 0 then
    some (0, h)
  else
    (f_R_canBe x2 x3 h).bind fun v_2 =>
    if v_2 = 0 then
      some (0, h)
    else
      (f_R_marks h).bind fun v_5 =>
      (f_R_lays3 x1 x2 x3 v_5).bind fun v_7 =>
      some (1, v_7)
set_option maxHeartbeats 4000000 in
theorem b_R_move {E : pE} {r : Option Value} {hr : pH} {x1 : Int32} {x2 : Int32} {x3 : Int32} {h : pH}  {b : (Int32 × pH)} (e : f_R_move x1 x2 x3 h = some b) (k : (fun v : (Int32 × pH) => r = some (.int v.1) ∧ hr = v.2) b) : Go E M_R_move 0 [some (.ref 79), some (.int x1), some (.int x2), some (.int x3)] [] h r hr := by
  unfold f_R_move at e
  refine sl_ok ok_R_move [.aload_n 0, .iload_n 1] (pc1 := 2) (ls1 := [some (.ref 79), some (.int x1), some (.int x2), some (.int x3)]) (st1 := [.int x1, .ref 79]) (h1 := h) (P := True) (by decide +kernel) rfl trivial ?_
  refine q_callV ok_R_isPoint (as := [.int x1]) (st := []) ⟨wd_179, wd_180, wd_181, wd_7, ds_R_isPoint, Nat.le_of_ble_eq_true rfl, Nat.le_of_ble_eq_true rfl⟩ (s_R_isPoint ) rfl ⟨rfl, rfl⟩ (ci := 12) rfl (fun v hv => by cases hv; rfl) (Nat.le_of_ble_eq_true rfl) (by decide +kernel) rfl ?_
  refine q_if_eq (off := 12) (tgt := 17) (by decide +kernel) (by decide) (fun c_1 => ?_) (fun c_1 => ?_)
  · have e := it_t c_1 e
    refine sl_ok ok_R_move [.iconst 0] (pc1 := 18) (ls1 := [some (.ref 79), some (.int x1), some (.int x2), some (.int x3)]) (st1 := [.int 0]) (h1 := h) (P := True) (by decide +kernel) rfl trivial ?_
    cases e
    exact q_zret rfl (Or.inl rfl) k.1 k.2 (by decide +kernel)
  · have e := it_f c_1 e
    refine sl_ok ok_R_move [.aload_n 0, .iload_n 2, .iload_n 3] (pc1 := 11) (ls1 := [some (.ref 79), some (.int x1), some (.int x2), some (.int x3)]) (st1 := [.int x3, .int x2, .ref 79]) (h1 := h) (P := True) (by decide +kernel) rfl trivial ?_
    obtain ⟨v_2, e_3, e⟩ := bi_s e
    refine q_callV ok_R_canBe (as := [.int x2, .int x3]) (st := []) ⟨wd_163, wd_164, wd_165, wd_7, ds_R_canBe, Nat.le_of_ble_eq_true rfl, Nat.le_of_ble_eq_true rfl⟩ (s_R_canBe  e_3) rfl ⟨rfl, rfl⟩ (ci := 12) rfl (fun v hv => by cases hv; rfl) (Nat.le_of_ble_eq_true rfl) (by decide +kernel) rfl ?_
    refine q_if_ne (off := 5) (tgt := 19) (by decide +kernel) (by decide) (fun c_4 => ?_) (fun c_4 => ?_)
    · have e := it_f c_4 e
      refine sl_ok ok_R_move [.aload_n 0] (pc1 := 20) (ls1 := [some (.ref 79), some (.int x1), some (.int x2), some (.int x3)]) (st1 := [.ref 79]) (h1 := h) (P := True) (by decide +kernel) rfl trivial ?_
      obtain ⟨v_5, e_6, e⟩ := bi_s e
      refine q_callV ok_R_marks (as := []) (st := []) ⟨wd_166, wd_167, wd_168, wd_7, ds_R_marks, Nat.le_of_ble_eq_true rfl, Nat.le_of_ble_eq_true rfl⟩ (s_R_marks  e_6) rfl ⟨rfl, rfl⟩ (ci := 12) rfl (fun v hv => by cases hv) (Nat.le_of_ble_eq_true rfl) (by decide +kernel) rfl ?_
      refine sl_ok ok_R_move [.aload_n 0, .iload_n 1, .iload_n 2, .iload_n 3] (pc1 := 27) (ls1 := [some (.ref 79), some (.int x1), some (.int x2), some (.int x3)]) (st1 := [.int x3, .int x2, .int x1, .ref 79]) (h1 := v_5) (P := True) (by decide +kernel) rfl trivial ?_
      obtain ⟨v_7, e_8, e⟩ := bi_s e
      refine q_callV ok_R_lays3 (as := [.int x1, .int x2, .int x3]) (st := []) ⟨wd_169, wd_170, wd_171, wd_7, ds_R_lays3, Nat.le_of_ble_eq_true rfl, Nat.le_of_ble_eq_true rfl⟩ (s_R_lays3  e_8) rfl ⟨rfl, rfl⟩ (ci := 12) rfl (fun v hv => by cases hv) (Nat.le_of_ble_eq_true rfl) (by decide +kernel) rfl ?_
      refine sl_ok ok_R_move [.iconst 1] (pc1 := 31) (ls1 := [some (.ref 79), some (.int x1), some (.int x2), some (.int x3)]) (st1 := [.int 1]) (h1 := v_7) (P := True) (by decide +kernel) rfl trivial ?_
      cases e
      exact q_zret rfl (Or.inr rfl) k.1 k.2 (by decide +kernel)
    · have e := it_t c_4 e
      refine sl_ok ok_R_move [.iconst 0] (pc1 := 18) (ls1 := [some (.ref 79), some (.int x1), some (.int x2), some (.int x3)]) (st1 := [.int 0]) (h1 := h) (P := True) (by decide +kernel) rfl trivial ?_
      cases e
      exact q_zret rfl (Or.inl rfl) k.1 k.2 (by decide +kernel)
theorem s_R_move {E : pE} {x1 : Int32} {x2 : Int32} {x3 : Int32} {h : pH}  {v : (Int32 × pH)} (e : f_R_move x1 x2 x3 h = some v) : Ct E M_R_move [.ref 79, .int x1, .int x2, .int x3] h (some (.int v.1)) v.2 :=
  Ct_of ok_R_move [some (.ref 79), some (.int x1), some (.int x2), some (.int x3)] (Nat.le_of_ble_eq_true rfl) rfl (b_R_move  e ⟨rfl, rfl⟩)
def f_Cloud_mirror_L1 (o0 : Nat) (x1 : Int32) (h : pH) : Option ((Int32 × pH) ⊕ pH) :=
  if (hI h o0 2) ≤ x1 then
    some (.inr h)
  else
    if x1 < 0 ∨ 12 ≤ x1.toNatClampNeg then none else
    (f_Cloud_put o0 x1 (-(hI h (rf o0 0) x1.toNatClampNeg)) (hI h (rf o0 1) x1.toNatClampNeg) h).bind fun v_3 =>
    some (.inl ((x1 + 1), v_3))
set_option maxHeartbeats 4000000 in
theorem b_Cloud_mirror_L1 {E : pE} {r : Option Value} {hr : pH} {o0 : Nat} {x1 : Int32} {h : pH} (ho0 : ak o0 = 0 ∧ cx o0 = 0) {b : ((Int32 × pH) ⊕ pH)} (e : f_Cloud_mirror_L1 o0 x1 h = some b) (k : (Sum.elim (fun s : (Int32 × pH) => Go E M_Cloud_mirror 2 [some (.ref o0), some (.int s.1)] [] s.2 r hr) (fun v : pH => r = none ∧ hr = v)) b) : Go E M_Cloud_mirror 2 [some (.ref o0), some (.int x1)] [] h r hr := by
  unfold f_Cloud_mirror_L1 at e
  refine sl_ok ok_Cloud_mirror [.iload_n 1, .aload_n 0, .getfield 22] (pc1 := 7) (ls1 := [some (.ref o0), some (.int x1)]) (st1 := [.int (hI h o0 2), .int x1]) (h1 := h) (P := (ak o0 = 0 ∧ cx o0 = 0) ∧ True) (by decide +kernel) rfl ⟨ho0, trivial⟩ ?_
  refine q_icmp_ge (off := 27) (tgt := 34) (by decide +kernel) (by decide) (fun c_1 => ?_) (fun c_1 => ?_)
  · have e := it_t c_1 e
    cases e
    exact q_vret rfl k.1 k.2 (by decide +kernel)
  · have e := it_f c_1 e
    obtain ⟨g_2, e⟩ := it_g e
    refine sl_ok ok_Cloud_mirror [.aload_n 0, .iload_n 1, .aload_n 0, .getfield 9, .iload_n 1, .iaload, .ineg, .aload_n 0, .getfield 15, .iload_n 1, .iaload] (pc1 := 25) (ls1 := [some (.ref o0), some (.int x1)]) (st1 := [.int (hI h (rf o0 1) x1.toNatClampNeg), .int (-(hI h (rf o0 0) x1.toNatClampNeg)), .int x1, .ref o0]) (h1 := h) (P := (ak o0 = 0 ∧ cx o0 = 0) ∧ (ak (rf o0 0) = 1 ∧ ¬ (x1 < 0 ∨ cx (rf o0 0) ≤ x1.toNatClampNeg)) ∧ (ak o0 = 0 ∧ cx o0 = 0) ∧ (ak (rf o0 1) = 1 ∧ ¬ (x1 < 0 ∨ cx (rf o0 1) ≤ x1.toNatClampNeg)) ∧ True) (by decide +kernel) rfl ⟨ho0, ⟨(st_0_0 ho0).1, (by rw [(st_0_0 ho0).2]; exact g_2)⟩, ho0, ⟨(st_0_1 ho0).1, (by rw [(st_0_1 ho0).2]; exact g_2)⟩, trivial⟩ ?_
    obtain ⟨v_3, e_4, e⟩ := bi_s e
    refine q_callV ok_Cloud_put (as := [.int x1, .int (-(hI h (rf o0 0) x1.toNatClampNeg)), .int (hI h (rf o0 1) x1.toNatClampNeg)]) (st := []) ⟨wd_185, wd_183, wd_184, wd_14, ds_Cloud_put, Nat.le_of_ble_eq_true rfl, Nat.le_of_ble_eq_true rfl⟩ (s_Cloud_put ho0 e_4) rfl ho0 (ci := 0) rfl (fun v hv => by cases hv) (Nat.le_of_ble_eq_true rfl) (by decide +kernel) rfl ?_
    refine sl_ok ok_Cloud_mirror [.iinc 1 1] (pc1 := 31) (ls1 := [some (.ref o0), some (.int (x1 + 1))]) (st1 := []) (h1 := v_3) (P := True) (by decide +kernel) rfl trivial ?_
    refine q_goto (off := -29) (tgt := 2) (by decide) (by decide +kernel) ?_
    cases e
    exact k
def f_Cloud_mirror (o0 : Nat) (h : pH) : Option pH :=
  lp (fun s => f_Cloud_mirror_L1 o0 s.1 s.2) lpN (0, h)
set_option maxHeartbeats 4000000 in
theorem b_Cloud_mirror {E : pE} {r : Option Value} {hr : pH} {o0 : Nat} {h : pH} (ho0 : ak o0 = 0 ∧ cx o0 = 0) {b : pH} (e : f_Cloud_mirror o0 h = some b) (k : (fun v : pH => r = none ∧ hr = v) b) : Go E M_Cloud_mirror 0 [some (.ref o0), none] [] h r hr := by
  unfold f_Cloud_mirror at e
  refine sl_ok ok_Cloud_mirror [.iconst 0, .istore_n 1] (pc1 := 2) (ls1 := [some (.ref o0), some (.int 0)]) (st1 := []) (h1 := h) (P := True) (by decide +kernel) rfl trivial ?_
  exact lp_in e (fun s => Go E M_Cloud_mirror 2 [some (.ref o0), some (.int s.1)] [] s.2 r hr) (fun v : pH => r = none ∧ hr = v) (fun _ _ e k => b_Cloud_mirror_L1 ho0 e k) k
theorem s_Cloud_mirror {E : pE} {o0 : Nat} {h : pH} (ho0 : ak o0 = 0 ∧ cx o0 = 0) {v : pH} (e : f_Cloud_mirror o0 h = some v) : Ct E M_Cloud_mirror [.ref o0] h none v :=
  Ct_of ok_Cloud_mirror [some (.ref o0), none] (Nat.le_of_ble_eq_true rfl) rfl (b_Cloud_mirror ho0 e ⟨rfl, rfl⟩)
def f_Cloud_turnQuarter_L1 (o0 : Nat) (x1 : Int32) (h : pH) : Option ((Int32 × pH) ⊕ pH) :=
  if (hI h o0 2) ≤ x1 then
    some (.inr h)
  else
    if x1 < 0 ∨ 12 ≤ x1.toNatClampNeg then none else
    (f_Cloud_put o0 x1 (-(hI h (rf o0 1) x1.toNatClampNeg)) (hI h (rf o0 0) x1.toNatClampNeg) h).bind fun v_3 =>
    some (.inl ((x1 + 1), v_3))
set_option maxHeartbeats 4000000 in
theorem b_Cloud_turnQuarter_L1 {E : pE} {r : Option Value} {hr : pH} {o0 : Nat} {x1 : Int32} {h : pH} (ho0 : ak o0 = 0 ∧ cx o0 = 0) {b : ((Int32 × pH) ⊕ pH)} (e : f_Cloud_turnQuarter_L1 o0 x1 h = some b) (k : (Sum.elim (fun s : (Int32 × pH) => Go E M_Cloud_turnQuarter 2 [some (.ref o0), some (.int s.1)] [] s.2 r hr) (fun v : pH => r = none ∧ hr = v)) b) : Go E M_Cloud_turnQuarter 2 [some (.ref o0), some (.int x1)] [] h r hr := by
  unfold f_Cloud_turnQuarter_L1 at e
  refine sl_ok ok_Cloud_turnQuarter [.iload_n 1, .aload_n 0, .getfield 22] (pc1 := 7) (ls1 := [some (.ref o0), some (.int x1)]) (st1 := [.int (hI h o0 2), .int x1]) (h1 := h) (P := (ak o0 = 0 ∧ cx o0 = 0) ∧ True) (by decide +kernel) rfl ⟨ho0, trivial⟩ ?_
  refine q_icmp_ge (off := 27) (tgt := 34) (by decide +kernel) (by decide) (fun c_1 => ?_) (fun c_1 => ?_)
  · have e := it_t c_1 e
    cases e
    exact q_vret rfl k.1 k.2 (by decide +kernel)
  · have e := it_f c_1 e
    obtain ⟨g_2, e⟩ := it_g e
    refine sl_ok ok_Cloud_turnQuarter [.aload_n 0, .iload_n 1, .aload_n 0, .getfield 15, .iload_n 1, .iaload, .ineg, .aload_n 0, .getfield 9, .iload_n 1, .iaload] (pc1 := 25) (ls1 := [some (.ref o0), some (.int x1)]) (st1 := [.int (hI h (rf o0 0) x1.toNatClampNeg), .int (-(hI h (rf o0 1) x1.toNatClampNeg)), .int x1, .ref o0]) (h1 := h) (P := (ak o0 = 0 ∧ cx o0 = 0) ∧ (ak (rf o0 1) = 1 ∧ ¬ (x1 < 0 ∨ cx (rf o0 1) ≤ x1.toNatClampNeg)) ∧ (ak o0 = 0 ∧ cx o0 = 0) ∧ (ak (rf o0 0) = 1 ∧ ¬ (x1 < 0 ∨ cx (rf o0 0) ≤ x1.toNatClampNeg)) ∧ True) (by decide +kernel) rfl ⟨ho0, ⟨(st_0_1 ho0).1, (by rw [(st_0_1 ho0).2]; exact g_2)⟩, ho0, ⟨(st_0_0 ho0).1, (by rw [(st_0_0 ho0).2]; exact g_2)⟩, trivial⟩ ?_
    obtain ⟨v_3, e_4, e⟩ := bi_s e
    refine q_callV ok_Cloud_put (as := [.int x1, .int (-(hI h (rf o0 1) x1.toNatClampNeg)), .int (hI h (rf o0 0) x1.toNatClampNeg)]) (st := []) ⟨wd_185, wd_183, wd_184, wd_14, ds_Cloud_put, Nat.le_of_ble_eq_true rfl, Nat.le_of_ble_eq_true rfl⟩ (s_Cloud_put ho0 e_4) rfl ho0 (ci := 0) rfl (fun v hv => by cases hv) (Nat.le_of_ble_eq_true rfl) (by decide +kernel) rfl ?_
    refine sl_ok ok_Cloud_turnQuarter [.iinc 1 1] (pc1 := 31) (ls1 := [some (.ref o0), some (.int (x1 + 1))]) (st1 := []) (h1 := v_3) (P := True) (by decide +kernel) rfl trivial ?_
    refine q_goto (off := -29) (tgt := 2) (by decide) (by decide +kernel) ?_
    cases e
    exact k
def f_Cloud_turnQuarter (o0 : Nat) (h : pH) : Option pH :=
  lp (fun s => f_Cloud_turnQuarter_L1 o0 s.1 s.2) lpN (0, h)
set_option maxHeartbeats 4000000 in
theorem b_Cloud_turnQuarter {E : pE} {r : Option Value} {hr : pH} {o0 : Nat} {h : pH} (ho0 : ak o0 = 0 ∧ cx o0 = 0) {b : pH} (e : f_Cloud_turnQuarter o0 h = some b) (k : (fun v : pH => r = none ∧ hr = v) b) : Go E M_Cloud_turnQuarter 0 [some (.ref o0), none] [] h r hr := by
  unfold f_Cloud_turnQuarter at e
  refine sl_ok ok_Cloud_turnQuarter [.iconst 0, .istore_n 1] (pc1 := 2) (ls1 := [some (.ref o0), some (.int 0)]) (st1 := []) (h1 := h) (P := True) (by decide +kernel) rfl trivial ?_
  exact lp_in e (fun s => Go E M_Cloud_turnQuarter 2 [some (.ref o0), some (.int s.1)] [] s.2 r hr) (fun v : pH => r = none ∧ hr = v) (fun _ _ e k => b_Cloud_turnQuarter_L1 ho0 e k) k
theorem s_Cloud_turnQuarter {E : pE} {o0 : Nat} {h : pH} (ho0 : ak o0 = 0 ∧ cx o0 = 0) {v : pH} (e : f_Cloud_turnQuarter o0 h = some v) : Ct E M_Cloud_turnQuarter [.ref o0] h none v :=
  Ct_of ok_Cloud_turnQuarter [some (.ref o0), none] (Nat.le_of_ble_eq_true rfl) rfl (b_Cloud_turnQuarter ho0 e ⟨rfl, rfl⟩)
def f_C_turn (x1 : Int32) (h : pH) : Option (Int32 × pH) :=
  if (hI h 8 2) = 0 then
    some (0, h)
  else
    (f_C_rememberPast h).bind fun v_2 =>
    if x1 = 0 then
      (f_Cloud_turnQuarter 8 v_2).bind fun v_5 =>
      some (1, v_5)
    else
      (f_Cloud_mirror 8 v_2).bind fun v_7 =>
      some (1, v_7)
set_option maxHeartbeats 4000000 in
theorem b_C_turn {E : pE} {r : Option Value} {hr : pH} {x1 : Int32} {h : pH}  {b : (Int32 × pH)} (e : f_C_turn x1 h = some b) (k : (fun v : (Int32 × pH) => r = some (.int v.1) ∧ hr = v.2) b) : Go E M_C_turn 0 [some (.ref 0), some (.int x1)] [] h r hr := by
  unfold f_C_turn at e
  refine sl_ok ok_C_turn [.aload_n 0, .getfield 28, .getfield 120] (pc1 := 7) (ls1 := [some (.ref 0), some (.int x1)]) (st1 := [.int (hI h 8 2)]) (h1 := h) (P := (ak 0 = 0 ∧ cx 0 = 11) ∧ (ak 8 = 0 ∧ cx 8 = 0) ∧ True) (by decide +kernel) rfl ⟨⟨rfl, rfl⟩, ⟨rfl, rfl⟩, trivial⟩ ?_
  refine q_if_ne (off := 5) (tgt := 12) (by decide +kernel) (by decide) (fun c_1 => ?_) (fun c_1 => ?_)
  · have e := it_f c_1 e
    refine sl_ok ok_C_turn [.aload_n 0] (pc1 := 13) (ls1 := [some (.ref 0), some (.int x1)]) (st1 := [.ref 0]) (h1 := h) (P := True) (by decide +kernel) rfl trivial ?_
    obtain ⟨v_2, e_3, e⟩ := bi_s e
    refine q_callV ok_C_rememberPast (as := []) (st := []) ⟨wd_147, wd_148, wd_149, wd_48, ds_C_rememberPast, Nat.le_of_ble_eq_true rfl, Nat.le_of_ble_eq_true rfl⟩ (s_C_rememberPast  e_3) rfl ⟨rfl, rfl⟩ (ci := 11) rfl (fun v hv => by cases hv) (Nat.le_of_ble_eq_true rfl) (by decide +kernel) rfl ?_
    refine sl_ok ok_C_turn [.iload_n 1] (pc1 := 17) (ls1 := [some (.ref 0), some (.int x1)]) (st1 := [.int x1]) (h1 := v_2) (P := True) (by decide +kernel) rfl trivial ?_
    refine q_if_eq (off := 13) (tgt := 30) (by decide +kernel) (by decide) (fun c_4 => ?_) (fun c_4 => ?_)
    · have e := it_t c_4 e
      refine sl_ok ok_C_turn [.aload_n 0, .getfield 28] (pc1 := 34) (ls1 := [some (.ref 0), some (.int x1)]) (st1 := [.ref 8]) (h1 := v_2) (P := (ak 0 = 0 ∧ cx 0 = 11) ∧ True) (by decide +kernel) rfl ⟨⟨rfl, rfl⟩, trivial⟩ ?_
      obtain ⟨v_5, e_6, e⟩ := bi_s e
      refine q_callV ok_Cloud_turnQuarter (as := []) (st := []) ⟨wd_186, wd_187, wd_188, wd_14, ds_Cloud_turnQuarter, Nat.le_of_ble_eq_true rfl, Nat.le_of_ble_eq_true rfl⟩ (s_Cloud_turnQuarter ⟨rfl, rfl⟩ e_6) rfl ⟨rfl, rfl⟩ (ci := 0) rfl (fun v hv => by cases hv) (Nat.le_of_ble_eq_true rfl) (by decide +kernel) rfl ?_
      refine sl_ok ok_C_turn [.iconst 1] (pc1 := 38) (ls1 := [some (.ref 0), some (.int x1)]) (st1 := [.int 1]) (h1 := v_5) (P := True) (by decide +kernel) rfl trivial ?_
      cases e
      exact q_zret rfl (Or.inr rfl) k.1 k.2 (by decide +kernel)
    · have e := it_f c_4 e
      refine sl_ok ok_C_turn [.aload_n 0, .getfield 28] (pc1 := 24) (ls1 := [some (.ref 0), some (.int x1)]) (st1 := [.ref 8]) (h1 := v_2) (P := (ak 0 = 0 ∧ cx 0 = 11) ∧ True) (by decide +kernel) rfl ⟨⟨rfl, rfl⟩, trivial⟩ ?_
      obtain ⟨v_7, e_8, e⟩ := bi_s e
      refine q_callV ok_Cloud_mirror (as := []) (st := []) ⟨wd_189, wd_190, wd_191, wd_14, ds_Cloud_mirror, Nat.le_of_ble_eq_true rfl, Nat.le_of_ble_eq_true rfl⟩ (s_Cloud_mirror ⟨rfl, rfl⟩ e_8) rfl ⟨rfl, rfl⟩ (ci := 0) rfl (fun v hv => by cases hv) (Nat.le_of_ble_eq_true rfl) (by decide +kernel) rfl ?_
      refine q_goto (off := 10) (tgt := 37) (by decide) (by decide +kernel) ?_
      refine sl_ok ok_C_turn [.iconst 1] (pc1 := 38) (ls1 := [some (.ref 0), some (.int x1)]) (st1 := [.int 1]) (h1 := v_7) (P := True) (by decide +kernel) rfl trivial ?_
      cases e
      exact q_zret rfl (Or.inr rfl) k.1 k.2 (by decide +kernel)
  · have e := it_t c_1 e
    refine sl_ok ok_C_turn [.iconst 0] (pc1 := 11) (ls1 := [some (.ref 0), some (.int x1)]) (st1 := [.int 0]) (h1 := h) (P := True) (by decide +kernel) rfl trivial ?_
    cases e
    exact q_zret rfl (Or.inl rfl) k.1 k.2 (by decide +kernel)
theorem s_C_turn {E : pE} {x1 : Int32} {h : pH}  {v : (Int32 × pH)} (e : f_C_turn x1 h = some v) : Ct E M_C_turn [.ref 0, .int x1] h (some (.int v.1)) v.2 :=
  Ct_of ok_C_turn [some (.ref 0), some (.int x1)] (Nat.le_of_ble_eq_true rfl) rfl (b_C_turn  e ⟨rfl, rfl⟩)
def f_R_turn_J2 (x1 : Int32) (x2 : Int32) (t0 : Int32) (t1 : Int32) (h : pH) : Option ((Int32 × pH) ⊕ (Int32 × pH)) :=
  if x1 = 0 then
    (f_R_x x2 h).bind fun v_2 =>
    (f_R_lays3 t1 t0 v_2 h).bind fun v_4 =>
    some (.inl ((x2 + 1), v_4))
  else
    (f_R_y x2 h).bind fun v_6 =>
    (f_R_lays3 t1 t0 v_6 h).bind fun v_8 =>
    some (.inl ((x2 + 1), v_8))
set_option maxHeartbeats 4000000 in
theorem b_R_turn_J2 {E : pE} {r : Option Value} {hr : pH} {x1 : Int32} {x2 : Int32} {t0 : Int32} {t1 : Int32} {h : pH}  {b : ((Int32 × pH) ⊕ (Int32 × pH))} (e : f_R_turn_J2 x1 x2 t0 t1 h = some b) (k : (Sum.elim (fun s : (Int32 × pH) => Go E M_R_turn 15 [some (.ref 79), some (.int x1), some (.int s.1)] [] s.2 r hr) (fun v : (Int32 × pH) => r = some (.int v.1) ∧ hr = v.2)) b) : Go E M_R_turn 44 [some (.ref 79), some (.int x1), some (.int x2)] [.int t0, .int t1, .ref 79] h r hr := by
  unfold f_R_turn_J2 at e
  refine sl_ok ok_R_turn [.iload_n 1] (pc1 := 45) (ls1 := [some (.ref 79), some (.int x1), some (.int x2)]) (st1 := [.int x1, .int t0, .int t1, .ref 79]) (h1 := h) (P := True) (by decide +kernel) rfl trivial ?_
  refine q_if_eq (off := 11) (tgt := 56) (by decide +kernel) (by decide) (fun c_1 => ?_) (fun c_1 => ?_)
  · have e := it_t c_1 e
    refine sl_ok ok_R_turn [.aload_n 0, .iload_n 2] (pc1 := 58) (ls1 := [some (.ref 79), some (.int x1), some (.int x2)]) (st1 := [.int x2, .ref 79, .int t0, .int t1, .ref 79]) (h1 := h) (P := True) (by decide +kernel) rfl trivial ?_
    obtain ⟨v_2, e_3, e⟩ := bi_s e
    refine q_callV ok_R_x (as := [.int x2]) (st := [.int t0, .int t1, .ref 79]) ⟨wd_154, wd_155, wd_156, wd_7, ds_R_x, Nat.le_of_ble_eq_true rfl, Nat.le_of_ble_eq_true rfl⟩ (s_R_x  e_3) rfl ⟨rfl, rfl⟩ (ci := 12) rfl (fun v hv => by cases hv; rfl) (Nat.le_of_ble_eq_true rfl) (by decide +kernel) rfl ?_
    obtain ⟨v_4, e_5, e⟩ := bi_s e
    refine q_callV ok_R_lays3 (as := [.int t1, .int t0, .int v_2]) (st := []) ⟨wd_169, wd_170, wd_171, wd_7, ds_R_lays3, Nat.le_of_ble_eq_true rfl, Nat.le_of_ble_eq_true rfl⟩ (s_R_lays3  e_5) rfl ⟨rfl, rfl⟩ (ci := 12) rfl (fun v hv => by cases hv) (Nat.le_of_ble_eq_true rfl) (by decide +kernel) rfl ?_
    refine sl_ok ok_R_turn [.iinc 2 1] (pc1 := 67) (ls1 := [some (.ref 79), some (.int x1), some (.int (x2 + 1))]) (st1 := []) (h1 := v_4) (P := True) (by decide +kernel) rfl trivial ?_
    refine q_goto (off := -52) (tgt := 15) (by decide) (by decide +kernel) ?_
    cases e
    exact k
  · have e := it_f c_1 e
    refine sl_ok ok_R_turn [.aload_n 0, .iload_n 2] (pc1 := 50) (ls1 := [some (.ref 79), some (.int x1), some (.int x2)]) (st1 := [.int x2, .ref 79, .int t0, .int t1, .ref 79]) (h1 := h) (P := True) (by decide +kernel) rfl trivial ?_
    obtain ⟨v_6, e_7, e⟩ := bi_s e
    refine q_callV ok_R_y (as := [.int x2]) (st := [.int t0, .int t1, .ref 79]) ⟨wd_157, wd_158, wd_159, wd_7, ds_R_y, Nat.le_of_ble_eq_true rfl, Nat.le_of_ble_eq_true rfl⟩ (s_R_y  e_7) rfl ⟨rfl, rfl⟩ (ci := 12) rfl (fun v hv => by cases hv; rfl) (Nat.le_of_ble_eq_true rfl) (by decide +kernel) rfl ?_
    refine q_goto (off := 8) (tgt := 61) (by decide) (by decide +kernel) ?_
    obtain ⟨v_8, e_9, e⟩ := bi_s e
    refine q_callV ok_R_lays3 (as := [.int t1, .int t0, .int v_6]) (st := []) ⟨wd_169, wd_170, wd_171, wd_7, ds_R_lays3, Nat.le_of_ble_eq_true rfl, Nat.le_of_ble_eq_true rfl⟩ (s_R_lays3  e_9) rfl ⟨rfl, rfl⟩ (ci := 12) rfl (fun v hv => by cases hv) (Nat.le_of_ble_eq_true rfl) (by decide +kernel) rfl ?_
    refine sl_ok ok_R_turn [.iinc 2 1] (pc1 := 67) (ls1 := [some (.ref 79), some (.int x1), some (.int (x2 + 1))]) (st1 := []) (h1 := v_8) (P := True) (by decide +kernel) rfl trivial ?_
    refine q_goto (off := -52) (tgt := 15) (by decide) (by decide +kernel) ?_
    cases e
    exact k
def f_R_turn_L1 (x1 : Int32) (x2 : Int32) (h : pH) : Option ((Int32 × pH) ⊕ (Int32 × pH)) :=
  if (f_R_all h) ≤ x2 then
    some (.inr (1, h))
  else
    if x1 = 0 then
      (f_R_y x2 h).bind fun v_3 =>
      f_R_turn_J2 x1 x2 (-v_3) x2 h
    else
      (f_R_x x2 h).bind fun v_5 =>
      f_R_turn_J2 x1 x2 (-v_5) x2 h
set_option maxHeartbeats 4000000 in
theorem b_R_turn_L1 {E : pE} {r : Option Value} {hr : pH} {x1 : Int32} {x2 : Int32} {h : pH}  {b : ((Int32 × pH) ⊕ (Int32 × pH))} (e : f_R_turn_L1 x1 x2 h = some b) (k : (Sum.elim (fun s : (Int32 × pH) => Go E M_R_turn 15 [some (.ref 79), some (.int x1), some (.int s.1)] [] s.2 r hr) (fun v : (Int32 × pH) => r = some (.int v.1) ∧ hr = v.2)) b) : Go E M_R_turn 15 [some (.ref 79), some (.int x1), some (.int x2)] [] h r hr := by
  unfold f_R_turn_L1 at e
  refine sl_ok ok_R_turn [.iload_n 2, .aload_n 0] (pc1 := 17) (ls1 := [some (.ref 79), some (.int x1), some (.int x2)]) (st1 := [.ref 79, .int x2]) (h1 := h) (P := True) (by decide +kernel) rfl trivial ?_
  refine q_callV ok_R_all (as := []) (st := [.int x2]) ⟨wd_151, wd_152, wd_153, wd_7, ds_R_all, Nat.le_of_ble_eq_true rfl, Nat.le_of_ble_eq_true rfl⟩ (s_R_all ) rfl ⟨rfl, rfl⟩ (ci := 12) rfl (fun v hv => by cases hv; rfl) (Nat.le_of_ble_eq_true rfl) (by decide +kernel) rfl ?_
  refine q_icmp_ge (off := 50) (tgt := 70) (by decide +kernel) (by decide) (fun c_1 => ?_) (fun c_1 => ?_)
  · have e := it_t c_1 e
    refine sl_ok ok_R_turn [.iconst 1] (pc1 := 71) (ls1 := [some (.ref 79), some (.int x1), some (.int x2)]) (st1 := [.int 1]) (h1 := h) (P := True) (by decide +kernel) rfl trivial ?_
    cases e
    exact q_zret rfl (Or.inr rfl) k.1 k.2 (by decide +kernel)
  · have e := it_f c_1 e
    refine sl_ok ok_R_turn [.aload_n 0, .iload_n 2, .iload_n 1] (pc1 := 26) (ls1 := [some (.ref 79), some (.int x1), some (.int x2)]) (st1 := [.int x1, .int x2, .ref 79]) (h1 := h) (P := True) (by decide +kernel) rfl trivial ?_
    refine q_if_eq (off := 12) (tgt := 38) (by decide +kernel) (by decide) (fun c_2 => ?_) (fun c_2 => ?_)
    · have e := it_t c_2 e
      refine sl_ok ok_R_turn [.aload_n 0, .iload_n 2] (pc1 := 40) (ls1 := [some (.ref 79), some (.int x1), some (.int x2)]) (st1 := [.int x2, .ref 79, .int x2, .ref 79]) (h1 := h) (P := True) (by decide +kernel) rfl trivial ?_
      obtain ⟨v_3, e_4, e⟩ := bi_s e
      refine q_callV ok_R_y (as := [.int x2]) (st := [.int x2, .ref 79]) ⟨wd_157, wd_158, wd_159, wd_7, ds_R_y, Nat.le_of_ble_eq_true rfl, Nat.le_of_ble_eq_true rfl⟩ (s_R_y  e_4) rfl ⟨rfl, rfl⟩ (ci := 12) rfl (fun v hv => by cases hv; rfl) (Nat.le_of_ble_eq_true rfl) (by decide +kernel) rfl ?_
      refine sl_ok ok_R_turn [.ineg] (pc1 := 44) (ls1 := [some (.ref 79), some (.int x1), some (.int x2)]) (st1 := [.int (-v_3), .int x2, .ref 79]) (h1 := h) (P := True) (by decide +kernel) rfl trivial ?_
      exact b_R_turn_J2  e k
    · have e := it_f c_2 e
      refine sl_ok ok_R_turn [.aload_n 0, .iload_n 2] (pc1 := 31) (ls1 := [some (.ref 79), some (.int x1), some (.int x2)]) (st1 := [.int x2, .ref 79, .int x2, .ref 79]) (h1 := h) (P := True) (by decide +kernel) rfl trivial ?_
      obtain ⟨v_5, e_6, e⟩ := bi_s e
      refine q_callV ok_R_x (as := [.int x2]) (st := [.int x2, .ref 79]) ⟨wd_154, wd_155, wd_156, wd_7, ds_R_x, Nat.le_of_ble_eq_true rfl, Nat.le_of_ble_eq_true rfl⟩ (s_R_x  e_6) rfl ⟨rfl, rfl⟩ (ci := 12) rfl (fun v hv => by cases hv; rfl) (Nat.le_of_ble_eq_true rfl) (by decide +kernel) rfl ?_
      refine sl_ok ok_R_turn [.ineg] (pc1 := 35) (ls1 := [some (.ref 79), some (.int x1), some (.int x2)]) (st1 := [.int (-v_5), .int x2, .ref 79]) (h1 := h) (P := True) (by decide +kernel) rfl trivial ?_
      refine q_goto (off := 9) (tgt := 44) (by decide) (by decide +kernel) ?_
      exact b_R_turn_J2  e k
def f_R_turn (x1 : Int32) (h : pH) : Option (Int32 × pH) :=
  if (f_R_all h) = 0 then
    some (0, h)
  else
    (f_R_marks h).bind fun v_2 =>
    lp (fun s => f_R_turn_L1 x1 s.1 s.2) lpN (0, v_2)
set_option maxHeartbeats 4000000 in
theorem b_R_turn {E : pE} {r : Option Value} {hr : pH} {x1 : Int32} {h : pH}  {b : (Int32 × pH)} (e : f_R_turn x1 h = some b) (k : (fun v : (Int32 × pH) => r = some (.int v.1) ∧ hr = v.2) b) : Go E M_R_turn 0 [some (.ref 79), some (.int x1), none] [] h r hr := by
  unfold f_R_turn at e
  refine sl_ok ok_R_turn [.aload_n 0] (pc1 := 1) (ls1 := [some (.ref 79), some (.int x1), none]) (st1 := [.ref 79]) (h1 := h) (P := True) (by decide +kernel) rfl trivial ?_
  refine q_callV ok_R_all (as := []) (st := []) ⟨wd_151, wd_152, wd_153, wd_7, ds_R_all, Nat.le_of_ble_eq_true rfl, Nat.le_of_ble_eq_true rfl⟩ (s_R_all ) rfl ⟨rfl, rfl⟩ (ci := 12) rfl (fun v hv => by cases hv; rfl) (Nat.le_of_ble_eq_true rfl) (by decide +kernel) rfl ?_
  refine q_if_ne (off := 5) (tgt := 9) (by decide +kernel) (by decide) (fun c_1 => ?_) (fun c_1 => ?_)
  · have e := it_f c_1 e
    refine sl_ok ok_R_turn [.aload_n 0] (pc1 := 10) (ls1 := [some (.ref 79), some (.int x1), none]) (st1 := [.ref 79]) (h1 := h) (P := True) (by decide +kernel) rfl trivial ?_
    obtain ⟨v_2, e_3, e⟩ := bi_s e
    refine q_callV ok_R_marks (as := []) (st := []) ⟨wd_166, wd_167, wd_168, wd_7, ds_R_marks, Nat.le_of_ble_eq_true rfl, Nat.le_of_ble_eq_true rfl⟩ (s_R_marks  e_3) rfl ⟨rfl, rfl⟩ (ci := 12) rfl (fun v hv => by cases hv) (Nat.le_of_ble_eq_true rfl) (by decide +kernel) rfl ?_
    refine sl_ok ok_R_turn [.iconst 0, .istore_n 2] (pc1 := 15) (ls1 := [some (.ref 79), some (.int x1), some (.int 0)]) (st1 := []) (h1 := v_2) (P := True) (by decide +kernel) rfl trivial ?_
    exact lp_in e (fun s => Go E M_R_turn 15 [some (.ref 79), some (.int x1), some (.int s.1)] [] s.2 r hr) (fun v : (Int32 × pH) => r = some (.int v.1) ∧ hr = v.2) (fun _ _ e k => b_R_turn_L1  e k) k
  · have e := it_t c_1 e
    refine sl_ok ok_R_turn [.iconst 0] (pc1 := 8) (ls1 := [some (.ref 79), some (.int x1), none]) (st1 := [.int 0]) (h1 := h) (P := True) (by decide +kernel) rfl trivial ?_
    cases e
    exact q_zret rfl (Or.inl rfl) k.1 k.2 (by decide +kernel)
theorem s_R_turn {E : pE} {x1 : Int32} {h : pH}  {v : (Int32 × pH)} (e : f_R_turn x1 h = some v) : Ct E M_R_turn [.ref 79, .int x1] h (some (.int v.1)) v.2 :=
  Ct_of ok_R_turn [some (.ref 79), some (.int x1), none] (Nat.le_of_ble_eq_true rfl) rfl (b_R_turn  e ⟨rfl, rfl⟩)
def f_Shelf_give_L1 (o0 : Nat) (o2 : Nat) (o3 : Nat) (x4 : Int32) (h : pH) : Option ((Int32 × pH) ⊕ pH) :=
  if 12 ≤ x4 then
    some (.inr h)
  else
    if (hI h o3 1) ≤ x4 then
      some (.inr h)
    else
      if (2 + (2 * x4)) < 0 ∨ 26 ≤ (2 + (2 * x4)).toNatClampNeg then none else
      if (3 + (2 * x4)) < 0 ∨ 26 ≤ (3 + (2 * x4)).toNatClampNeg then none else
      (f_Cloud_append o2 (hI h o3 (2 + (2 * x4)).toNatClampNeg) (hI h o3 (3 + (2 * x4)).toNatClampNeg) h).bind fun v_5 =>
      some (.inl ((x4 + 1), v_5))
set_option maxHeartbeats 4000000 in
theorem b_Shelf_give_L1 {E : pE} {r : Option Value} {hr : pH} {o0 : Nat} {o2 : Nat} {o3 : Nat} {x4 : Int32} {h : pH} (ho0 : ak o0 = 0 ∧ cx o0 = 8) (ho2 : ak o2 = 0 ∧ cx o2 = 0) (ho3 : ak o3 = 1 ∧ cx o3 = 26) {b : ((Int32 × pH) ⊕ pH)} (e : f_Shelf_give_L1 o0 o2 o3 x4 h = some b) (k : (Sum.elim (fun s : (Int32 × pH) => Go E M_Shelf_give 34 [some (.ref o0), none, some (.ref o2), some (.ref o3), some (.int s.1)] [] s.2 r hr) (fun v : pH => r = none ∧ hr = v)) b) : Go E M_Shelf_give 34 [some (.ref o0), none, some (.ref o2), some (.ref o3), some (.int x4)] [] h r hr := by
  unfold f_Shelf_give_L1 at e
  refine sl_ok ok_Shelf_give [.iload 4, .bipush 12] (pc1 := 38) (ls1 := [some (.ref o0), none, some (.ref o2), some (.ref o3), some (.int x4)]) (st1 := [.int 12, .int x4]) (h1 := h) (P := True) (by decide +kernel) rfl trivial ?_
  refine q_icmp_ge (off := 37) (tgt := 75) (by decide +kernel) (by decide) (fun c_1 => ?_) (fun c_1 => ?_)
  · have e := it_t c_1 e
    cases e
    exact q_vret rfl k.1 k.2 (by decide +kernel)
  · have e := it_f c_1 e
    refine sl_ok ok_Shelf_give [.iload 4, .aload_n 3, .iconst 1, .iaload] (pc1 := 46) (ls1 := [some (.ref o0), none, some (.ref o2), some (.ref o3), some (.int x4)]) (st1 := [.int (hI h o3 1), .int x4]) (h1 := h) (P := (ak o3 = 1 ∧ ¬ ((1 : Int32) < 0 ∨ cx o3 ≤ (1 : Int32).toNatClampNeg)) ∧ True) (by decide +kernel) rfl ⟨⟨ho3.1, (by rw [ho3.2]; decide)⟩, trivial⟩ ?_
    refine q_icmp_ge (off := 29) (tgt := 75) (by decide +kernel) (by decide) (fun c_2 => ?_) (fun c_2 => ?_)
    · have e := it_t c_2 e
      cases e
      exact q_vret rfl k.1 k.2 (by decide +kernel)
    · have e := it_f c_2 e
      obtain ⟨g_3, e⟩ := it_g e
      obtain ⟨g_4, e⟩ := it_g e
      refine sl_ok ok_Shelf_give [.aload_n 2, .aload_n 3, .iconst 2, .iconst 2, .iload 4, .imul, .iadd, .iaload, .aload_n 3, .iconst 3, .iconst 2, .iload 4, .imul, .iadd, .iaload] (pc1 := 66) (ls1 := [some (.ref o0), none, some (.ref o2), some (.ref o3), some (.int x4)]) (st1 := [.int (hI h o3 (3 + (2 * x4)).toNatClampNeg), .int (hI h o3 (2 + (2 * x4)).toNatClampNeg), .ref o2]) (h1 := h) (P := (ak o3 = 1 ∧ ¬ ((2 + (2 * x4)) < 0 ∨ cx o3 ≤ (2 + (2 * x4)).toNatClampNeg)) ∧ (ak o3 = 1 ∧ ¬ ((3 + (2 * x4)) < 0 ∨ cx o3 ≤ (3 + (2 * x4)).toNatClampNeg)) ∧ True) (by decide +kernel) rfl ⟨⟨ho3.1, (by rw [ho3.2]; exact g_3)⟩, ⟨ho3.1, (by rw [ho3.2]; exact g_4)⟩, trivial⟩ ?_
      obtain ⟨v_5, e_6, e⟩ := bi_s e
      refine q_callV ok_Cloud_append (as := [.int (hI h o3 (2 + (2 * x4)).toNatClampNeg), .int (hI h o3 (3 + (2 * x4)).toNatClampNeg)]) (st := []) ⟨wd_193, wd_56, wd_57, wd_14, ds_Cloud_append, Nat.le_of_ble_eq_true rfl, Nat.le_of_ble_eq_true rfl⟩ (s_Cloud_append ho2 e_6) rfl ho2 (ci := 0) rfl (fun v hv => by cases hv) (Nat.le_of_ble_eq_true rfl) (by decide +kernel) rfl ?_
      refine sl_ok ok_Shelf_give [.iinc 4 1] (pc1 := 72) (ls1 := [some (.ref o0), none, some (.ref o2), some (.ref o3), some (.int (x4 + 1))]) (st1 := []) (h1 := v_5) (P := True) (by decide +kernel) rfl trivial ?_
      refine q_goto (off := -38) (tgt := 34) (by decide) (by decide +kernel) ?_
      cases e
      exact k
def f_Shelf_give (o0 : Nat) (x1 : Int32) (o2 : Nat) (h : pH) : Option pH :=
  if x1 < 0 then
    some h
  else
    if (Int32.ofNat (cx (rf o0 0))) ≤ x1 then
      some h
    else
      if x1 < 0 ∨ (cx (rf o0 0)) ≤ x1.toNatClampNeg then none else
      lp (fun s => f_Shelf_give_L1 o0 o2 (rf (rf o0 0) x1.toNatClampNeg) s.1 s.2) lpN (0, (sI (f_Cloud_clear o2 h) o2 3 (hI (f_Cloud_clear o2 h) (rf (rf o0 0) x1.toNatClampNeg) 0)))
set_option maxHeartbeats 4000000 in
theorem b_Shelf_give {E : pE} {r : Option Value} {hr : pH} {o0 : Nat} {x1 : Int32} {o2 : Nat} {h : pH} (ho0 : ak o0 = 0 ∧ cx o0 = 8) (ho2 : ak o2 = 0 ∧ cx o2 = 0) {b : pH} (e : f_Shelf_give o0 x1 o2 h = some b) (k : (fun v : pH => r = none ∧ hr = v) b) : Go E M_Shelf_give 0 [some (.ref o0), some (.int x1), some (.ref o2), none, none] [] h r hr := by
  unfold f_Shelf_give at e
  refine sl_ok ok_Shelf_give [.iload_n 1] (pc1 := 1) (ls1 := [some (.ref o0), some (.int x1), some (.ref o2), none, none]) (st1 := [.int x1]) (h1 := h) (P := True) (by decide +kernel) rfl trivial ?_
  refine q_if_lt (off := 74) (tgt := 75) (by decide +kernel) (by decide) (fun c_1 => ?_) (fun c_1 => ?_)
  · have e := it_t c_1 e
    cases e
    exact q_vret rfl k.1 k.2 (by decide +kernel)
  · have e := it_f c_1 e
    refine sl_ok ok_Shelf_give [.iload_n 1, .aload_n 0, .getfield 17, .arraylength] (pc1 := 10) (ls1 := [some (.ref o0), some (.int x1), some (.ref o2), none, none]) (st1 := [.int (Int32.ofNat (cx (rf o0 0))), .int x1]) (h1 := h) (P := (ak o0 = 0 ∧ cx o0 = 8) ∧ (ak (rf o0 0) = 1 ∨ ak (rf o0 0) = 5) ∧ True) (by decide +kernel) rfl ⟨ho0, Or.inr (st_8_0 ho0), trivial⟩ ?_
    refine q_icmp_ge (off := 65) (tgt := 75) (by decide +kernel) (by decide) (fun c_2 => ?_) (fun c_2 => ?_)
    · have e := it_t c_2 e
      cases e
      exact q_vret rfl k.1 k.2 (by decide +kernel)
    · have e := it_f c_2 e
      obtain ⟨g_3, e⟩ := it_g e
      refine sl_ok ok_Shelf_give [.aload_n 0, .getfield 17, .iload_n 1, .aaload, .astore_n 3, .aload_n 2] (pc1 := 21) (ls1 := [some (.ref o0), some (.int x1), some (.ref o2), some (.ref (rf (rf o0 0) x1.toNatClampNeg)), none]) (st1 := [.ref o2]) (h1 := h) (P := (ak o0 = 0 ∧ cx o0 = 8) ∧ (ak (rf o0 0) = 5 ∧ ¬ (x1 < 0 ∨ cx (rf o0 0) ≤ x1.toNatClampNeg)) ∧ True) (by decide +kernel) rfl ⟨ho0, ⟨(st_8_0 ho0), g_3⟩, trivial⟩ ?_
      refine q_callV ok_Cloud_clear (as := []) (st := []) ⟨wd_192, wd_12, wd_13, wd_14, ds_Cloud_clear, Nat.le_of_ble_eq_true rfl, Nat.le_of_ble_eq_true rfl⟩ (s_Cloud_clear ho2) rfl ho2 (ci := 0) rfl (fun v hv => by cases hv) (Nat.le_of_ble_eq_true rfl) (by decide +kernel) rfl ?_
      refine sl_ok ok_Shelf_give [.aload_n 2, .aload_n 3, .iconst 0, .iaload, .putfield 22, .iconst 0, .istore 4] (pc1 := 34) (ls1 := [some (.ref o0), some (.int x1), some (.ref o2), some (.ref (rf (rf o0 0) x1.toNatClampNeg)), some (.int 0)]) (st1 := []) (h1 := (sI (f_Cloud_clear o2 h) o2 3 (hI (f_Cloud_clear o2 h) (rf (rf o0 0) x1.toNatClampNeg) 0))) (P := (ak (rf (rf o0 0) x1.toNatClampNeg) = 1 ∧ ¬ ((0 : Int32) < 0 ∨ cx (rf (rf o0 0) x1.toNatClampNeg) ≤ (0 : Int32).toNatClampNeg)) ∧ (ak o2 = 0 ∧ cx o2 = 0) ∧ True) (by decide +kernel) rfl ⟨⟨(st_row (st_8_0 ho0)).1, (by rw [(st_row (st_8_0 ho0)).2]; decide)⟩, ho2, trivial⟩ ?_
      refine Go.sb [some (.ref o0), none, some (.ref o2), some (.ref (rf (rf o0 0) x1.toNatClampNeg)), some (.int 0)] (And.intro rfl (And.intro rfl (And.intro rfl (And.intro rfl trivial)))) ?_
      exact lp_in e (fun s => Go E M_Shelf_give 34 [some (.ref o0), none, some (.ref o2), some (.ref (rf (rf o0 0) x1.toNatClampNeg)), some (.int s.1)] [] s.2 r hr) (fun v : pH => r = none ∧ hr = v) (fun _ _ e k => b_Shelf_give_L1 ho0 ho2 (st_row (st_8_0 ho0)) e k) k
theorem s_Shelf_give {E : pE} {o0 : Nat} {x1 : Int32} {o2 : Nat} {h : pH} (ho0 : ak o0 = 0 ∧ cx o0 = 8) (ho2 : ak o2 = 0 ∧ cx o2 = 0) {v : pH} (e : f_Shelf_give o0 x1 o2 h = some v) : Ct E M_Shelf_give [.ref o0, .int x1, .ref o2] h none v :=
  Ct_of ok_Shelf_give [some (.ref o0), some (.int x1), some (.ref o2), none, none] (Nat.le_of_ble_eq_true rfl) rfl (b_Shelf_give ho0 ho2 e ⟨rfl, rfl⟩)
def f_C_undo (h : pH) : Option (Int32 × pH) :=
  if (hI h 0 13) = 0 then
    some (0, h)
  else
    (f_Shelf_give 31 (hI (sI (sI h 0 13 ((hI h 0 13) - 1)) 0 14 (jrem (((hI (sI h 0 13 ((hI h 0 13) - 1)) 0 14) + 40) - 1) 40)) 0 14) 8 (sI (sI h 0 13 ((hI h 0 13) - 1)) 0 14 (jrem (((hI (sI h 0 13 ((hI h 0 13) - 1)) 0 14) + 40) - 1) 40))).bind fun v_2 =>
    some (1, v_2)
set_option maxHeartbeats 4000000 in
theorem b_C_undo {E : pE} {r : Option Value} {hr : pH} {h : pH}  {b : (Int32 × pH)} (e : f_C_undo h = some b) (k : (fun v : (Int32 × pH) => r = some (.int v.1) ∧ hr = v.2) b) : Go E M_C_undo 0 [some (.ref 0)] [] h r hr := by
  unfold f_C_undo at e
  refine sl_ok ok_C_undo [.aload_n 0, .getfield 151] (pc1 := 4) (ls1 := [some (.ref 0)]) (st1 := [.int (hI h 0 13)]) (h1 := h) (P := (ak 0 = 0 ∧ cx 0 = 11) ∧ True) (by decide +kernel) rfl ⟨⟨rfl, rfl⟩, trivial⟩ ?_
  refine q_if_ne (off := 5) (tgt := 9) (by decide +kernel) (by decide) (fun c_1 => ?_) (fun c_1 => ?_)
  · have e := it_f c_1 e
    refine sl_ok ok_C_undo [.aload_n 0, .dup, .getfield 151, .iconst 1, .isub, .putfield 151, .aload_n 0, .aload_n 0, .getfield 154, .bipush 40, .iadd, .iconst 1, .isub, .bipush 40, .irem, .putfield 154, .aload_n 0, .getfield 82, .aload_n 0, .getfield 154, .aload_n 0, .getfield 28] (pc1 := 47) (ls1 := [some (.ref 0)]) (st1 := [.ref 8, .int (hI (sI (sI h 0 13 ((hI h 0 13) - 1)) 0 14 (jrem (((hI (sI h 0 13 ((hI h 0 13) - 1)) 0 14) + 40) - 1) 40)) 0 14), .ref 31]) (h1 := (sI (sI h 0 13 ((hI h 0 13) - 1)) 0 14 (jrem (((hI (sI h 0 13 ((hI h 0 13) - 1)) 0 14) + 40) - 1) 40))) (P := (ak 0 = 0 ∧ cx 0 = 11) ∧ (ak 0 = 0 ∧ cx 0 = 11) ∧ (ak 0 = 0 ∧ cx 0 = 11) ∧ (¬ (40 : Int32) = 0) ∧ (ak 0 = 0 ∧ cx 0 = 11) ∧ (ak 0 = 0 ∧ cx 0 = 11) ∧ (ak 0 = 0 ∧ cx 0 = 11) ∧ (ak 0 = 0 ∧ cx 0 = 11) ∧ True) (by decide +kernel) rfl ⟨⟨rfl, rfl⟩, ⟨rfl, rfl⟩, ⟨rfl, rfl⟩, (by decide), ⟨rfl, rfl⟩, ⟨rfl, rfl⟩, ⟨rfl, rfl⟩, ⟨rfl, rfl⟩, trivial⟩ ?_
    obtain ⟨v_2, e_3, e⟩ := bi_s e
    refine q_callV ok_Shelf_give (as := [.int (hI (sI (sI h 0 13 ((hI h 0 13) - 1)) 0 14 (jrem (((hI (sI h 0 13 ((hI h 0 13) - 1)) 0 14) + 40) - 1) 40)) 0 14), .ref 8]) (st := []) ⟨wd_194, wd_195, wd_196, wd_144, ds_Shelf_give, Nat.le_of_ble_eq_true rfl, Nat.le_of_ble_eq_true rfl⟩ (s_Shelf_give ⟨rfl, rfl⟩ ⟨rfl, rfl⟩ e_3) rfl ⟨rfl, rfl⟩ (ci := 8) rfl (fun v hv => by cases hv) (Nat.le_of_ble_eq_true rfl) (by decide +kernel) rfl ?_
    refine sl_ok ok_C_undo [.iconst 1] (pc1 := 51) (ls1 := [some (.ref 0)]) (st1 := [.int 1]) (h1 := v_2) (P := True) (by decide +kernel) rfl trivial ?_
    cases e
    exact q_zret rfl (Or.inr rfl) k.1 k.2 (by decide +kernel)
  · have e := it_t c_1 e
    refine sl_ok ok_C_undo [.iconst 0] (pc1 := 8) (ls1 := [some (.ref 0)]) (st1 := [.int 0]) (h1 := h) (P := True) (by decide +kernel) rfl trivial ?_
    cases e
    exact q_zret rfl (Or.inl rfl) k.1 k.2 (by decide +kernel)
theorem s_C_undo {E : pE} {h : pH}  {v : (Int32 × pH)} (e : f_C_undo h = some v) : Ct E M_C_undo [.ref 0] h (some (.int v.1)) v.2 :=
  Ct_of ok_C_undo [some (.ref 0)] (Nat.le_of_ble_eq_true rfl) rfl (b_C_undo  e ⟨rfl, rfl⟩)
def f_R_undo_L1 (x1 : Int32) (x2 : Int32) (h : pH) : Option ((Int32 × pH) ⊕ (Int32 × pH)) :=
  if 26 ≤ x2 then
    some (.inr (1, h))
  else
    if (x1 + x2) < 0 ∨ 1040 ≤ (x1 + x2).toNatClampNeg then none else
    if x2 < 0 ∨ 28 ≤ x2.toNatClampNeg then none else
    some (.inl ((x2 + 1), (sI h 87 x2.toNatClampNeg (hI h 91 (x1 + x2).toNatClampNeg))))
set_option maxHeartbeats 4000000 in
theorem b_R_undo_L1 {E : pE} {r : Option Value} {hr : pH} {x1 : Int32} {x2 : Int32} {h : pH}  {b : ((Int32 × pH) ⊕ (Int32 × pH))} (e : f_R_undo_L1 x1 x2 h = some b) (k : (Sum.elim (fun s : (Int32 × pH) => Go E M_R_undo 37 [some (.ref 79), some (.int x1), some (.int s.1)] [] s.2 r hr) (fun v : (Int32 × pH) => r = some (.int v.1) ∧ hr = v.2)) b) : Go E M_R_undo 37 [some (.ref 79), some (.int x1), some (.int x2)] [] h r hr := by
  unfold f_R_undo_L1 at e
  refine sl_ok ok_R_undo [.iload_n 2, .bipush 26] (pc1 := 40) (ls1 := [some (.ref 79), some (.int x1), some (.int x2)]) (st1 := [.int 26, .int x2]) (h1 := h) (P := True) (by decide +kernel) rfl trivial ?_
  refine q_icmp_ge (off := 23) (tgt := 63) (by decide +kernel) (by decide) (fun c_1 => ?_) (fun c_1 => ?_)
  · have e := it_t c_1 e
    refine sl_ok ok_R_undo [.iconst 1] (pc1 := 64) (ls1 := [some (.ref 79), some (.int x1), some (.int x2)]) (st1 := [.int 1]) (h1 := h) (P := True) (by decide +kernel) rfl trivial ?_
    cases e
    exact q_zret rfl (Or.inr rfl) k.1 k.2 (by decide +kernel)
  · have e := it_f c_1 e
    obtain ⟨g_2, e⟩ := it_g e
    obtain ⟨g_3, e⟩ := it_g e
    refine sl_ok ok_R_undo [.aload_n 0, .getfield 40, .iload_n 2, .aload_n 0, .getfield 53, .iload_n 1, .iload_n 2, .iadd, .iaload, .iastore, .iinc 2 1] (pc1 := 60) (ls1 := [some (.ref 79), some (.int x1), some (.int (x2 + 1))]) (st1 := []) (h1 := (sI h 87 x2.toNatClampNeg (hI h 91 (x1 + x2).toNatClampNeg))) (P := (ak 79 = 0 ∧ cx 79 = 12) ∧ (ak 79 = 0 ∧ cx 79 = 12) ∧ (ak 91 = 1 ∧ ¬ ((x1 + x2) < 0 ∨ cx 91 ≤ (x1 + x2).toNatClampNeg)) ∧ (ak 87 = 1 ∧ ¬ (x2 < 0 ∨ cx 87 ≤ x2.toNatClampNeg)) ∧ True) (by decide +kernel) rfl ⟨⟨rfl, rfl⟩, ⟨rfl, rfl⟩, ⟨rfl, g_2⟩, ⟨rfl, g_3⟩, trivial⟩ ?_
    refine q_goto (off := -23) (tgt := 37) (by decide) (by decide +kernel) ?_
    cases e
    exact k
def f_R_undo (h : pH) : Option (Int32 × pH) :=
  if (hI h 79 24) = 0 then
    some (0, h)
  else
    lp (fun s => f_R_undo_L1 (26 * (jrem ((hI (sI h 79 24 ((hI h 79 24) - 1)) 79 23) + (hI (sI h 79 24 ((hI h 79 24) - 1)) 79 24)) 40)) s.1 s.2) lpN (0, (sI h 79 24 ((hI h 79 24) - 1)))
set_option maxHeartbeats 4000000 in
theorem b_R_undo {E : pE} {r : Option Value} {hr : pH} {h : pH}  {b : (Int32 × pH)} (e : f_R_undo h = some b) (k : (fun v : (Int32 × pH) => r = some (.int v.1) ∧ hr = v.2) b) : Go E M_R_undo 0 [some (.ref 79), none, none] [] h r hr := by
  unfold f_R_undo at e
  refine sl_ok ok_R_undo [.aload_n 0, .getfield 167] (pc1 := 4) (ls1 := [some (.ref 79), none, none]) (st1 := [.int (hI h 79 24)]) (h1 := h) (P := (ak 79 = 0 ∧ cx 79 = 12) ∧ True) (by decide +kernel) rfl ⟨⟨rfl, rfl⟩, trivial⟩ ?_
  refine q_if_ne (off := 5) (tgt := 9) (by decide +kernel) (by decide) (fun c_1 => ?_) (fun c_1 => ?_)
  · have e := it_f c_1 e
    refine sl_ok ok_R_undo [.aload_n 0, .dup, .getfield 167, .iconst 1, .isub, .putfield 167, .bipush 26, .aload_n 0, .getfield 200, .aload_n 0, .getfield 167, .iadd, .bipush 40, .irem, .imul, .istore_n 1, .iconst 0, .istore_n 2] (pc1 := 37) (ls1 := [some (.ref 79), some (.int (26 * (jrem ((hI (sI h 79 24 ((hI h 79 24) - 1)) 79 23) + (hI (sI h 79 24 ((hI h 79 24) - 1)) 79 24)) 40))), some (.int 0)]) (st1 := []) (h1 := (sI h 79 24 ((hI h 79 24) - 1))) (P := (ak 79 = 0 ∧ cx 79 = 12) ∧ (ak 79 = 0 ∧ cx 79 = 12) ∧ (ak 79 = 0 ∧ cx 79 = 12) ∧ (ak 79 = 0 ∧ cx 79 = 12) ∧ (¬ (40 : Int32) = 0) ∧ True) (by decide +kernel) rfl ⟨⟨rfl, rfl⟩, ⟨rfl, rfl⟩, ⟨rfl, rfl⟩, ⟨rfl, rfl⟩, (by decide), trivial⟩ ?_
    exact lp_in e (fun s => Go E M_R_undo 37 [some (.ref 79), some (.int (26 * (jrem ((hI (sI h 79 24 ((hI h 79 24) - 1)) 79 23) + (hI (sI h 79 24 ((hI h 79 24) - 1)) 79 24)) 40))), some (.int s.1)] [] s.2 r hr) (fun v : (Int32 × pH) => r = some (.int v.1) ∧ hr = v.2) (fun _ _ e k => b_R_undo_L1  e k) k
  · have e := it_t c_1 e
    refine sl_ok ok_R_undo [.iconst 0] (pc1 := 8) (ls1 := [some (.ref 79), none, none]) (st1 := [.int 0]) (h1 := h) (P := True) (by decide +kernel) rfl trivial ?_
    cases e
    exact q_zret rfl (Or.inl rfl) k.1 k.2 (by decide +kernel)
theorem s_R_undo {E : pE} {h : pH}  {v : (Int32 × pH)} (e : f_R_undo h = some v) : Ct E M_R_undo [.ref 79] h (some (.int v.1)) v.2 :=
  Ct_of ok_R_undo [some (.ref 79), none, none] (Nat.le_of_ble_eq_true rfl) rfl (b_R_undo  e ⟨rfl, rfl⟩)
def f_Cloud_everyone (o0 : Nat) (h : pH) : Int32 :=
  ((jshl 1 (hI h o0 2)) - 1)
set_option maxHeartbeats 4000000 in
theorem b_Cloud_everyone {E : pE} {r : Option Value} {hr : pH} {o0 : Nat} {h : pH} (ho0 : ak o0 = 0 ∧ cx o0 = 0) {b : Int32} (e : f_Cloud_everyone o0 h = b) (k : (fun v : Int32 => r = some (.int v) ∧ hr = h) b) : Go E M_Cloud_everyone 0 [some (.ref o0)] [] h r hr := by
  unfold f_Cloud_everyone at e
  refine sl_ok ok_Cloud_everyone [.iconst 1, .aload_n 0, .getfield 22, .ishl, .iconst 1, .isub] (pc1 := 8) (ls1 := [some (.ref o0)]) (st1 := [.int ((jshl 1 (hI h o0 2)) - 1)]) (h1 := h) (P := (ak o0 = 0 ∧ cx o0 = 0) ∧ True) (by decide +kernel) rfl ⟨ho0, trivial⟩ ?_
  cases e
  exact q_iret rfl k.1 k.2 (by decide +kernel)
theorem s_Cloud_everyone {E : pE} {o0 : Nat} {h : pH} (ho0 : ak o0 = 0 ∧ cx o0 = 0) : Ct E M_Cloud_everyone [.ref o0] h (some (.int (f_Cloud_everyone o0 h))) h :=
  Ct_of ok_Cloud_everyone [some (.ref o0)] (Nat.le_of_ble_eq_true rfl) rfl (b_Cloud_everyone ho0 rfl ⟨rfl, rfl⟩)
def f_C_bit (x0 : Int32) (x1 : Int32) : Int32 :=
  ((jshr x0 x1) &&& 1)
set_option maxHeartbeats 4000000 in
theorem b_C_bit {E : pE} {r : Option Value} {hr : pH} {x0 : Int32} {x1 : Int32} {h : pH}  {b : Int32} (e : f_C_bit x0 x1 = b) (k : (fun v : Int32 => r = some (.int v) ∧ hr = h) b) : Go E M_C_bit 0 [some (.int x0), some (.int x1)] [] h r hr := by
  unfold f_C_bit at e
  refine sl_ok ok_C_bit [.iload_n 0, .iload_n 1, .ishr, .iconst 1, .iand] (pc1 := 5) (ls1 := [some (.int x0), some (.int x1)]) (st1 := [.int ((jshr x0 x1) &&& 1)]) (h1 := h) (P := True) (by decide +kernel) rfl trivial ?_
  cases e
  exact q_iret rfl k.1 k.2 (by decide +kernel)
theorem s_C_bit {E : pE} {x0 : Int32} {x1 : Int32} {h : pH}  : Ct E M_C_bit [.int x0, .int x1] h (some (.int (f_C_bit x0 x1))) h :=
  Ct_of ok_C_bit [some (.int x0), some (.int x1)] (Nat.le_of_ble_eq_true rfl) rfl (b_C_bit  rfl ⟨rfl, rfl⟩)
def f_Cloud_turnAt (o0 : Nat) (x1 : Int32) (x2 : Int32) (x3 : Int32) (x4 : Int32) (h : pH) : Option Int32 :=
  if x2 < 0 ∨ 12 ≤ x2.toNatClampNeg then none else
  if x1 < 0 ∨ 12 ≤ x1.toNatClampNeg then none else
  some ((((hI h (rf o0 0) x2.toNatClampNeg) - (hI h (rf o0 0) x1.toNatClampNeg)) * (x4 - (hI h (rf o0 1) x1.toNatClampNeg))) - (((hI h (rf o0 1) x2.toNatClampNeg) - (hI h (rf o0 1) x1.toNatClampNeg)) * (x3 - (hI h (rf o0 0) x1.toNatClampNeg))))
set_option maxHeartbeats 4000000 in
theorem b_Cloud_turnAt {E : pE} {r : Option Value} {hr : pH} {o0 : Nat} {x1 : Int32} {x2 : Int32} {x3 : Int32} {x4 : Int32} {h : pH} (ho0 : ak o0 = 0 ∧ cx o0 = 0) {b : Int32} (e : f_Cloud_turnAt o0 x1 x2 x3 x4 h = some b) (k : (fun v : Int32 => r = some (.int v) ∧ hr = h) b) : Go E M_Cloud_turnAt 0 [some (.ref o0), some (.int x1), some (.int x2), some (.int x3), some (.int x4)] [] h r hr := by
  unfold f_Cloud_turnAt at e
  obtain ⟨g_1, e⟩ := it_g e
  obtain ⟨g_2, e⟩ := it_g e
  refine sl_ok ok_Cloud_turnAt [.aload_n 0, .getfield 9, .iload_n 2, .iaload, .aload_n 0, .getfield 9, .iload_n 1, .iaload, .isub, .iload 4, .aload_n 0, .getfield 15, .iload_n 1, .iaload, .isub, .imul, .aload_n 0, .getfield 15, .iload_n 2, .iaload, .aload_n 0, .getfield 15, .iload_n 1, .iaload, .isub, .iload_n 3, .aload_n 0, .getfield 9, .iload_n 1, .iaload, .isub, .imul, .isub] (pc1 := 46) (ls1 := [some (.ref o0), some (.int x1), some (.int x2), some (.int x3), some (.int x4)]) (st1 := [.int ((((hI h (rf o0 0) x2.toNatClampNeg) - (hI h (rf o0 0) x1.toNatClampNeg)) * (x4 - (hI h (rf o0 1) x1.toNatClampNeg))) - (((hI h (rf o0 1) x2.toNatClampNeg) - (hI h (rf o0 1) x1.toNatClampNeg)) * (x3 - (hI h (rf o0 0) x1.toNatClampNeg))))]) (h1 := h) (P := (ak o0 = 0 ∧ cx o0 = 0) ∧ (ak (rf o0 0) = 1 ∧ ¬ (x2 < 0 ∨ cx (rf o0 0) ≤ x2.toNatClampNeg)) ∧ (ak o0 = 0 ∧ cx o0 = 0) ∧ (ak (rf o0 0) = 1 ∧ ¬ (x1 < 0 ∨ cx (rf o0 0) ≤ x1.toNatClampNeg)) ∧ (ak o0 = 0 ∧ cx o0 = 0) ∧ (ak (rf o0 1) = 1 ∧ ¬ (x1 < 0 ∨ cx (rf o0 1) ≤ x1.toNatClampNeg)) ∧ (ak o0 = 0 ∧ cx o0 = 0) ∧ (ak (rf o0 1) = 1 ∧ ¬ (x2 < 0 ∨ cx (rf o0 1) ≤ x2.toNatClampNeg)) ∧ (ak o0 = 0 ∧ cx o0 = 0) ∧ (ak (rf o0 1) = 1 ∧ ¬ (x1 < 0 ∨ cx (rf o0 1) ≤ x1.toNatClampNeg)) ∧ (ak o0 = 0 ∧ cx o0 = 0) ∧ (ak (rf o0 0) = 1 ∧ ¬ (x1 < 0 ∨ cx (rf o0 0) ≤ x1.toNatClampNeg)) ∧ True) (by decide +kernel) rfl ⟨ho0, ⟨(st_0_0 ho0).1, (by rw [(st_0_0 ho0).2]; exact g_1)⟩, ho0, ⟨(st_0_0 ho0).1, (by rw [(st_0_0 ho0).2]; exact g_2)⟩, ho0, ⟨(st_0_1 ho0).1, (by rw [(st_0_1 ho0).2]; exact g_2)⟩, ho0, ⟨(st_0_1 ho0).1, (by rw [(st_0_1 ho0).2]; exact g_1)⟩, ho0, ⟨(st_0_1 ho0).1, (by rw [(st_0_1 ho0).2]; exact g_2)⟩, ho0, ⟨(st_0_0 ho0).1, (by rw [(st_0_0 ho0).2]; exact g_2)⟩, trivial⟩ ?_
  cases e
  exact q_iret rfl k.1 k.2 (by decide +kernel)
theorem s_Cloud_turnAt {E : pE} {o0 : Nat} {x1 : Int32} {x2 : Int32} {x3 : Int32} {x4 : Int32} {h : pH} (ho0 : ak o0 = 0 ∧ cx o0 = 0) {v : Int32} (e : f_Cloud_turnAt o0 x1 x2 x3 x4 h = some v) : Ct E M_Cloud_turnAt [.ref o0, .int x1, .int x2, .int x3, .int x4] h (some (.int v)) h :=
  Ct_of ok_Cloud_turnAt [some (.ref o0), some (.int x1), some (.int x2), some (.int x3), some (.int x4)] (Nat.le_of_ble_eq_true rfl) rfl (b_Cloud_turnAt ho0 e ⟨rfl, rfl⟩)
def f_C_signOf (x0 : Int32) : Int32 :=
  if x0 ≤ 0 then
    if 0 ≤ x0 then
      0
    else
      (-1)
  else
    1
set_option maxHeartbeats 4000000 in
theorem b_C_signOf {E : pE} {r : Option Value} {hr : pH} {x0 : Int32} {h : pH}  {b : Int32} (e : f_C_signOf x0 = b) (k : (fun v : Int32 => r = some (.int v) ∧ hr = h) b) : Go E M_C_signOf 0 [some (.int x0)] [] h r hr := by
  unfold f_C_signOf at e
  refine sl_ok ok_C_signOf [.iload_n 0] (pc1 := 1) (ls1 := [some (.int x0)]) (st1 := [.int x0]) (h1 := h) (P := True) (by decide +kernel) rfl trivial ?_
  refine q_if_le (off := 7) (tgt := 8) (by decide +kernel) (by decide) (fun c_1 => ?_) (fun c_1 => ?_)
  · have e := it_t c_1 e
    refine sl_ok ok_C_signOf [.iload_n 0] (pc1 := 9) (ls1 := [some (.int x0)]) (st1 := [.int x0]) (h1 := h) (P := True) (by decide +kernel) rfl trivial ?_
    refine q_if_ge (off := 7) (tgt := 16) (by decide +kernel) (by decide) (fun c_2 => ?_) (fun c_2 => ?_)
    · have e := it_t c_2 e
      refine sl_ok ok_C_signOf [.iconst 0] (pc1 := 17) (ls1 := [some (.int x0)]) (st1 := [.int 0]) (h1 := h) (P := True) (by decide +kernel) rfl trivial ?_
      cases e
      exact q_iret rfl k.1 k.2 (by decide +kernel)
    · have e := it_f c_2 e
      refine sl_ok ok_C_signOf [.iconst (-1)] (pc1 := 13) (ls1 := [some (.int x0)]) (st1 := [.int (-1)]) (h1 := h) (P := True) (by decide +kernel) rfl trivial ?_
      refine q_goto (off := 4) (tgt := 17) (by decide) (by decide +kernel) ?_
      cases e
      exact q_iret rfl k.1 k.2 (by decide +kernel)
  · have e := it_f c_1 e
    refine sl_ok ok_C_signOf [.iconst 1] (pc1 := 5) (ls1 := [some (.int x0)]) (st1 := [.int 1]) (h1 := h) (P := True) (by decide +kernel) rfl trivial ?_
    refine q_goto (off := 12) (tgt := 17) (by decide) (by decide +kernel) ?_
    cases e
    exact q_iret rfl k.1 k.2 (by decide +kernel)
theorem s_C_signOf {E : pE} {x0 : Int32} {h : pH}  : Ct E M_C_signOf [.int x0] h (some (.int (f_C_signOf x0))) h :=
  Ct_of ok_C_signOf [some (.int x0)] (Nat.le_of_ble_eq_true rfl) rfl (b_C_signOf  rfl ⟨rfl, rfl⟩)
def f_Cloud_sideBits_L1 (o0 : Nat) (x1 : Int32) (x2 : Int32) (x3 : Int32) (h : pH) (x4 : Int32) (x5 : Int32) : Option ((Int32 × Int32) ⊕ Int32) :=
  if (hI h o0 2) ≤ x5 then
    some (.inr x4)
  else
    if x5 = x1 then
      some (.inl (x4, (x5 + 1)))
    else
      if x5 = x2 then
        some (.inl (x4, (x5 + 1)))
      else
        if x5 < 0 ∨ 12 ≤ x5.toNatClampNeg then none else
        (f_Cloud_turnAt o0 x1 x2 (hI h (rf o0 0) x5.toNatClampNeg) (hI h (rf o0 1) x5.toNatClampNeg) h).bind fun v_5 =>
        if (f_C_signOf v_5) = x3 then
          some (.inl ((x4 ||| (jshl 1 x5)), (x5 + 1)))
        else
          some (.inl (x4, (x5 + 1)))
set_option maxHeartbeats 4000000 in
theorem b_Cloud_sideBits_L1 {E : pE} {r : Option Value} {hr : pH} {o0 : Nat} {x1 : Int32} {x2 : Int32} {x3 : Int32} {h : pH} {x4 : Int32} {x5 : Int32} (ho0 : ak o0 = 0 ∧ cx o0 = 0) {b : ((Int32 × Int32) ⊕ Int32)} (e : f_Cloud_sideBits_L1 o0 x1 x2 x3 h x4 x5 = some b) (k : (Sum.elim (fun s : (Int32 × Int32) => Go E M_Cloud_sideBits 6 [some (.ref o0), some (.int x1), some (.int x2), some (.int x3), some (.int s.1), some (.int s.2)] [] h r hr) (fun v : Int32 => r = some (.int v) ∧ hr = h)) b) : Go E M_Cloud_sideBits 6 [some (.ref o0), some (.int x1), some (.int x2), some (.int x3), some (.int x4), some (.int x5)] [] h r hr := by
  unfold f_Cloud_sideBits_L1 at e
  refine sl_ok ok_Cloud_sideBits [.iload 5, .aload_n 0, .getfield 22] (pc1 := 12) (ls1 := [some (.ref o0), some (.int x1), some (.int x2), some (.int x3), some (.int x4), some (.int x5)]) (st1 := [.int (hI h o0 2), .int x5]) (h1 := h) (P := (ak o0 = 0 ∧ cx o0 = 0) ∧ True) (by decide +kernel) rfl ⟨ho0, trivial⟩ ?_
  refine q_icmp_ge (off := 57) (tgt := 69) (by decide +kernel) (by decide) (fun c_1 => ?_) (fun c_1 => ?_)
  · have e := it_t c_1 e
    refine sl_ok ok_Cloud_sideBits [.iload 4] (pc1 := 71) (ls1 := [some (.ref o0), some (.int x1), some (.int x2), some (.int x3), some (.int x4), some (.int x5)]) (st1 := [.int x4]) (h1 := h) (P := True) (by decide +kernel) rfl trivial ?_
    cases e
    exact q_iret rfl k.1 k.2 (by decide +kernel)
  · have e := it_f c_1 e
    refine sl_ok ok_Cloud_sideBits [.iload 5, .iload_n 1] (pc1 := 18) (ls1 := [some (.ref o0), some (.int x1), some (.int x2), some (.int x3), some (.int x4), some (.int x5)]) (st1 := [.int x1, .int x5]) (h1 := h) (P := True) (by decide +kernel) rfl trivial ?_
    refine q_icmp_eq (off := 45) (tgt := 63) (by decide +kernel) (by decide) (fun c_2 => ?_) (fun c_2 => ?_)
    · have e := it_t c_2 e
      refine sl_ok ok_Cloud_sideBits [.iinc 5 1] (pc1 := 66) (ls1 := [some (.ref o0), some (.int x1), some (.int x2), some (.int x3), some (.int x4), some (.int (x5 + 1))]) (st1 := []) (h1 := h) (P := True) (by decide +kernel) rfl trivial ?_
      refine q_goto (off := -60) (tgt := 6) (by decide) (by decide +kernel) ?_
      cases e
      exact k
    · have e := it_f c_2 e
      refine sl_ok ok_Cloud_sideBits [.iload 5, .iload_n 2] (pc1 := 24) (ls1 := [some (.ref o0), some (.int x1), some (.int x2), some (.int x3), some (.int x4), some (.int x5)]) (st1 := [.int x2, .int x5]) (h1 := h) (P := True) (by decide +kernel) rfl trivial ?_
      refine q_icmp_eq (off := 39) (tgt := 63) (by decide +kernel) (by decide) (fun c_3 => ?_) (fun c_3 => ?_)
      · have e := it_t c_3 e
        refine sl_ok ok_Cloud_sideBits [.iinc 5 1] (pc1 := 66) (ls1 := [some (.ref o0), some (.int x1), some (.int x2), some (.int x3), some (.int x4), some (.int (x5 + 1))]) (st1 := []) (h1 := h) (P := True) (by decide +kernel) rfl trivial ?_
        refine q_goto (off := -60) (tgt := 6) (by decide) (by decide +kernel) ?_
        cases e
        exact k
      · have e := it_f c_3 e
        obtain ⟨g_4, e⟩ := it_g e
        refine sl_ok ok_Cloud_sideBits [.aload_n 0, .iload_n 1, .iload_n 2, .aload_n 0, .getfield 9, .iload 5, .iaload, .aload_n 0, .getfield 15, .iload 5, .iaload] (pc1 := 44) (ls1 := [some (.ref o0), some (.int x1), some (.int x2), some (.int x3), some (.int x4), some (.int x5)]) (st1 := [.int (hI h (rf o0 1) x5.toNatClampNeg), .int (hI h (rf o0 0) x5.toNatClampNeg), .int x2, .int x1, .ref o0]) (h1 := h) (P := (ak o0 = 0 ∧ cx o0 = 0) ∧ (ak (rf o0 0) = 1 ∧ ¬ (x5 < 0 ∨ cx (rf o0 0) ≤ x5.toNatClampNeg)) ∧ (ak o0 = 0 ∧ cx o0 = 0) ∧ (ak (rf o0 1) = 1 ∧ ¬ (x5 < 0 ∨ cx (rf o0 1) ≤ x5.toNatClampNeg)) ∧ True) (by decide +kernel) rfl ⟨ho0, ⟨(st_0_0 ho0).1, (by rw [(st_0_0 ho0).2]; exact g_4)⟩, ho0, ⟨(st_0_1 ho0).1, (by rw [(st_0_1 ho0).2]; exact g_4)⟩, trivial⟩ ?_
        obtain ⟨v_5, e_6, e⟩ := bi_s e
        refine q_callV ok_Cloud_turnAt (as := [.int x1, .int x2, .int (hI h (rf o0 0) x5.toNatClampNeg), .int (hI h (rf o0 1) x5.toNatClampNeg)]) (st := []) ⟨wd_197, wd_198, wd_199, wd_14, ds_Cloud_turnAt, Nat.le_of_ble_eq_true rfl, Nat.le_of_ble_eq_true rfl⟩ (s_Cloud_turnAt ho0 e_6) rfl ho0 (ci := 0) rfl (fun v hv => by cases hv; rfl) (Nat.le_of_ble_eq_true rfl) (by decide +kernel) rfl ?_
        refine q_callSN ok_C_signOf (as := [.int v_5]) (st := []) ⟨(List.mem_of_getElem? (i := 14) rfl), wd_200, wd_48, ds_C_signOf, Nat.le_of_ble_eq_true rfl, Nat.le_of_ble_eq_true rfl⟩ (s_C_signOf ) rfl (fun v hv => by cases hv; rfl) (Nat.le_of_ble_eq_true rfl) (by decide +kernel) rfl ?_
        refine sl_ok ok_Cloud_sideBits [.iload_n 3] (pc1 := 51) (ls1 := [some (.ref o0), some (.int x1), some (.int x2), some (.int x3), some (.int x4), some (.int x5)]) (st1 := [.int x3, .int (f_C_signOf v_5)]) (h1 := h) (P := True) (by decide +kernel) rfl trivial ?_
        refine q_icmp_ne (off := 12) (tgt := 63) (by decide +kernel) (by decide) (fun c_7 => ?_) (fun c_7 => ?_)
        · have e := it_f c_7 e
          refine sl_ok ok_Cloud_sideBits [.iinc 5 1] (pc1 := 66) (ls1 := [some (.ref o0), some (.int x1), some (.int x2), some (.int x3), some (.int x4), some (.int (x5 + 1))]) (st1 := []) (h1 := h) (P := True) (by decide +kernel) rfl trivial ?_
          refine q_goto (off := -60) (tgt := 6) (by decide) (by decide +kernel) ?_
          cases e
          exact k
        · have e := it_t c_7 e
          refine sl_ok ok_Cloud_sideBits [.iload 4, .iconst 1, .iload 5, .ishl, .ior, .istore 4, .iinc 5 1] (pc1 := 66) (ls1 := [some (.ref o0), some (.int x1), some (.int x2), some (.int x3), some (.int (x4 ||| (jshl 1 x5))), some (.int (x5 + 1))]) (st1 := []) (h1 := h) (P := True) (by decide +kernel) rfl trivial ?_
          refine q_goto (off := -60) (tgt := 6) (by decide) (by decide +kernel) ?_
          cases e
          exact k
def f_Cloud_sideBits (o0 : Nat) (x1 : Int32) (x2 : Int32) (x3 : Int32) (h : pH) : Option Int32 :=
  lp (fun s => f_Cloud_sideBits_L1 o0 x1 x2 x3 h s.1 s.2) lpN (0, 0)
set_option maxHeartbeats 4000000 in
theorem b_Cloud_sideBits {E : pE} {r : Option Value} {hr : pH} {o0 : Nat} {x1 : Int32} {x2 : Int32} {x3 : Int32} {h : pH} (ho0 : ak o0 = 0 ∧ cx o0 = 0) {b : Int32} (e : f_Cloud_sideBits o0 x1 x2 x3 h = some b) (k : (fun v : Int32 => r = some (.int v) ∧ hr = h) b) : Go E M_Cloud_sideBits 0 [some (.ref o0), some (.int x1), some (.int x2), some (.int x3), none, none] [] h r hr := by
  unfold f_Cloud_sideBits at e
  refine sl_ok ok_Cloud_sideBits [.iconst 0, .istore 4, .iconst 0, .istore 5] (pc1 := 6) (ls1 := [some (.ref o0), some (.int x1), some (.int x2), some (.int x3), some (.int 0), some (.int 0)]) (st1 := []) (h1 := h) (P := True) (by decide +kernel) rfl trivial ?_
  exact lp_in e (fun s => Go E M_Cloud_sideBits 6 [some (.ref o0), some (.int x1), some (.int x2), some (.int x3), some (.int s.1), some (.int s.2)] [] h r hr) (fun v : Int32 => r = some (.int v) ∧ hr = h) (fun _ _ e k => b_Cloud_sideBits_L1 ho0 e k) k
theorem s_Cloud_sideBits {E : pE} {o0 : Nat} {x1 : Int32} {x2 : Int32} {x3 : Int32} {h : pH} (ho0 : ak o0 = 0 ∧ cx o0 = 0) {v : Int32} (e : f_Cloud_sideBits o0 x1 x2 x3 h = some v) : Ct E M_Cloud_sideBits [.ref o0, .int x1, .int x2, .int x3] h (some (.int v)) h :=
  Ct_of ok_Cloud_sideBits [some (.ref o0), some (.int x1), some (.int x2), some (.int x3), none, none] (Nat.le_of_ble_eq_true rfl) rfl (b_Cloud_sideBits ho0 e ⟨rfl, rfl⟩)
def f_Hulls_isOnRim_L1 (o0 : Nat) (x1 : Int32) (x2 : Int32) (h : pH) (x3 : Int32) : Option (Int32 ⊕ Int32) :=
  if (hI h o0 2) ≤ x3 then
    some (.inr 0)
  else
    if x3 = x2 then
      some (.inl (x3 + 1))
    else
      if (f_C_bit x1 x3) = 1 then
        (f_Cloud_sideBits o0 x2 x3 ((-1) : Int32) h).bind fun v_4 =>
        if (v_4 &&& x1) = 0 then
          some (.inr 1)
        else
          some (.inl (x3 + 1))
      else
        some (.inl (x3 + 1))
set_option maxHeartbeats 4000000 in
theorem b_Hulls_isOnRim_L1 {E : pE} {r : Option Value} {hr : pH} {o0 : Nat} {x1 : Int32} {x2 : Int32} {h : pH} {x3 : Int32} (ho0 : ak o0 = 0 ∧ cx o0 = 0) {b : (Int32 ⊕ Int32)} (e : f_Hulls_isOnRim_L1 o0 x1 x2 h x3 = some b) (k : (Sum.elim (fun s : Int32 => Go E M_Hulls_isOnRim 11 [some (.ref o0), some (.int x1), some (.int x2), some (.int s)] [] h r hr) (fun v : Int32 => r = some (.int v) ∧ hr = h)) b) : Go E M_Hulls_isOnRim 11 [some (.ref o0), some (.int x1), some (.int x2), some (.int x3)] [] h r hr := by
  unfold f_Hulls_isOnRim_L1 at e
  refine sl_ok ok_Hulls_isOnRim [.iload_n 3, .aload_n 0, .getfield 59] (pc1 := 16) (ls1 := [some (.ref o0), some (.int x1), some (.int x2), some (.int x3)]) (st1 := [.int (hI h o0 2), .int x3]) (h1 := h) (P := (ak o0 = 0 ∧ cx o0 = 0) ∧ True) (by decide +kernel) rfl ⟨ho0, trivial⟩ ?_
  refine q_icmp_ge (off := 37) (tgt := 53) (by decide +kernel) (by decide) (fun c_1 => ?_) (fun c_1 => ?_)
  · have e := it_t c_1 e
    refine sl_ok ok_Hulls_isOnRim [.iconst 0] (pc1 := 54) (ls1 := [some (.ref o0), some (.int x1), some (.int x2), some (.int x3)]) (st1 := [.int 0]) (h1 := h) (P := True) (by decide +kernel) rfl trivial ?_
    cases e
    exact q_zret rfl (Or.inl rfl) k.1 k.2 (by decide +kernel)
  · have e := it_f c_1 e
    refine sl_ok ok_Hulls_isOnRim [.iload_n 3, .iload_n 2] (pc1 := 21) (ls1 := [some (.ref o0), some (.int x1), some (.int x2), some (.int x3)]) (st1 := [.int x2, .int x3]) (h1 := h) (P := True) (by decide +kernel) rfl trivial ?_
    refine q_icmp_eq (off := 26) (tgt := 47) (by decide +kernel) (by decide) (fun c_2 => ?_) (fun c_2 => ?_)
    · have e := it_t c_2 e
      refine sl_ok ok_Hulls_isOnRim [.iinc 3 1] (pc1 := 50) (ls1 := [some (.ref o0), some (.int x1), some (.int x2), some (.int (x3 + 1))]) (st1 := []) (h1 := h) (P := True) (by decide +kernel) rfl trivial ?_
      refine q_goto (off := -39) (tgt := 11) (by decide) (by decide +kernel) ?_
      cases e
      exact k
    · have e := it_f c_2 e
      refine sl_ok ok_Hulls_isOnRim [.iload_n 1, .iload_n 3] (pc1 := 26) (ls1 := [some (.ref o0), some (.int x1), some (.int x2), some (.int x3)]) (st1 := [.int x3, .int x1]) (h1 := h) (P := True) (by decide +kernel) rfl trivial ?_
      refine q_callSN ok_C_bit (as := [.int x1, .int x3]) (st := []) ⟨(List.mem_of_getElem? (i := 13) rfl), wd_201, wd_48, ds_C_bit, Nat.le_of_ble_eq_true rfl, Nat.le_of_ble_eq_true rfl⟩ (s_C_bit ) rfl (fun v hv => by cases hv; rfl) (Nat.le_of_ble_eq_true rfl) (by decide +kernel) rfl ?_
      refine sl_ok ok_Hulls_isOnRim [.iconst 1] (pc1 := 30) (ls1 := [some (.ref o0), some (.int x1), some (.int x2), some (.int x3)]) (st1 := [.int 1, .int (f_C_bit x1 x3)]) (h1 := h) (P := True) (by decide +kernel) rfl trivial ?_
      refine q_icmp_ne (off := 17) (tgt := 47) (by decide +kernel) (by decide) (fun c_3 => ?_) (fun c_3 => ?_)
      · have e := it_f c_3 e
        refine sl_ok ok_Hulls_isOnRim [.iinc 3 1] (pc1 := 50) (ls1 := [some (.ref o0), some (.int x1), some (.int x2), some (.int (x3 + 1))]) (st1 := []) (h1 := h) (P := True) (by decide +kernel) rfl trivial ?_
        refine q_goto (off := -39) (tgt := 11) (by decide) (by decide +kernel) ?_
        cases e
        exact k
      · have e := it_t c_3 e
        refine sl_ok ok_Hulls_isOnRim [.aload_n 0, .iload_n 2, .iload_n 3, .iconst (-1)] (pc1 := 37) (ls1 := [some (.ref o0), some (.int x1), some (.int x2), some (.int x3)]) (st1 := [.int (-1), .int x3, .int x2, .ref o0]) (h1 := h) (P := True) (by decide +kernel) rfl trivial ?_
        obtain ⟨v_4, e_5, e⟩ := bi_s e
        refine q_callV ok_Cloud_sideBits (as := [.int x2, .int x3, .int (-1)]) (st := []) ⟨wd_202, wd_203, wd_204, wd_14, ds_Cloud_sideBits, Nat.le_of_ble_eq_true rfl, Nat.le_of_ble_eq_true rfl⟩ (s_Cloud_sideBits ho0 e_5) rfl ho0 (ci := 0) rfl (fun v hv => by cases hv; rfl) (Nat.le_of_ble_eq_true rfl) (by decide +kernel) rfl ?_
        refine sl_ok ok_Hulls_isOnRim [.iload_n 1, .iand] (pc1 := 42) (ls1 := [some (.ref o0), some (.int x1), some (.int x2), some (.int x3)]) (st1 := [.int (v_4 &&& x1)]) (h1 := h) (P := True) (by decide +kernel) rfl trivial ?_
        refine q_if_ne (off := 5) (tgt := 47) (by decide +kernel) (by decide) (fun c_6 => ?_) (fun c_6 => ?_)
        · have e := it_f c_6 e
          refine sl_ok ok_Hulls_isOnRim [.iinc 3 1] (pc1 := 50) (ls1 := [some (.ref o0), some (.int x1), some (.int x2), some (.int (x3 + 1))]) (st1 := []) (h1 := h) (P := True) (by decide +kernel) rfl trivial ?_
          refine q_goto (off := -39) (tgt := 11) (by decide) (by decide +kernel) ?_
          cases e
          exact k
        · have e := it_t c_6 e
          refine sl_ok ok_Hulls_isOnRim [.iconst 1] (pc1 := 46) (ls1 := [some (.ref o0), some (.int x1), some (.int x2), some (.int x3)]) (st1 := [.int 1]) (h1 := h) (P := True) (by decide +kernel) rfl trivial ?_
          cases e
          exact q_zret rfl (Or.inr rfl) k.1 k.2 (by decide +kernel)
def f_Hulls_isOnRim (o0 : Nat) (x1 : Int32) (x2 : Int32) (h : pH) : Option Int32 :=
  if x1 = (jshl 1 x2) then
    some 1
  else
    lp (fun s => f_Hulls_isOnRim_L1 o0 x1 x2 h s) lpN 0
set_option maxHeartbeats 4000000 in
theorem b_Hulls_isOnRim {E : pE} {r : Option Value} {hr : pH} {o0 : Nat} {x1 : Int32} {x2 : Int32} {h : pH} (ho0 : ak o0 = 0 ∧ cx o0 = 0) {b : Int32} (e : f_Hulls_isOnRim o0 x1 x2 h = some b) (k : (fun v : Int32 => r = some (.int v) ∧ hr = h) b) : Go E M_Hulls_isOnRim 0 [some (.ref o0), some (.int x1), some (.int x2), none] [] h r hr := by
  unfold f_Hulls_isOnRim at e
  refine sl_ok ok_Hulls_isOnRim [.iload_n 1, .iconst 1, .iload_n 2, .ishl] (pc1 := 4) (ls1 := [some (.ref o0), some (.int x1), some (.int x2), none]) (st1 := [.int (jshl 1 x2), .int x1]) (h1 := h) (P := True) (by decide +kernel) rfl trivial ?_
  refine q_icmp_ne (off := 5) (tgt := 9) (by decide +kernel) (by decide) (fun c_1 => ?_) (fun c_1 => ?_)
  · have e := it_f c_1 e
    refine sl_ok ok_Hulls_isOnRim [.iconst 0, .istore_n 3] (pc1 := 11) (ls1 := [some (.ref o0), some (.int x1), some (.int x2), some (.int 0)]) (st1 := []) (h1 := h) (P := True) (by decide +kernel) rfl trivial ?_
    exact lp_in e (fun s => Go E M_Hulls_isOnRim 11 [some (.ref o0), some (.int x1), some (.int x2), some (.int s)] [] h r hr) (fun v : Int32 => r = some (.int v) ∧ hr = h) (fun _ _ e k => b_Hulls_isOnRim_L1 ho0 e k) k
  · have e := it_t c_1 e
    refine sl_ok ok_Hulls_isOnRim [.iconst 1] (pc1 := 8) (ls1 := [some (.ref o0), some (.int x1), some (.int x2), none]) (st1 := [.int 1]) (h1 := h) (P := True) (by decide +kernel) rfl trivial ?_
    cases e
    exact q_zret rfl (Or.inr rfl) k.1 k.2 (by decide +kernel)
theorem s_Hulls_isOnRim {E : pE} {o0 : Nat} {x1 : Int32} {x2 : Int32} {h : pH} (ho0 : ak o0 = 0 ∧ cx o0 = 0) {v : Int32} (e : f_Hulls_isOnRim o0 x1 x2 h = some v) : Ct E M_Hulls_isOnRim [.ref o0, .int x1, .int x2] h (some (.int v)) h :=
  Ct_of ok_Hulls_isOnRim [some (.ref o0), some (.int x1), some (.int x2), none] (Nat.le_of_ble_eq_true rfl) rfl (b_Hulls_isOnRim ho0 e ⟨rfl, rfl⟩)
