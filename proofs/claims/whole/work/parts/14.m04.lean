def f_Hulls_rimOf_L1 (o0 : Nat) (x1 : Int32) (h : pH) (x2 : Int32) (x3 : Int32) : Option ((Int32 × Int32) ⊕ Int32) :=
  if (hI h o0 2) ≤ x3 then
    some (.inr x2)
  else
    if (f_C_bit x1 x3) = 1 then
      (f_Hulls_isOnRim o0 x1 x3 h).bind fun v_3 =>
      if v_3 = 0 then
        some (.inl (x2, (x3 + 1)))
      else
        some (.inl ((x2 ||| (jshl 1 x3)), (x3 + 1)))
    else
      some (.inl (x2, (x3 + 1)))
set_option maxHeartbeats 4000000 in
theorem b_Hulls_rimOf_L1 {E : pE} {r : Option Value} {hr : pH} {o0 : Nat} {x1 : Int32} {h : pH} {x2 : Int32} {x3 : Int32} (ho0 : ak o0 = 0 ∧ cx o0 = 0) {b : ((Int32 × Int32) ⊕ Int32)} (e : f_Hulls_rimOf_L1 o0 x1 h x2 x3 = some b) (k : (Sum.elim (fun s : (Int32 × Int32) => Go E M_Hulls_rimOf 4 [some (.ref o0), some (.int x1), some (.int s.1), some (.int s.2)] [] h r hr) (fun v : Int32 => r = some (.int v) ∧ hr = h)) b) : Go E M_Hulls_rimOf 4 [some (.ref o0), some (.int x1), some (.int x2), some (.int x3)] [] h r hr := by
  unfold f_Hulls_rimOf_L1 at e
  refine sl_ok ok_Hulls_rimOf [.iload_n 3, .aload_n 0, .getfield 59] (pc1 := 9) (ls1 := [some (.ref o0), some (.int x1), some (.int x2), some (.int x3)]) (st1 := [.int (hI h o0 2), .int x3]) (h1 := h) (P := (ak o0 = 0 ∧ cx o0 = 0) ∧ True) (by decide +kernel) rfl ⟨ho0, trivial⟩ ?_
  refine q_icmp_ge (off := 33) (tgt := 42) (by decide +kernel) (by decide) (fun c_1 => ?_) (fun c_1 => ?_)
  · have e := it_t c_1 e
    refine sl_ok ok_Hulls_rimOf [.iload_n 2] (pc1 := 43) (ls1 := [some (.ref o0), some (.int x1), some (.int x2), some (.int x3)]) (st1 := [.int x2]) (h1 := h) (P := True) (by decide +kernel) rfl trivial ?_
    cases e
    exact q_iret rfl k.1 k.2 (by decide +kernel)
  · have e := it_f c_1 e
    refine sl_ok ok_Hulls_rimOf [.iload_n 1, .iload_n 3] (pc1 := 14) (ls1 := [some (.ref o0), some (.int x1), some (.int x2), some (.int x3)]) (st1 := [.int x3, .int x1]) (h1 := h) (P := True) (by decide +kernel) rfl trivial ?_
    refine q_callSN ok_C_bit (as := [.int x1, .int x3]) (st := []) ⟨(List.mem_of_getElem? (i := 13) rfl), wd_201, wd_48, ds_C_bit, Nat.le_of_ble_eq_true rfl, Nat.le_of_ble_eq_true rfl⟩ (s_C_bit ) rfl (fun v hv => by cases hv; rfl) (Nat.le_of_ble_eq_true rfl) (by decide +kernel) rfl ?_
    refine sl_ok ok_Hulls_rimOf [.iconst 1] (pc1 := 18) (ls1 := [some (.ref o0), some (.int x1), some (.int x2), some (.int x3)]) (st1 := [.int 1, .int (f_C_bit x1 x3)]) (h1 := h) (P := True) (by decide +kernel) rfl trivial ?_
    refine q_icmp_ne (off := 18) (tgt := 36) (by decide +kernel) (by decide) (fun c_2 => ?_) (fun c_2 => ?_)
    · have e := it_f c_2 e
      refine sl_ok ok_Hulls_rimOf [.iinc 3 1] (pc1 := 39) (ls1 := [some (.ref o0), some (.int x1), some (.int x2), some (.int (x3 + 1))]) (st1 := []) (h1 := h) (P := True) (by decide +kernel) rfl trivial ?_
      refine q_goto (off := -35) (tgt := 4) (by decide) (by decide +kernel) ?_
      cases e
      exact k
    · have e := it_t c_2 e
      refine sl_ok ok_Hulls_rimOf [.aload_n 0, .iload_n 1, .iload_n 3] (pc1 := 24) (ls1 := [some (.ref o0), some (.int x1), some (.int x2), some (.int x3)]) (st1 := [.int x3, .int x1, .ref o0]) (h1 := h) (P := True) (by decide +kernel) rfl trivial ?_
      obtain ⟨v_3, e_4, e⟩ := bi_s e
      refine q_callS ok_Hulls_isOnRim (as := [.ref o0, .int x1, .int x3]) (st := []) ⟨wd_205, wd_206, wd_207, ds_Hulls_isOnRim, Nat.le_of_ble_eq_true rfl, Nat.le_of_ble_eq_true rfl⟩ (s_Hulls_isOnRim ho0 e_4) rfl (fun v hv => by cases hv; rfl) (Nat.le_of_ble_eq_true rfl) (by decide +kernel) rfl ?_
      refine q_if_eq (off := 9) (tgt := 36) (by decide +kernel) (by decide) (fun c_5 => ?_) (fun c_5 => ?_)
      · have e := it_t c_5 e
        refine sl_ok ok_Hulls_rimOf [.iinc 3 1] (pc1 := 39) (ls1 := [some (.ref o0), some (.int x1), some (.int x2), some (.int (x3 + 1))]) (st1 := []) (h1 := h) (P := True) (by decide +kernel) rfl trivial ?_
        refine q_goto (off := -35) (tgt := 4) (by decide) (by decide +kernel) ?_
        cases e
        exact k
      · have e := it_f c_5 e
        refine sl_ok ok_Hulls_rimOf [.iload_n 2, .iconst 1, .iload_n 3, .ishl, .ior, .istore_n 2, .iinc 3 1] (pc1 := 39) (ls1 := [some (.ref o0), some (.int x1), some (.int (x2 ||| (jshl 1 x3))), some (.int (x3 + 1))]) (st1 := []) (h1 := h) (P := True) (by decide +kernel) rfl trivial ?_
        refine q_goto (off := -35) (tgt := 4) (by decide) (by decide +kernel) ?_
        cases e
        exact k
def f_Hulls_rimOf (o0 : Nat) (x1 : Int32) (h : pH) : Option Int32 :=
  lp (fun s => f_Hulls_rimOf_L1 o0 x1 h s.1 s.2) lpN (0, 0)
set_option maxHeartbeats 4000000 in
theorem b_Hulls_rimOf {E : pE} {r : Option Value} {hr : pH} {o0 : Nat} {x1 : Int32} {h : pH} (ho0 : ak o0 = 0 ∧ cx o0 = 0) {b : Int32} (e : f_Hulls_rimOf o0 x1 h = some b) (k : (fun v : Int32 => r = some (.int v) ∧ hr = h) b) : Go E M_Hulls_rimOf 0 [some (.ref o0), some (.int x1), none, none] [] h r hr := by
  unfold f_Hulls_rimOf at e
  refine sl_ok ok_Hulls_rimOf [.iconst 0, .istore_n 2, .iconst 0, .istore_n 3] (pc1 := 4) (ls1 := [some (.ref o0), some (.int x1), some (.int 0), some (.int 0)]) (st1 := []) (h1 := h) (P := True) (by decide +kernel) rfl trivial ?_
  exact lp_in e (fun s => Go E M_Hulls_rimOf 4 [some (.ref o0), some (.int x1), some (.int s.1), some (.int s.2)] [] h r hr) (fun v : Int32 => r = some (.int v) ∧ hr = h) (fun _ _ e k => b_Hulls_rimOf_L1 ho0 e k) k
theorem s_Hulls_rimOf {E : pE} {o0 : Nat} {x1 : Int32} {h : pH} (ho0 : ak o0 = 0 ∧ cx o0 = 0) {v : Int32} (e : f_Hulls_rimOf o0 x1 h = some v) : Ct E M_Hulls_rimOf [.ref o0, .int x1] h (some (.int v)) h :=
  Ct_of ok_Hulls_rimOf [some (.ref o0), some (.int x1), none, none] (Nat.le_of_ble_eq_true rfl) rfl (b_Hulls_rimOf ho0 e ⟨rfl, rfl⟩)
def f_Hulls_peel_L1 (o1 : Nat) (x2 : Int32) (x3 : Int32) (h : pH) : Option ((Int32 × Int32 × pH) ⊕ pH) :=
  if 12 ≤ x3 then
    some (.inr h)
  else
    if x2 = 0 then
      some (.inr h)
    else
      (f_Hulls_rimOf o1 x2 h).bind fun v_3 =>
      if x3 < 0 ∨ 12 ≤ x3.toNatClampNeg then none else
      some (.inl ((x2 &&& ((hI (sI h 15 x3.toNatClampNeg v_3) 15 x3.toNatClampNeg) ^^^ (-1))), (x3 + 1), (sI (sI h 15 x3.toNatClampNeg v_3) 14 2 ((hI (sI h 15 x3.toNatClampNeg v_3) 14 2) + 1))))
set_option maxHeartbeats 4000000 in
theorem b_Hulls_peel_L1 {E : pE} {r : Option Value} {hr : pH} {o1 : Nat} {x2 : Int32} {x3 : Int32} {h : pH} (ho1 : ak o1 = 0 ∧ cx o1 = 0) {b : ((Int32 × Int32 × pH) ⊕ pH)} (e : f_Hulls_peel_L1 o1 x2 x3 h = some b) (k : (Sum.elim (fun s : (Int32 × Int32 × pH) => Go E M_Hulls_peel 12 [some (.ref 14), some (.ref o1), some (.int s.1), some (.int s.2.1)] [] s.2.2 r hr) (fun v : pH => r = none ∧ hr = v)) b) : Go E M_Hulls_peel 12 [some (.ref 14), some (.ref o1), some (.int x2), some (.int x3)] [] h r hr := by
  unfold f_Hulls_peel_L1 at e
  refine sl_ok ok_Hulls_peel [.iload_n 3, .bipush 12] (pc1 := 15) (ls1 := [some (.ref 14), some (.ref o1), some (.int x2), some (.int x3)]) (st1 := [.int 12, .int x3]) (h1 := h) (P := True) (by decide +kernel) rfl trivial ?_
  refine q_icmp_ge (off := 45) (tgt := 60) (by decide +kernel) (by decide) (fun c_1 => ?_) (fun c_1 => ?_)
  · have e := it_t c_1 e
    cases e
    exact q_vret rfl k.1 k.2 (by decide +kernel)
  · have e := it_f c_1 e
    refine sl_ok ok_Hulls_peel [.iload_n 2] (pc1 := 19) (ls1 := [some (.ref 14), some (.ref o1), some (.int x2), some (.int x3)]) (st1 := [.int x2]) (h1 := h) (P := True) (by decide +kernel) rfl trivial ?_
    refine q_if_eq (off := 41) (tgt := 60) (by decide +kernel) (by decide) (fun c_2 => ?_) (fun c_2 => ?_)
    · have e := it_t c_2 e
      cases e
      exact q_vret rfl k.1 k.2 (by decide +kernel)
    · have e := it_f c_2 e
      refine sl_ok ok_Hulls_peel [.aload_n 0, .getfield 9, .iload_n 3, .aload_n 1, .iload_n 2] (pc1 := 29) (ls1 := [some (.ref 14), some (.ref o1), some (.int x2), some (.int x3)]) (st1 := [.int x2, .ref o1, .int x3, .ref 15]) (h1 := h) (P := (ak 14 = 0 ∧ cx 14 = 4) ∧ True) (by decide +kernel) rfl ⟨⟨rfl, rfl⟩, trivial⟩ ?_
      obtain ⟨v_3, e_4, e⟩ := bi_s e
      refine q_callS ok_Hulls_rimOf (as := [.ref o1, .int x2]) (st := [.int x3, .ref 15]) ⟨wd_211, wd_212, wd_207, ds_Hulls_rimOf, Nat.le_of_ble_eq_true rfl, Nat.le_of_ble_eq_true rfl⟩ (s_Hulls_rimOf ho1 e_4) rfl (fun v hv => by cases hv; rfl) (Nat.le_of_ble_eq_true rfl) (by decide +kernel) rfl ?_
      obtain ⟨g_5, e⟩ := it_g e
      refine sl_ok ok_Hulls_peel [.iastore, .iload_n 2, .aload_n 0, .getfield 9, .iload_n 3, .iaload, .iconst (-1), .ixor, .iand, .istore_n 2, .aload_n 0, .dup, .getfield 24, .iconst 1, .iadd, .putfield 24, .iinc 3 1] (pc1 := 57) (ls1 := [some (.ref 14), some (.ref o1), some (.int (x2 &&& ((hI (sI h 15 x3.toNatClampNeg v_3) 15 x3.toNatClampNeg) ^^^ (-1)))), some (.int (x3 + 1))]) (st1 := []) (h1 := (sI (sI h 15 x3.toNatClampNeg v_3) 14 2 ((hI (sI h 15 x3.toNatClampNeg v_3) 14 2) + 1))) (P := (ak 15 = 1 ∧ ¬ (x3 < 0 ∨ cx 15 ≤ x3.toNatClampNeg)) ∧ (ak 14 = 0 ∧ cx 14 = 4) ∧ (ak 15 = 1 ∧ ¬ (x3 < 0 ∨ cx 15 ≤ x3.toNatClampNeg)) ∧ (ak 14 = 0 ∧ cx 14 = 4) ∧ (ak 14 = 0 ∧ cx 14 = 4) ∧ True) (by decide +kernel) rfl ⟨⟨rfl, g_5⟩, ⟨rfl, rfl⟩, ⟨rfl, g_5⟩, ⟨rfl, rfl⟩, ⟨rfl, rfl⟩, trivial⟩ ?_
      refine q_goto (off := -45) (tgt := 12) (by decide) (by decide +kernel) ?_
      cases e
      exact k
def f_Hulls_peel (o1 : Nat) (h : pH) : Option pH :=
  lp (fun s => f_Hulls_peel_L1 o1 s.1 s.2.1 s.2.2) lpN ((f_Cloud_everyone o1 h), 0, (sI h 14 2 0))
set_option maxHeartbeats 4000000 in
theorem b_Hulls_peel {E : pE} {r : Option Value} {hr : pH} {o1 : Nat} {h : pH} (ho1 : ak o1 = 0 ∧ cx o1 = 0) {b : pH} (e : f_Hulls_peel o1 h = some b) (k : (fun v : pH => r = none ∧ hr = v) b) : Go E M_Hulls_peel 0 [some (.ref 14), some (.ref o1), none, none] [] h r hr := by
  unfold f_Hulls_peel at e
  refine sl_ok ok_Hulls_peel [.aload_n 1] (pc1 := 1) (ls1 := [some (.ref 14), some (.ref o1), none, none]) (st1 := [.ref o1]) (h1 := h) (P := True) (by decide +kernel) rfl trivial ?_
  refine q_callV ok_Cloud_everyone (as := []) (st := []) ⟨wd_208, wd_209, wd_210, wd_14, ds_Cloud_everyone, Nat.le_of_ble_eq_true rfl, Nat.le_of_ble_eq_true rfl⟩ (s_Cloud_everyone ho1) rfl ho1 (ci := 0) rfl (fun v hv => by cases hv; rfl) (Nat.le_of_ble_eq_true rfl) (by decide +kernel) rfl ?_
  refine sl_ok ok_Hulls_peel [.istore_n 2, .aload_n 0, .iconst 0, .putfield 24, .iconst 0, .istore_n 3] (pc1 := 12) (ls1 := [some (.ref 14), some (.ref o1), some (.int (f_Cloud_everyone o1 h)), some (.int 0)]) (st1 := []) (h1 := (sI h 14 2 0)) (P := (ak 14 = 0 ∧ cx 14 = 4) ∧ True) (by decide +kernel) rfl ⟨⟨rfl, rfl⟩, trivial⟩ ?_
  exact lp_in e (fun s => Go E M_Hulls_peel 12 [some (.ref 14), some (.ref o1), some (.int s.1), some (.int s.2.1)] [] s.2.2 r hr) (fun v : pH => r = none ∧ hr = v) (fun _ _ e k => b_Hulls_peel_L1 ho1 e k) k
theorem s_Hulls_peel {E : pE} {o1 : Nat} {h : pH} (ho1 : ak o1 = 0 ∧ cx o1 = 0) {v : pH} (e : f_Hulls_peel o1 h = some v) : Ct E M_Hulls_peel [.ref 14, .ref o1] h none v :=
  Ct_of ok_Hulls_peel [some (.ref 14), some (.ref o1), none, none] (Nat.le_of_ble_eq_true rfl) rfl (b_Hulls_peel ho1 e ⟨rfl, rfl⟩)
def f_Hulls_layerWith_L1 (x1 : Int32) (h : pH) (x2 : Int32) : Option (Int32 ⊕ Int32) :=
  if (hI h 14 2) ≤ x2 then
    some (.inr (-1))
  else
    if x2 < 0 ∨ 12 ≤ x2.toNatClampNeg then none else
    if (f_C_bit (hI h 15 x2.toNatClampNeg) x1) = 1 then
      some (.inr x2)
    else
      some (.inl (x2 + 1))
set_option maxHeartbeats 4000000 in
theorem b_Hulls_layerWith_L1 {E : pE} {r : Option Value} {hr : pH} {x1 : Int32} {h : pH} {x2 : Int32}  {b : (Int32 ⊕ Int32)} (e : f_Hulls_layerWith_L1 x1 h x2 = some b) (k : (Sum.elim (fun s : Int32 => Go E M_Hulls_layerWith 2 [some (.ref 14), some (.int x1), some (.int s)] [] h r hr) (fun v : Int32 => r = some (.int v) ∧ hr = h)) b) : Go E M_Hulls_layerWith 2 [some (.ref 14), some (.int x1), some (.int x2)] [] h r hr := by
  unfold f_Hulls_layerWith_L1 at e
  refine sl_ok ok_Hulls_layerWith [.iload_n 2, .aload_n 0, .getfield 24] (pc1 := 7) (ls1 := [some (.ref 14), some (.int x1), some (.int x2)]) (st1 := [.int (hI h 14 2), .int x2]) (h1 := h) (P := (ak 14 = 0 ∧ cx 14 = 4) ∧ True) (by decide +kernel) rfl ⟨⟨rfl, rfl⟩, trivial⟩ ?_
  refine q_icmp_ge (off := 25) (tgt := 32) (by decide +kernel) (by decide) (fun c_1 => ?_) (fun c_1 => ?_)
  · have e := it_t c_1 e
    refine sl_ok ok_Hulls_layerWith [.iconst (-1)] (pc1 := 33) (ls1 := [some (.ref 14), some (.int x1), some (.int x2)]) (st1 := [.int (-1)]) (h1 := h) (P := True) (by decide +kernel) rfl trivial ?_
    cases e
    exact q_iret rfl k.1 k.2 (by decide +kernel)
  · have e := it_f c_1 e
    obtain ⟨g_2, e⟩ := it_g e
    refine sl_ok ok_Hulls_layerWith [.aload_n 0, .getfield 9, .iload_n 2, .iaload, .iload_n 1] (pc1 := 17) (ls1 := [some (.ref 14), some (.int x1), some (.int x2)]) (st1 := [.int x1, .int (hI h 15 x2.toNatClampNeg)]) (h1 := h) (P := (ak 14 = 0 ∧ cx 14 = 4) ∧ (ak 15 = 1 ∧ ¬ (x2 < 0 ∨ cx 15 ≤ x2.toNatClampNeg)) ∧ True) (by decide +kernel) rfl ⟨⟨rfl, rfl⟩, ⟨rfl, g_2⟩, trivial⟩ ?_
    refine q_callSN ok_C_bit (as := [.int (hI h 15 x2.toNatClampNeg), .int x1]) (st := []) ⟨(List.mem_of_getElem? (i := 13) rfl), wd_201, wd_48, ds_C_bit, Nat.le_of_ble_eq_true rfl, Nat.le_of_ble_eq_true rfl⟩ (s_C_bit ) rfl (fun v hv => by cases hv; rfl) (Nat.le_of_ble_eq_true rfl) (by decide +kernel) rfl ?_
    refine sl_ok ok_Hulls_layerWith [.iconst 1] (pc1 := 21) (ls1 := [some (.ref 14), some (.int x1), some (.int x2)]) (st1 := [.int 1, .int (f_C_bit (hI h 15 x2.toNatClampNeg) x1)]) (h1 := h) (P := True) (by decide +kernel) rfl trivial ?_
    refine q_icmp_ne (off := 5) (tgt := 26) (by decide +kernel) (by decide) (fun c_3 => ?_) (fun c_3 => ?_)
    · have e := it_f c_3 e
      refine sl_ok ok_Hulls_layerWith [.iinc 2 1] (pc1 := 29) (ls1 := [some (.ref 14), some (.int x1), some (.int (x2 + 1))]) (st1 := []) (h1 := h) (P := True) (by decide +kernel) rfl trivial ?_
      refine q_goto (off := -27) (tgt := 2) (by decide) (by decide +kernel) ?_
      cases e
      exact k
    · have e := it_t c_3 e
      refine sl_ok ok_Hulls_layerWith [.iload_n 2] (pc1 := 25) (ls1 := [some (.ref 14), some (.int x1), some (.int x2)]) (st1 := [.int x2]) (h1 := h) (P := True) (by decide +kernel) rfl trivial ?_
      cases e
      exact q_iret rfl k.1 k.2 (by decide +kernel)
def f_Hulls_layerWith (x1 : Int32) (h : pH) : Option Int32 :=
  lp (fun s => f_Hulls_layerWith_L1 x1 h s) lpN 0
set_option maxHeartbeats 4000000 in
theorem b_Hulls_layerWith {E : pE} {r : Option Value} {hr : pH} {x1 : Int32} {h : pH}  {b : Int32} (e : f_Hulls_layerWith x1 h = some b) (k : (fun v : Int32 => r = some (.int v) ∧ hr = h) b) : Go E M_Hulls_layerWith 0 [some (.ref 14), some (.int x1), none] [] h r hr := by
  unfold f_Hulls_layerWith at e
  refine sl_ok ok_Hulls_layerWith [.iconst 0, .istore_n 2] (pc1 := 2) (ls1 := [some (.ref 14), some (.int x1), some (.int 0)]) (st1 := []) (h1 := h) (P := True) (by decide +kernel) rfl trivial ?_
  exact lp_in e (fun s => Go E M_Hulls_layerWith 2 [some (.ref 14), some (.int x1), some (.int s)] [] h r hr) (fun v : Int32 => r = some (.int v) ∧ hr = h) (fun _ _ e k => b_Hulls_layerWith_L1  e k) k
theorem s_Hulls_layerWith {E : pE} {x1 : Int32} {h : pH}  {v : Int32} (e : f_Hulls_layerWith x1 h = some v) : Ct E M_Hulls_layerWith [.ref 14, .int x1] h (some (.int v)) h :=
  Ct_of ok_Hulls_layerWith [some (.ref 14), some (.int x1), none] (Nat.le_of_ble_eq_true rfl) rfl (b_Hulls_layerWith  e ⟨rfl, rfl⟩)
def f_Depths_fewestAbout_L1 (x1 : Int32) (x2 : Int32) (h : pH) (x3 : Int32) (x4 : Int32) (x5 : Int32) (x6 : Int32) (x7 : Int32) : Option ((Int32 × Int32 × Int32 × Int32 × Int32) ⊕ Int32) :=
  if x2 ≤ x7 then
    some (.inr ((jmin x3 x4) + (jmin x5 x6)))
  else
    if x1 < 0 ∨ 12 ≤ x1.toNatClampNeg then none else
    if x7 < 0 ∨ 12 ≤ x7.toNatClampNeg then none else
    if (((hI h 19 x1.toNatClampNeg) * (hI h 20 x7.toNatClampNeg)) - ((hI h 20 x1.toNatClampNeg) * (hI h 19 x7.toNatClampNeg))) ≤ 0 then
      if 0 ≤ (((hI h 19 x1.toNatClampNeg) * (hI h 20 x7.toNatClampNeg)) - ((hI h 20 x1.toNatClampNeg) * (hI h 19 x7.toNatClampNeg))) then
        if (((hI h 19 x1.toNatClampNeg) * (hI h 19 x7.toNatClampNeg)) + ((hI h 20 x1.toNatClampNeg) * (hI h 20 x7.toNatClampNeg))) ≤ 0 then
          if 0 ≤ (((hI h 19 x1.toNatClampNeg) * (hI h 19 x7.toNatClampNeg)) + ((hI h 20 x1.toNatClampNeg) * (hI h 20 x7.toNatClampNeg))) then
            some (.inl (x3, x4, x5, x6, (x7 + 1)))
          else
            some (.inl (x3, x4, x5, (x6 + 1), (x7 + 1)))
        else
          some (.inl (x3, x4, (x5 + 1), x6, (x7 + 1)))
      else
        some (.inl (x3, (x4 + 1), x5, x6, (x7 + 1)))
    else
      some (.inl ((x3 + 1), x4, x5, x6, (x7 + 1)))
set_option maxHeartbeats 4000000 in
theorem b_Depths_fewestAbout_L1 {E : pE} {r : Option Value} {hr : pH} {x1 : Int32} {x2 : Int32} {h : pH} {x3 : Int32} {x4 : Int32} {x5 : Int32} {x6 : Int32} {x7 : Int32}  {b : ((Int32 × Int32 × Int32 × Int32 × Int32) ⊕ Int32)} (e : f_Depths_fewestAbout_L1 x1 x2 h x3 x4 x5 x6 x7 = some b) (k : (Sum.elim (fun s : (Int32 × Int32 × Int32 × Int32 × Int32) => Go E M_Depths_fewestAbout 14 [some (.ref 17), some (.int x1), some (.int x2), some (.int s.1), some (.int s.2.1), some (.int s.2.2.1), some (.int s.2.2.2.1), some (.int s.2.2.2.2), none, none] [] h r hr) (fun v : Int32 => r = some (.int v) ∧ hr = h)) b) : Go E M_Depths_fewestAbout 14 [some (.ref 17), some (.int x1), some (.int x2), some (.int x3), some (.int x4), some (.int x5), some (.int x6), some (.int x7), none, none] [] h r hr := by
  unfold f_Depths_fewestAbout_L1 at e
  refine sl_ok ok_Depths_fewestAbout [.iload 7, .iload_n 2] (pc1 := 17) (ls1 := [some (.ref 17), some (.int x1), some (.int x2), some (.int x3), some (.int x4), some (.int x5), some (.int x6), some (.int x7), none, none]) (st1 := [.int x2, .int x7]) (h1 := h) (P := True) (by decide +kernel) rfl trivial ?_
  refine q_icmp_ge (off := 112) (tgt := 129) (by decide +kernel) (by decide) (fun c_1 => ?_) (fun c_1 => ?_)
  · have e := it_t c_1 e
    refine sl_ok ok_Depths_fewestAbout [.iload_n 3, .iload 4] (pc1 := 132) (ls1 := [some (.ref 17), some (.int x1), some (.int x2), some (.int x3), some (.int x4), some (.int x5), some (.int x6), some (.int x7), none, none]) (st1 := [.int x4, .int x3]) (h1 := h) (P := True) (by decide +kernel) rfl trivial ?_
    refine q_mmin wd_213 (Nat.le_of_ble_eq_true rfl) (Nat.le_of_ble_eq_true rfl) (by decide +kernel) ?_
    refine sl_ok ok_Depths_fewestAbout [.iload 5, .iload 6] (pc1 := 139) (ls1 := [some (.ref 17), some (.int x1), some (.int x2), some (.int x3), some (.int x4), some (.int x5), some (.int x6), some (.int x7), none, none]) (st1 := [.int x6, .int x5, .int (jmin x3 x4)]) (h1 := h) (P := True) (by decide +kernel) rfl trivial ?_
    refine q_mmin wd_213 (Nat.le_of_ble_eq_true rfl) (Nat.le_of_ble_eq_true rfl) (by decide +kernel) ?_
    refine sl_ok ok_Depths_fewestAbout [.iadd] (pc1 := 143) (ls1 := [some (.ref 17), some (.int x1), some (.int x2), some (.int x3), some (.int x4), some (.int x5), some (.int x6), some (.int x7), none, none]) (st1 := [.int ((jmin x3 x4) + (jmin x5 x6))]) (h1 := h) (P := True) (by decide +kernel) rfl trivial ?_
    cases e
    exact q_iret rfl k.1 k.2 (by decide +kernel)
  · have e := it_f c_1 e
    obtain ⟨g_2, e⟩ := it_g e
    obtain ⟨g_3, e⟩ := it_g e
    refine sl_ok ok_Depths_fewestAbout [.aload_n 0, .getfield 15, .iload_n 1, .iaload, .aload_n 0, .getfield 18, .iload 7, .iaload, .imul, .aload_n 0, .getfield 18, .iload_n 1, .iaload, .aload_n 0, .getfield 15, .iload 7, .iaload, .imul, .isub, .istore 8, .iload 8] (pc1 := 53) (ls1 := [some (.ref 17), some (.int x1), some (.int x2), some (.int x3), some (.int x4), some (.int x5), some (.int x6), some (.int x7), some (.int (((hI h 19 x1.toNatClampNeg) * (hI h 20 x7.toNatClampNeg)) - ((hI h 20 x1.toNatClampNeg) * (hI h 19 x7.toNatClampNeg)))), none]) (st1 := [.int (((hI h 19 x1.toNatClampNeg) * (hI h 20 x7.toNatClampNeg)) - ((hI h 20 x1.toNatClampNeg) * (hI h 19 x7.toNatClampNeg)))]) (h1 := h) (P := (ak 17 = 0 ∧ cx 17 = 2) ∧ (ak 19 = 1 ∧ ¬ (x1 < 0 ∨ cx 19 ≤ x1.toNatClampNeg)) ∧ (ak 17 = 0 ∧ cx 17 = 2) ∧ (ak 20 = 1 ∧ ¬ (x7 < 0 ∨ cx 20 ≤ x7.toNatClampNeg)) ∧ (ak 17 = 0 ∧ cx 17 = 2) ∧ (ak 20 = 1 ∧ ¬ (x1 < 0 ∨ cx 20 ≤ x1.toNatClampNeg)) ∧ (ak 17 = 0 ∧ cx 17 = 2) ∧ (ak 19 = 1 ∧ ¬ (x7 < 0 ∨ cx 19 ≤ x7.toNatClampNeg)) ∧ True) (by decide +kernel) rfl ⟨⟨rfl, rfl⟩, ⟨rfl, g_2⟩, ⟨rfl, rfl⟩, ⟨rfl, g_3⟩, ⟨rfl, rfl⟩, ⟨rfl, g_2⟩, ⟨rfl, rfl⟩, ⟨rfl, g_3⟩, trivial⟩ ?_
    refine q_if_le (off := 9) (tgt := 62) (by decide +kernel) (by decide) (fun c_4 => ?_) (fun c_4 => ?_)
    · have e := it_t c_4 e
      refine sl_ok ok_Depths_fewestAbout [.iload 8] (pc1 := 64) (ls1 := [some (.ref 17), some (.int x1), some (.int x2), some (.int x3), some (.int x4), some (.int x5), some (.int x6), some (.int x7), some (.int (((hI h 19 x1.toNatClampNeg) * (hI h 20 x7.toNatClampNeg)) - ((hI h 20 x1.toNatClampNeg) * (hI h 19 x7.toNatClampNeg)))), none]) (st1 := [.int (((hI h 19 x1.toNatClampNeg) * (hI h 20 x7.toNatClampNeg)) - ((hI h 20 x1.toNatClampNeg) * (hI h 19 x7.toNatClampNeg)))]) (h1 := h) (P := True) (by decide +kernel) rfl trivial ?_
      refine q_if_ge (off := 9) (tgt := 73) (by decide +kernel) (by decide) (fun c_5 => ?_) (fun c_5 => ?_)
      · have e := it_t c_5 e
        refine sl_ok ok_Depths_fewestAbout [.aload_n 0, .getfield 15, .iload_n 1, .iaload, .aload_n 0, .getfield 15, .iload 7, .iaload, .imul, .aload_n 0, .getfield 18, .iload_n 1, .iaload, .aload_n 0, .getfield 18, .iload 7, .iaload, .imul, .iadd, .istore 9, .iload 9] (pc1 := 106) (ls1 := [some (.ref 17), some (.int x1), some (.int x2), some (.int x3), some (.int x4), some (.int x5), some (.int x6), some (.int x7), some (.int (((hI h 19 x1.toNatClampNeg) * (hI h 20 x7.toNatClampNeg)) - ((hI h 20 x1.toNatClampNeg) * (hI h 19 x7.toNatClampNeg)))), some (.int (((hI h 19 x1.toNatClampNeg) * (hI h 19 x7.toNatClampNeg)) + ((hI h 20 x1.toNatClampNeg) * (hI h 20 x7.toNatClampNeg))))]) (st1 := [.int (((hI h 19 x1.toNatClampNeg) * (hI h 19 x7.toNatClampNeg)) + ((hI h 20 x1.toNatClampNeg) * (hI h 20 x7.toNatClampNeg)))]) (h1 := h) (P := (ak 17 = 0 ∧ cx 17 = 2) ∧ (ak 19 = 1 ∧ ¬ (x1 < 0 ∨ cx 19 ≤ x1.toNatClampNeg)) ∧ (ak 17 = 0 ∧ cx 17 = 2) ∧ (ak 19 = 1 ∧ ¬ (x7 < 0 ∨ cx 19 ≤ x7.toNatClampNeg)) ∧ (ak 17 = 0 ∧ cx 17 = 2) ∧ (ak 20 = 1 ∧ ¬ (x1 < 0 ∨ cx 20 ≤ x1.toNatClampNeg)) ∧ (ak 17 = 0 ∧ cx 17 = 2) ∧ (ak 20 = 1 ∧ ¬ (x7 < 0 ∨ cx 20 ≤ x7.toNatClampNeg)) ∧ True) (by decide +kernel) rfl ⟨⟨rfl, rfl⟩, ⟨rfl, g_2⟩, ⟨rfl, rfl⟩, ⟨rfl, g_3⟩, ⟨rfl, rfl⟩, ⟨rfl, g_2⟩, ⟨rfl, rfl⟩, ⟨rfl, g_3⟩, trivial⟩ ?_
        refine q_if_le (off := 9) (tgt := 115) (by decide +kernel) (by decide) (fun c_6 => ?_) (fun c_6 => ?_)
        · have e := it_t c_6 e
          refine sl_ok ok_Depths_fewestAbout [.iload 9] (pc1 := 117) (ls1 := [some (.ref 17), some (.int x1), some (.int x2), some (.int x3), some (.int x4), some (.int x5), some (.int x6), some (.int x7), some (.int (((hI h 19 x1.toNatClampNeg) * (hI h 20 x7.toNatClampNeg)) - ((hI h 20 x1.toNatClampNeg) * (hI h 19 x7.toNatClampNeg)))), some (.int (((hI h 19 x1.toNatClampNeg) * (hI h 19 x7.toNatClampNeg)) + ((hI h 20 x1.toNatClampNeg) * (hI h 20 x7.toNatClampNeg))))]) (st1 := [.int (((hI h 19 x1.toNatClampNeg) * (hI h 19 x7.toNatClampNeg)) + ((hI h 20 x1.toNatClampNeg) * (hI h 20 x7.toNatClampNeg)))]) (h1 := h) (P := True) (by decide +kernel) rfl trivial ?_
          refine q_if_ge (off := 6) (tgt := 123) (by decide +kernel) (by decide) (fun c_7 => ?_) (fun c_7 => ?_)
          · have e := it_t c_7 e
            refine sl_ok ok_Depths_fewestAbout [.iinc 7 1] (pc1 := 126) (ls1 := [some (.ref 17), some (.int x1), some (.int x2), some (.int x3), some (.int x4), some (.int x5), some (.int x6), some (.int (x7 + 1)), some (.int (((hI h 19 x1.toNatClampNeg) * (hI h 20 x7.toNatClampNeg)) - ((hI h 20 x1.toNatClampNeg) * (hI h 19 x7.toNatClampNeg)))), some (.int (((hI h 19 x1.toNatClampNeg) * (hI h 19 x7.toNatClampNeg)) + ((hI h 20 x1.toNatClampNeg) * (hI h 20 x7.toNatClampNeg))))]) (st1 := []) (h1 := h) (P := True) (by decide +kernel) rfl trivial ?_
            refine q_goto (off := -112) (tgt := 14) (by decide) (by decide +kernel) ?_
            cases e
            refine Go.sb [some (.ref 17), some (.int x1), some (.int x2), some (.int x3), some (.int x4), some (.int x5), some (.int x6), some (.int (x7 + 1)), none, none] (And.intro rfl (And.intro rfl (And.intro rfl (And.intro rfl (And.intro rfl (And.intro rfl (And.intro rfl (And.intro rfl trivial)))))))) ?_
            exact k
          · have e := it_f c_7 e
            refine sl_ok ok_Depths_fewestAbout [.iinc 6 1, .iinc 7 1] (pc1 := 126) (ls1 := [some (.ref 17), some (.int x1), some (.int x2), some (.int x3), some (.int x4), some (.int x5), some (.int (x6 + 1)), some (.int (x7 + 1)), some (.int (((hI h 19 x1.toNatClampNeg) * (hI h 20 x7.toNatClampNeg)) - ((hI h 20 x1.toNatClampNeg) * (hI h 19 x7.toNatClampNeg)))), some (.int (((hI h 19 x1.toNatClampNeg) * (hI h 19 x7.toNatClampNeg)) + ((hI h 20 x1.toNatClampNeg) * (hI h 20 x7.toNatClampNeg))))]) (st1 := []) (h1 := h) (P := True) (by decide +kernel) rfl trivial ?_
            refine q_goto (off := -112) (tgt := 14) (by decide) (by decide +kernel) ?_
            cases e
            refine Go.sb [some (.ref 17), some (.int x1), some (.int x2), some (.int x3), some (.int x4), some (.int x5), some (.int (x6 + 1)), some (.int (x7 + 1)), none, none] (And.intro rfl (And.intro rfl (And.intro rfl (And.intro rfl (And.intro rfl (And.intro rfl (And.intro rfl (And.intro rfl trivial)))))))) ?_
            exact k
        · have e := it_f c_6 e
          refine sl_ok ok_Depths_fewestAbout [.iinc 5 1] (pc1 := 112) (ls1 := [some (.ref 17), some (.int x1), some (.int x2), some (.int x3), some (.int x4), some (.int (x5 + 1)), some (.int x6), some (.int x7), some (.int (((hI h 19 x1.toNatClampNeg) * (hI h 20 x7.toNatClampNeg)) - ((hI h 20 x1.toNatClampNeg) * (hI h 19 x7.toNatClampNeg)))), some (.int (((hI h 19 x1.toNatClampNeg) * (hI h 19 x7.toNatClampNeg)) + ((hI h 20 x1.toNatClampNeg) * (hI h 20 x7.toNatClampNeg))))]) (st1 := []) (h1 := h) (P := True) (by decide +kernel) rfl trivial ?_
          refine q_goto (off := 11) (tgt := 123) (by decide) (by decide +kernel) ?_
          refine sl_ok ok_Depths_fewestAbout [.iinc 7 1] (pc1 := 126) (ls1 := [some (.ref 17), some (.int x1), some (.int x2), some (.int x3), some (.int x4), some (.int (x5 + 1)), some (.int x6), some (.int (x7 + 1)), some (.int (((hI h 19 x1.toNatClampNeg) * (hI h 20 x7.toNatClampNeg)) - ((hI h 20 x1.toNatClampNeg) * (hI h 19 x7.toNatClampNeg)))), some (.int (((hI h 19 x1.toNatClampNeg) * (hI h 19 x7.toNatClampNeg)) + ((hI h 20 x1.toNatClampNeg) * (hI h 20 x7.toNatClampNeg))))]) (st1 := []) (h1 := h) (P := True) (by decide +kernel) rfl trivial ?_
          refine q_goto (off := -112) (tgt := 14) (by decide) (by decide +kernel) ?_
          cases e
          refine Go.sb [some (.ref 17), some (.int x1), some (.int x2), some (.int x3), some (.int x4), some (.int (x5 + 1)), some (.int x6), some (.int (x7 + 1)), none, none] (And.intro rfl (And.intro rfl (And.intro rfl (And.intro rfl (And.intro rfl (And.intro rfl (And.intro rfl (And.intro rfl trivial)))))))) ?_
          exact k
      · have e := it_f c_5 e
        refine sl_ok ok_Depths_fewestAbout [.iinc 4 1] (pc1 := 70) (ls1 := [some (.ref 17), some (.int x1), some (.int x2), some (.int x3), some (.int (x4 + 1)), some (.int x5), some (.int x6), some (.int x7), some (.int (((hI h 19 x1.toNatClampNeg) * (hI h 20 x7.toNatClampNeg)) - ((hI h 20 x1.toNatClampNeg) * (hI h 19 x7.toNatClampNeg)))), none]) (st1 := []) (h1 := h) (P := True) (by decide +kernel) rfl trivial ?_
        refine q_goto (off := 53) (tgt := 123) (by decide) (by decide +kernel) ?_
        refine sl_ok ok_Depths_fewestAbout [.iinc 7 1] (pc1 := 126) (ls1 := [some (.ref 17), some (.int x1), some (.int x2), some (.int x3), some (.int (x4 + 1)), some (.int x5), some (.int x6), some (.int (x7 + 1)), some (.int (((hI h 19 x1.toNatClampNeg) * (hI h 20 x7.toNatClampNeg)) - ((hI h 20 x1.toNatClampNeg) * (hI h 19 x7.toNatClampNeg)))), none]) (st1 := []) (h1 := h) (P := True) (by decide +kernel) rfl trivial ?_
        refine q_goto (off := -112) (tgt := 14) (by decide) (by decide +kernel) ?_
        cases e
        refine Go.sb [some (.ref 17), some (.int x1), some (.int x2), some (.int x3), some (.int (x4 + 1)), some (.int x5), some (.int x6), some (.int (x7 + 1)), none, none] (And.intro rfl (And.intro rfl (And.intro rfl (And.intro rfl (And.intro rfl (And.intro rfl (And.intro rfl (And.intro rfl trivial)))))))) ?_
        exact k
    · have e := it_f c_4 e
      refine sl_ok ok_Depths_fewestAbout [.iinc 3 1] (pc1 := 59) (ls1 := [some (.ref 17), some (.int x1), some (.int x2), some (.int (x3 + 1)), some (.int x4), some (.int x5), some (.int x6), some (.int x7), some (.int (((hI h 19 x1.toNatClampNeg) * (hI h 20 x7.toNatClampNeg)) - ((hI h 20 x1.toNatClampNeg) * (hI h 19 x7.toNatClampNeg)))), none]) (st1 := []) (h1 := h) (P := True) (by decide +kernel) rfl trivial ?_
      refine q_goto (off := 64) (tgt := 123) (by decide) (by decide +kernel) ?_
      refine sl_ok ok_Depths_fewestAbout [.iinc 7 1] (pc1 := 126) (ls1 := [some (.ref 17), some (.int x1), some (.int x2), some (.int (x3 + 1)), some (.int x4), some (.int x5), some (.int x6), some (.int (x7 + 1)), some (.int (((hI h 19 x1.toNatClampNeg) * (hI h 20 x7.toNatClampNeg)) - ((hI h 20 x1.toNatClampNeg) * (hI h 19 x7.toNatClampNeg)))), none]) (st1 := []) (h1 := h) (P := True) (by decide +kernel) rfl trivial ?_
      refine q_goto (off := -112) (tgt := 14) (by decide) (by decide +kernel) ?_
      cases e
      refine Go.sb [some (.ref 17), some (.int x1), some (.int x2), some (.int (x3 + 1)), some (.int x4), some (.int x5), some (.int x6), some (.int (x7 + 1)), none, none] (And.intro rfl (And.intro rfl (And.intro rfl (And.intro rfl (And.intro rfl (And.intro rfl (And.intro rfl (And.intro rfl trivial)))))))) ?_
      exact k
def f_Depths_fewestAbout (x1 : Int32) (x2 : Int32) (h : pH) : Option Int32 :=
  lp (fun s => f_Depths_fewestAbout_L1 x1 x2 h s.1 s.2.1 s.2.2.1 s.2.2.2.1 s.2.2.2.2) lpN (0, 0, 0, 0, 0)
set_option maxHeartbeats 4000000 in
theorem b_Depths_fewestAbout {E : pE} {r : Option Value} {hr : pH} {x1 : Int32} {x2 : Int32} {h : pH}  {b : Int32} (e : f_Depths_fewestAbout x1 x2 h = some b) (k : (fun v : Int32 => r = some (.int v) ∧ hr = h) b) : Go E M_Depths_fewestAbout 0 [some (.ref 17), some (.int x1), some (.int x2), none, none, none, none, none, none, none] [] h r hr := by
  unfold f_Depths_fewestAbout at e
  refine sl_ok ok_Depths_fewestAbout [.iconst 0, .istore_n 3, .iconst 0, .istore 4, .iconst 0, .istore 5, .iconst 0, .istore 6, .iconst 0, .istore 7] (pc1 := 14) (ls1 := [some (.ref 17), some (.int x1), some (.int x2), some (.int 0), some (.int 0), some (.int 0), some (.int 0), some (.int 0), none, none]) (st1 := []) (h1 := h) (P := True) (by decide +kernel) rfl trivial ?_
  exact lp_in e (fun s => Go E M_Depths_fewestAbout 14 [some (.ref 17), some (.int x1), some (.int x2), some (.int s.1), some (.int s.2.1), some (.int s.2.2.1), some (.int s.2.2.2.1), some (.int s.2.2.2.2), none, none] [] h r hr) (fun v : Int32 => r = some (.int v) ∧ hr = h) (fun _ _ e k => b_Depths_fewestAbout_L1  e k) k
theorem s_Depths_fewestAbout {E : pE} {x1 : Int32} {x2 : Int32} {h : pH}  {v : Int32} (e : f_Depths_fewestAbout x1 x2 h = some v) : Ct E M_Depths_fewestAbout [.ref 17, .int x1, .int x2] h (some (.int v)) h :=
  Ct_of ok_Depths_fewestAbout [some (.ref 17), some (.int x1), some (.int x2), none, none, none, none, none, none, none] (Nat.le_of_ble_eq_true rfl) rfl (b_Depths_fewestAbout  e ⟨rfl, rfl⟩)
def f_Depths_depthOver_J3 (o1 : Nat) (x4 : Int32) (x5 : Int32) (x6 : Int32) (x7 : Int32) (h : pH) : Option ((Int32 × Int32) ⊕ (Int32 × pH)) :=
  (f_Depths_fewestAbout x7 (hI h o1 2) h).bind fun v_1 =>
  some (.inl ((jmin x6 (x5 + v_1)), (x7 + 1)))
set_option maxHeartbeats 4000000 in
theorem b_Depths_depthOver_J3 {E : pE} {r : Option Value} {hr : pH} {o1 : Nat} {x4 : Int32} {x5 : Int32} {x6 : Int32} {x7 : Int32} {h : pH} (ho1 : ak o1 = 0 ∧ cx o1 = 0) {b : ((Int32 × Int32) ⊕ (Int32 × pH))} (e : f_Depths_depthOver_J3 o1 x4 x5 x6 x7 h = some b) (k : (Sum.elim (fun s : (Int32 × Int32) => Go E M_Depths_depthOver 85 [some (.ref 17), some (.ref o1), none, none, some (.int x4), some (.int x5), some (.int s.1), some (.int s.2)] [] h r hr) (fun v : (Int32 × pH) => r = some (.int v.1) ∧ hr = v.2)) b) : Go E M_Depths_depthOver 121 [some (.ref 17), some (.ref o1), none, none, some (.int x4), some (.int x5), some (.int x6), some (.int x7)] [] h r hr := by
  unfold f_Depths_depthOver_J3 at e
  refine sl_ok ok_Depths_depthOver [.iload 6, .iload 5, .aload_n 0, .iload 7, .aload_n 1, .getfield 29] (pc1 := 132) (ls1 := [some (.ref 17), some (.ref o1), none, none, some (.int x4), some (.int x5), some (.int x6), some (.int x7)]) (st1 := [.int (hI h o1 2), .int x7, .ref 17, .int x5, .int x6]) (h1 := h) (P := (ak o1 = 0 ∧ cx o1 = 0) ∧ True) (by decide +kernel) rfl ⟨ho1, trivial⟩ ?_
  obtain ⟨v_1, e_2, e⟩ := bi_s e
  refine q_callV ok_Depths_fewestAbout (as := [.int x7, .int (hI h o1 2)]) (st := [.int x5, .int x6]) ⟨wd_214, wd_215, wd_216, wd_217, ds_Depths_fewestAbout, Nat.le_of_ble_eq_true rfl, Nat.le_of_ble_eq_true rfl⟩ (s_Depths_fewestAbout  e_2) rfl ⟨rfl, rfl⟩ (ci := 2) rfl (fun v hv => by cases hv; rfl) (Nat.le_of_ble_eq_true rfl) (by decide +kernel) rfl ?_
  refine sl_ok ok_Depths_depthOver [.iadd] (pc1 := 136) (ls1 := [some (.ref 17), some (.ref o1), none, none, some (.int x4), some (.int x5), some (.int x6), some (.int x7)]) (st1 := [.int (x5 + v_1), .int x6]) (h1 := h) (P := True) (by decide +kernel) rfl trivial ?_
  refine q_mmin wd_213 (Nat.le_of_ble_eq_true rfl) (Nat.le_of_ble_eq_true rfl) (by decide +kernel) ?_
  refine sl_ok ok_Depths_depthOver [.istore 6, .iinc 7 1] (pc1 := 144) (ls1 := [some (.ref 17), some (.ref o1), none, none, some (.int x4), some (.int x5), some (.int (jmin x6 (x5 + v_1))), some (.int (x7 + 1))]) (st1 := []) (h1 := h) (P := True) (by decide +kernel) rfl trivial ?_
  refine q_goto (off := -59) (tgt := 85) (by decide) (by decide +kernel) ?_
  cases e
  exact k
def f_Depths_depthOver_L2 (o1 : Nat) (x4 : Int32) (x5 : Int32) (h : pH) (x6 : Int32) (x7 : Int32) : Option ((Int32 × Int32) ⊕ (Int32 × pH)) :=
  if (hI h o1 2) ≤ x7 then
    some (.inr (x6, h))
  else
    if x6 ≤ x4 then
      some (.inr (x6, h))
    else
      if x7 < 0 ∨ 12 ≤ x7.toNatClampNeg then none else
      if (hI h 19 x7.toNatClampNeg) = 0 then
        if (hI h 20 x7.toNatClampNeg) = 0 then
          some (.inl (x6, (x7 + 1)))
        else
          f_Depths_depthOver_J3 o1 x4 x5 x6 x7 h
      else
        f_Depths_depthOver_J3 o1 x4 x5 x6 x7 h
set_option maxHeartbeats 4000000 in
theorem b_Depths_depthOver_L2 {E : pE} {r : Option Value} {hr : pH} {o1 : Nat} {x4 : Int32} {x5 : Int32} {h : pH} {x6 : Int32} {x7 : Int32} (ho1 : ak o1 = 0 ∧ cx o1 = 0) {b : ((Int32 × Int32) ⊕ (Int32 × pH))} (e : f_Depths_depthOver_L2 o1 x4 x5 h x6 x7 = some b) (k : (Sum.elim (fun s : (Int32 × Int32) => Go E M_Depths_depthOver 85 [some (.ref 17), some (.ref o1), none, none, some (.int x4), some (.int x5), some (.int s.1), some (.int s.2)] [] h r hr) (fun v : (Int32 × pH) => r = some (.int v.1) ∧ hr = v.2)) b) : Go E M_Depths_depthOver 85 [some (.ref 17), some (.ref o1), none, none, some (.int x4), some (.int x5), some (.int x6), some (.int x7)] [] h r hr := by
  unfold f_Depths_depthOver_L2 at e
  refine sl_ok ok_Depths_depthOver [.iload 7, .aload_n 1, .getfield 29] (pc1 := 91) (ls1 := [some (.ref 17), some (.ref o1), none, none, some (.int x4), some (.int x5), some (.int x6), some (.int x7)]) (st1 := [.int (hI h o1 2), .int x7]) (h1 := h) (P := (ak o1 = 0 ∧ cx o1 = 0) ∧ True) (by decide +kernel) rfl ⟨ho1, trivial⟩ ?_
  refine q_icmp_ge (off := 56) (tgt := 147) (by decide +kernel) (by decide) (fun c_1 => ?_) (fun c_1 => ?_)
  · have e := it_t c_1 e
    refine sl_ok ok_Depths_depthOver [.iload 6] (pc1 := 149) (ls1 := [some (.ref 17), some (.ref o1), none, none, some (.int x4), some (.int x5), some (.int x6), some (.int x7)]) (st1 := [.int x6]) (h1 := h) (P := True) (by decide +kernel) rfl trivial ?_
    cases e
    exact q_iret rfl k.1 k.2 (by decide +kernel)
  · have e := it_f c_1 e
    refine sl_ok ok_Depths_depthOver [.iload 6, .iload 4] (pc1 := 98) (ls1 := [some (.ref 17), some (.ref o1), none, none, some (.int x4), some (.int x5), some (.int x6), some (.int x7)]) (st1 := [.int x4, .int x6]) (h1 := h) (P := True) (by decide +kernel) rfl trivial ?_
    refine q_icmp_le (off := 49) (tgt := 147) (by decide +kernel) (by decide) (fun c_2 => ?_) (fun c_2 => ?_)
    · have e := it_t c_2 e
      refine sl_ok ok_Depths_depthOver [.iload 6] (pc1 := 149) (ls1 := [some (.ref 17), some (.ref o1), none, none, some (.int x4), some (.int x5), some (.int x6), some (.int x7)]) (st1 := [.int x6]) (h1 := h) (P := True) (by decide +kernel) rfl trivial ?_
      cases e
      exact q_iret rfl k.1 k.2 (by decide +kernel)
    · have e := it_f c_2 e
      obtain ⟨g_3, e⟩ := it_g e
      refine sl_ok ok_Depths_depthOver [.aload_n 0, .getfield 15, .iload 7, .iaload] (pc1 := 108) (ls1 := [some (.ref 17), some (.ref o1), none, none, some (.int x4), some (.int x5), some (.int x6), some (.int x7)]) (st1 := [.int (hI h 19 x7.toNatClampNeg)]) (h1 := h) (P := (ak 17 = 0 ∧ cx 17 = 2) ∧ (ak 19 = 1 ∧ ¬ (x7 < 0 ∨ cx 19 ≤ x7.toNatClampNeg)) ∧ True) (by decide +kernel) rfl ⟨⟨rfl, rfl⟩, ⟨rfl, g_3⟩, trivial⟩ ?_
      refine q_if_ne (off := 13) (tgt := 121) (by decide +kernel) (by decide) (fun c_4 => ?_) (fun c_4 => ?_)
      · have e := it_f c_4 e
        exact b_Depths_depthOver_J3 ho1 e k
      · have e := it_t c_4 e
        refine sl_ok ok_Depths_depthOver [.aload_n 0, .getfield 18, .iload 7, .iaload] (pc1 := 118) (ls1 := [some (.ref 17), some (.ref o1), none, none, some (.int x4), some (.int x5), some (.int x6), some (.int x7)]) (st1 := [.int (hI h 20 x7.toNatClampNeg)]) (h1 := h) (P := (ak 17 = 0 ∧ cx 17 = 2) ∧ (ak 20 = 1 ∧ ¬ (x7 < 0 ∨ cx 20 ≤ x7.toNatClampNeg)) ∧ True) (by decide +kernel) rfl ⟨⟨rfl, rfl⟩, ⟨rfl, g_3⟩, trivial⟩ ?_
        refine q_if_eq (off := 23) (tgt := 141) (by decide +kernel) (by decide) (fun c_5 => ?_) (fun c_5 => ?_)
        · have e := it_t c_5 e
          refine sl_ok ok_Depths_depthOver [.iinc 7 1] (pc1 := 144) (ls1 := [some (.ref 17), some (.ref o1), none, none, some (.int x4), some (.int x5), some (.int x6), some (.int (x7 + 1))]) (st1 := []) (h1 := h) (P := True) (by decide +kernel) rfl trivial ?_
          refine q_goto (off := -59) (tgt := 85) (by decide) (by decide +kernel) ?_
          cases e
          exact k
        · have e := it_f c_5 e
          exact b_Depths_depthOver_J3 ho1 e k
def f_Depths_depthOver_L1 (o1 : Nat) (x2 : Int32) (x3 : Int32) (x4 : Int32) (x5 : Int32) (x6 : Int32) (h : pH) : Option ((Int32 × Int32 × pH) ⊕ (Int32 × pH)) :=
  if (hI h o1 2) ≤ x6 then
    mi (lp (fun s => f_Depths_depthOver_L2 o1 x4 x5 h s.1 s.2) lpN ((hI h o1 2), 0))
  else
    if x6 < 0 ∨ 12 ≤ x6.toNatClampNeg then none else
    if (hI (sI (sI h 19 x6.toNatClampNeg ((hI h (rf o1 0) x6.toNatClampNeg) - x2)) 20 x6.toNatClampNeg ((hI (sI h 19 x6.toNatClampNeg ((hI h (rf o1 0) x6.toNatClampNeg) - x2)) (rf o1 1) x6.toNatClampNeg) - x3)) 19 x6.toNatClampNeg) = 0 then
      if (hI (sI (sI h 19 x6.toNatClampNeg ((hI h (rf o1 0) x6.toNatClampNeg) - x2)) 20 x6.toNatClampNeg ((hI (sI h 19 x6.toNatClampNeg ((hI h (rf o1 0) x6.toNatClampNeg) - x2)) (rf o1 1) x6.toNatClampNeg) - x3)) 20 x6.toNatClampNeg) = 0 then
        some (.inl ((x5 + 1), (x6 + 1), (sI (sI h 19 x6.toNatClampNeg ((hI h (rf o1 0) x6.toNatClampNeg) - x2)) 20 x6.toNatClampNeg ((hI (sI h 19 x6.toNatClampNeg ((hI h (rf o1 0) x6.toNatClampNeg) - x2)) (rf o1 1) x6.toNatClampNeg) - x3))))
      else
        some (.inl (x5, (x6 + 1), (sI (sI h 19 x6.toNatClampNeg ((hI h (rf o1 0) x6.toNatClampNeg) - x2)) 20 x6.toNatClampNeg ((hI (sI h 19 x6.toNatClampNeg ((hI h (rf o1 0) x6.toNatClampNeg) - x2)) (rf o1 1) x6.toNatClampNeg) - x3))))
    else
      some (.inl (x5, (x6 + 1), (sI (sI h 19 x6.toNatClampNeg ((hI h (rf o1 0) x6.toNatClampNeg) - x2)) 20 x6.toNatClampNeg ((hI (sI h 19 x6.toNatClampNeg ((hI h (rf o1 0) x6.toNatClampNeg) - x2)) (rf o1 1) x6.toNatClampNeg) - x3))))
set_option maxHeartbeats 4000000 in
theorem b_Depths_depthOver_L1 {E : pE} {r : Option Value} {hr : pH} {o1 : Nat} {x2 : Int32} {x3 : Int32} {x4 : Int32} {x5 : Int32} {x6 : Int32} {h : pH} (ho1 : ak o1 = 0 ∧ cx o1 = 0) {b : ((Int32 × Int32 × pH) ⊕ (Int32 × pH))} (e : f_Depths_depthOver_L1 o1 x2 x3 x4 x5 x6 h = some b) (k : (Sum.elim (fun s : (Int32 × Int32 × pH) => Go E M_Depths_depthOver 6 [some (.ref 17), some (.ref o1), some (.int x2), some (.int x3), some (.int x4), some (.int s.1), some (.int s.2.1), none] [] s.2.2 r hr) (fun v : (Int32 × pH) => r = some (.int v.1) ∧ hr = v.2)) b) : Go E M_Depths_depthOver 6 [some (.ref 17), some (.ref o1), some (.int x2), some (.int x3), some (.int x4), some (.int x5), some (.int x6), none] [] h r hr := by
  unfold f_Depths_depthOver_L1 at e
  refine sl_ok ok_Depths_depthOver [.iload 6, .aload_n 1, .getfield 29] (pc1 := 12) (ls1 := [some (.ref 17), some (.ref o1), some (.int x2), some (.int x3), some (.int x4), some (.int x5), some (.int x6), none]) (st1 := [.int (hI h o1 2), .int x6]) (h1 := h) (P := (ak o1 = 0 ∧ cx o1 = 0) ∧ True) (by decide +kernel) rfl ⟨ho1, trivial⟩ ?_
  refine q_icmp_ge (off := 64) (tgt := 76) (by decide +kernel) (by decide) (fun c_1 => ?_) (fun c_1 => ?_)
  · have e := it_t c_1 e
    refine sl_ok ok_Depths_depthOver [.aload_n 1, .getfield 29, .istore 6, .iconst 0, .istore 7] (pc1 := 85) (ls1 := [some (.ref 17), some (.ref o1), some (.int x2), some (.int x3), some (.int x4), some (.int x5), some (.int (hI h o1 2)), some (.int 0)]) (st1 := []) (h1 := h) (P := (ak o1 = 0 ∧ cx o1 = 0) ∧ True) (by decide +kernel) rfl ⟨ho1, trivial⟩ ?_
    refine Go.sb [some (.ref 17), some (.ref o1), none, none, some (.int x4), some (.int x5), some (.int (hI h o1 2)), some (.int 0)] (And.intro rfl (And.intro rfl (And.intro rfl (And.intro rfl (And.intro rfl (And.intro rfl trivial)))))) ?_
    obtain ⟨_, e9, rfl⟩ := mi_s e
    have e := e9
    exact lp_in e (fun s => Go E M_Depths_depthOver 85 [some (.ref 17), some (.ref o1), none, none, some (.int x4), some (.int x5), some (.int s.1), some (.int s.2)] [] h r hr) (fun v : (Int32 × pH) => r = some (.int v.1) ∧ hr = v.2) (fun _ _ e k => b_Depths_depthOver_L2 ho1 e k) k
  · have e := it_f c_1 e
    obtain ⟨g_2, e⟩ := it_g e
    refine sl_ok ok_Depths_depthOver [.aload_n 0, .getfield 15, .iload 6, .aload_n 1, .getfield 34, .iload 6, .iaload, .iload_n 2, .isub, .iastore, .aload_n 0, .getfield 18, .iload 6, .aload_n 1, .getfield 37, .iload 6, .iaload, .iload_n 3, .isub, .iastore, .aload_n 0, .getfield 15, .iload 6, .iaload] (pc1 := 54) (ls1 := [some (.ref 17), some (.ref o1), some (.int x2), some (.int x3), some (.int x4), some (.int x5), some (.int x6), none]) (st1 := [.int (hI (sI (sI h 19 x6.toNatClampNeg ((hI h (rf o1 0) x6.toNatClampNeg) - x2)) 20 x6.toNatClampNeg ((hI (sI h 19 x6.toNatClampNeg ((hI h (rf o1 0) x6.toNatClampNeg) - x2)) (rf o1 1) x6.toNatClampNeg) - x3)) 19 x6.toNatClampNeg)]) (h1 := (sI (sI h 19 x6.toNatClampNeg ((hI h (rf o1 0) x6.toNatClampNeg) - x2)) 20 x6.toNatClampNeg ((hI (sI h 19 x6.toNatClampNeg ((hI h (rf o1 0) x6.toNatClampNeg) - x2)) (rf o1 1) x6.toNatClampNeg) - x3))) (P := (ak 17 = 0 ∧ cx 17 = 2) ∧ (ak o1 = 0 ∧ cx o1 = 0) ∧ (ak (rf o1 0) = 1 ∧ ¬ (x6 < 0 ∨ cx (rf o1 0) ≤ x6.toNatClampNeg)) ∧ (ak 19 = 1 ∧ ¬ (x6 < 0 ∨ cx 19 ≤ x6.toNatClampNeg)) ∧ (ak 17 = 0 ∧ cx 17 = 2) ∧ (ak o1 = 0 ∧ cx o1 = 0) ∧ (ak (rf o1 1) = 1 ∧ ¬ (x6 < 0 ∨ cx (rf o1 1) ≤ x6.toNatClampNeg)) ∧ (ak 20 = 1 ∧ ¬ (x6 < 0 ∨ cx 20 ≤ x6.toNatClampNeg)) ∧ (ak 17 = 0 ∧ cx 17 = 2) ∧ (ak 19 = 1 ∧ ¬ (x6 < 0 ∨ cx 19 ≤ x6.toNatClampNeg)) ∧ True) (by decide +kernel) rfl ⟨⟨rfl, rfl⟩, ho1, ⟨(st_0_0 ho1).1, (by rw [(st_0_0 ho1).2]; exact g_2)⟩, ⟨rfl, g_2⟩, ⟨rfl, rfl⟩, ho1, ⟨(st_0_1 ho1).1, (by rw [(st_0_1 ho1).2]; exact g_2)⟩, ⟨rfl, g_2⟩, ⟨rfl, rfl⟩, ⟨rfl, g_2⟩, trivial⟩ ?_
    refine q_if_ne (off := 16) (tgt := 70) (by decide +kernel) (by decide) (fun c_3 => ?_) (fun c_3 => ?_)
    · have e := it_f c_3 e
      refine sl_ok ok_Depths_depthOver [.iinc 6 1] (pc1 := 73) (ls1 := [some (.ref 17), some (.ref o1), some (.int x2), some (.int x3), some (.int x4), some (.int x5), some (.int (x6 + 1)), none]) (st1 := []) (h1 := (sI (sI h 19 x6.toNatClampNeg ((hI h (rf o1 0) x6.toNatClampNeg) - x2)) 20 x6.toNatClampNeg ((hI (sI h 19 x6.toNatClampNeg ((hI h (rf o1 0) x6.toNatClampNeg) - x2)) (rf o1 1) x6.toNatClampNeg) - x3))) (P := True) (by decide +kernel) rfl trivial ?_
      refine q_goto (off := -67) (tgt := 6) (by decide) (by decide +kernel) ?_
      cases e
      exact k
    · have e := it_t c_3 e
      refine sl_ok ok_Depths_depthOver [.aload_n 0, .getfield 18, .iload 6, .iaload] (pc1 := 64) (ls1 := [some (.ref 17), some (.ref o1), some (.int x2), some (.int x3), some (.int x4), some (.int x5), some (.int x6), none]) (st1 := [.int (hI (sI (sI h 19 x6.toNatClampNeg ((hI h (rf o1 0) x6.toNatClampNeg) - x2)) 20 x6.toNatClampNeg ((hI (sI h 19 x6.toNatClampNeg ((hI h (rf o1 0) x6.toNatClampNeg) - x2)) (rf o1 1) x6.toNatClampNeg) - x3)) 20 x6.toNatClampNeg)]) (h1 := (sI (sI h 19 x6.toNatClampNeg ((hI h (rf o1 0) x6.toNatClampNeg) - x2)) 20 x6.toNatClampNeg ((hI (sI h 19 x6.toNatClampNeg ((hI h (rf o1 0) x6.toNatClampNeg) - x2)) (rf o1 1) x6.toNatClampNeg) - x3))) (P := (ak 17 = 0 ∧ cx 17 = 2) ∧ (ak 20 = 1 ∧ ¬ (x6 < 0 ∨ cx 20 ≤ x6.toNatClampNeg)) ∧ True) (by decide +kernel) rfl ⟨⟨rfl, rfl⟩, ⟨rfl, g_2⟩, trivial⟩ ?_
      refine q_if_ne (off := 6) (tgt := 70) (by decide +kernel) (by decide) (fun c_4 => ?_) (fun c_4 => ?_)
      · have e := it_f c_4 e
        refine sl_ok ok_Depths_depthOver [.iinc 6 1] (pc1 := 73) (ls1 := [some (.ref 17), some (.ref o1), some (.int x2), some (.int x3), some (.int x4), some (.int x5), some (.int (x6 + 1)), none]) (st1 := []) (h1 := (sI (sI h 19 x6.toNatClampNeg ((hI h (rf o1 0) x6.toNatClampNeg) - x2)) 20 x6.toNatClampNeg ((hI (sI h 19 x6.toNatClampNeg ((hI h (rf o1 0) x6.toNatClampNeg) - x2)) (rf o1 1) x6.toNatClampNeg) - x3))) (P := True) (by decide +kernel) rfl trivial ?_
        refine q_goto (off := -67) (tgt := 6) (by decide) (by decide +kernel) ?_
        cases e
        exact k
      · have e := it_t c_4 e
        refine sl_ok ok_Depths_depthOver [.iinc 5 1, .iinc 6 1] (pc1 := 73) (ls1 := [some (.ref 17), some (.ref o1), some (.int x2), some (.int x3), some (.int x4), some (.int (x5 + 1)), some (.int (x6 + 1)), none]) (st1 := []) (h1 := (sI (sI h 19 x6.toNatClampNeg ((hI h (rf o1 0) x6.toNatClampNeg) - x2)) 20 x6.toNatClampNeg ((hI (sI h 19 x6.toNatClampNeg ((hI h (rf o1 0) x6.toNatClampNeg) - x2)) (rf o1 1) x6.toNatClampNeg) - x3))) (P := True) (by decide +kernel) rfl trivial ?_
        refine q_goto (off := -67) (tgt := 6) (by decide) (by decide +kernel) ?_
        cases e
        exact k
def f_Depths_depthOver (o1 : Nat) (x2 : Int32) (x3 : Int32) (x4 : Int32) (h : pH) : Option (Int32 × pH) :=
  lp (fun s => f_Depths_depthOver_L1 o1 x2 x3 x4 s.1 s.2.1 s.2.2) lpN (0, 0, h)
set_option maxHeartbeats 4000000 in
theorem b_Depths_depthOver {E : pE} {r : Option Value} {hr : pH} {o1 : Nat} {x2 : Int32} {x3 : Int32} {x4 : Int32} {h : pH} (ho1 : ak o1 = 0 ∧ cx o1 = 0) {b : (Int32 × pH)} (e : f_Depths_depthOver o1 x2 x3 x4 h = some b) (k : (fun v : (Int32 × pH) => r = some (.int v.1) ∧ hr = v.2) b) : Go E M_Depths_depthOver 0 [some (.ref 17), some (.ref o1), some (.int x2), some (.int x3), some (.int x4), none, none, none] [] h r hr := by
  unfold f_Depths_depthOver at e
  refine sl_ok ok_Depths_depthOver [.iconst 0, .istore 5, .iconst 0, .istore 6] (pc1 := 6) (ls1 := [some (.ref 17), some (.ref o1), some (.int x2), some (.int x3), some (.int x4), some (.int 0), some (.int 0), none]) (st1 := []) (h1 := h) (P := True) (by decide +kernel) rfl trivial ?_
  exact lp_in e (fun s => Go E M_Depths_depthOver 6 [some (.ref 17), some (.ref o1), some (.int x2), some (.int x3), some (.int x4), some (.int s.1), some (.int s.2.1), none] [] s.2.2 r hr) (fun v : (Int32 × pH) => r = some (.int v.1) ∧ hr = v.2) (fun _ _ e k => b_Depths_depthOver_L1 ho1 e k) k
theorem s_Depths_depthOver {E : pE} {o1 : Nat} {x2 : Int32} {x3 : Int32} {x4 : Int32} {h : pH} (ho1 : ak o1 = 0 ∧ cx o1 = 0) {v : (Int32 × pH)} (e : f_Depths_depthOver o1 x2 x3 x4 h = some v) : Ct E M_Depths_depthOver [.ref 17, .ref o1, .int x2, .int x3, .int x4] h (some (.int v.1)) v.2 :=
  Ct_of ok_Depths_depthOver [some (.ref 17), some (.ref o1), some (.int x2), some (.int x3), some (.int x4), none, none, none] (Nat.le_of_ble_eq_true rfl) rfl (b_Depths_depthOver ho1 e ⟨rfl, rfl⟩)
def f_Depths_depthAt (o1 : Nat) (x2 : Int32) (x3 : Int32) (h : pH) : Option (Int32 × pH) :=
  (f_Depths_depthOver o1 x2 x3 (0 : Int32) h).bind fun v_1 =>
  some (v_1.1, v_1.2)
set_option maxHeartbeats 4000000 in
theorem b_Depths_depthAt {E : pE} {r : Option Value} {hr : pH} {o1 : Nat} {x2 : Int32} {x3 : Int32} {h : pH} (ho1 : ak o1 = 0 ∧ cx o1 = 0) {b : (Int32 × pH)} (e : f_Depths_depthAt o1 x2 x3 h = some b) (k : (fun v : (Int32 × pH) => r = some (.int v.1) ∧ hr = v.2) b) : Go E M_Depths_depthAt 0 [some (.ref 17), some (.ref o1), some (.int x2), some (.int x3)] [] h r hr := by
  unfold f_Depths_depthAt at e
  refine sl_ok ok_Depths_depthAt [.aload_n 0, .aload_n 1, .iload_n 2, .iload_n 3, .iconst 0] (pc1 := 5) (ls1 := [some (.ref 17), some (.ref o1), some (.int x2), some (.int x3)]) (st1 := [.int 0, .int x3, .int x2, .ref o1, .ref 17]) (h1 := h) (P := True) (by decide +kernel) rfl trivial ?_
  obtain ⟨v_1, e_2, e⟩ := bi_s e
  refine q_callV ok_Depths_depthOver (as := [.ref o1, .int x2, .int x3, .int 0]) (st := []) ⟨wd_218, wd_219, wd_220, wd_217, ds_Depths_depthOver, Nat.le_of_ble_eq_true rfl, Nat.le_of_ble_eq_true rfl⟩ (s_Depths_depthOver ho1 e_2) rfl ⟨rfl, rfl⟩ (ci := 2) rfl (fun v hv => by cases hv; rfl) (Nat.le_of_ble_eq_true rfl) (by decide +kernel) rfl ?_
  cases e
  exact q_iret rfl k.1 k.2 (by decide +kernel)
theorem s_Depths_depthAt {E : pE} {o1 : Nat} {x2 : Int32} {x3 : Int32} {h : pH} (ho1 : ak o1 = 0 ∧ cx o1 = 0) {v : (Int32 × pH)} (e : f_Depths_depthAt o1 x2 x3 h = some v) : Ct E M_Depths_depthAt [.ref 17, .ref o1, .int x2, .int x3] h (some (.int v.1)) v.2 :=
  Ct_of ok_Depths_depthAt [some (.ref 17), some (.ref o1), some (.int x2), some (.int x3)] (Nat.le_of_ble_eq_true rfl) rfl (b_Depths_depthAt ho1 e ⟨rfl, rfl⟩)
def f_Hulls_layerBits (x1 : Int32) (h : pH) : Option Int32 :=
  if x1 < 0 then
    some 0
  else
    if (hI h 14 2) ≤ x1 then
      some 0
    else
      if x1 < 0 ∨ 12 ≤ x1.toNatClampNeg then none else
      some (hI h 15 x1.toNatClampNeg)
set_option maxHeartbeats 4000000 in
theorem b_Hulls_layerBits {E : pE} {r : Option Value} {hr : pH} {x1 : Int32} {h : pH}  {b : Int32} (e : f_Hulls_layerBits x1 h = some b) (k : (fun v : Int32 => r = some (.int v) ∧ hr = h) b) : Go E M_Hulls_layerBits 0 [some (.ref 14), some (.int x1)] [] h r hr := by
  unfold f_Hulls_layerBits at e
  refine sl_ok ok_Hulls_layerBits [.iload_n 1] (pc1 := 1) (ls1 := [some (.ref 14), some (.int x1)]) (st1 := [.int x1]) (h1 := h) (P := True) (by decide +kernel) rfl trivial ?_
  refine q_if_lt (off := 20) (tgt := 21) (by decide +kernel) (by decide) (fun c_1 => ?_) (fun c_1 => ?_)
  · have e := it_t c_1 e
    refine sl_ok ok_Hulls_layerBits [.iconst 0] (pc1 := 22) (ls1 := [some (.ref 14), some (.int x1)]) (st1 := [.int 0]) (h1 := h) (P := True) (by decide +kernel) rfl trivial ?_
    cases e
    exact q_iret rfl k.1 k.2 (by decide +kernel)
  · have e := it_f c_1 e
    refine sl_ok ok_Hulls_layerBits [.iload_n 1, .aload_n 0, .getfield 24] (pc1 := 9) (ls1 := [some (.ref 14), some (.int x1)]) (st1 := [.int (hI h 14 2), .int x1]) (h1 := h) (P := (ak 14 = 0 ∧ cx 14 = 4) ∧ True) (by decide +kernel) rfl ⟨⟨rfl, rfl⟩, trivial⟩ ?_
    refine q_icmp_ge (off := 12) (tgt := 21) (by decide +kernel) (by decide) (fun c_2 => ?_) (fun c_2 => ?_)
    · have e := it_t c_2 e
      refine sl_ok ok_Hulls_layerBits [.iconst 0] (pc1 := 22) (ls1 := [some (.ref 14), some (.int x1)]) (st1 := [.int 0]) (h1 := h) (P := True) (by decide +kernel) rfl trivial ?_
      cases e
      exact q_iret rfl k.1 k.2 (by decide +kernel)
    · have e := it_f c_2 e
      obtain ⟨g_3, e⟩ := it_g e
      refine sl_ok ok_Hulls_layerBits [.aload_n 0, .getfield 9, .iload_n 1, .iaload] (pc1 := 18) (ls1 := [some (.ref 14), some (.int x1)]) (st1 := [.int (hI h 15 x1.toNatClampNeg)]) (h1 := h) (P := (ak 14 = 0 ∧ cx 14 = 4) ∧ (ak 15 = 1 ∧ ¬ (x1 < 0 ∨ cx 15 ≤ x1.toNatClampNeg)) ∧ True) (by decide +kernel) rfl ⟨⟨rfl, rfl⟩, ⟨rfl, g_3⟩, trivial⟩ ?_
      refine q_goto (off := 4) (tgt := 22) (by decide) (by decide +kernel) ?_
      cases e
      exact q_iret rfl k.1 k.2 (by decide +kernel)
theorem s_Hulls_layerBits {E : pE} {x1 : Int32} {h : pH}  {v : Int32} (e : f_Hulls_layerBits x1 h = some v) : Ct E M_Hulls_layerBits [.ref 14, .int x1] h (some (.int v)) h :=
  Ct_of ok_Hulls_layerBits [some (.ref 14), some (.int x1)] (Nat.le_of_ble_eq_true rfl) rfl (b_Hulls_layerBits  e ⟨rfl, rfl⟩)
def f_Cloud_turnOf (o0 : Nat) (x1 : Int32) (x2 : Int32) (x3 : Int32) (h : pH) : Option Int32 :=
  if x3 < 0 ∨ 12 ≤ x3.toNatClampNeg then none else
  (f_Cloud_turnAt o0 x1 x2 (hI h (rf o0 0) x3.toNatClampNeg) (hI h (rf o0 1) x3.toNatClampNeg) h).bind fun v_2 =>
  some v_2
set_option maxHeartbeats 4000000 in
theorem b_Cloud_turnOf {E : pE} {r : Option Value} {hr : pH} {o0 : Nat} {x1 : Int32} {x2 : Int32} {x3 : Int32} {h : pH} (ho0 : ak o0 = 0 ∧ cx o0 = 0) {b : Int32} (e : f_Cloud_turnOf o0 x1 x2 x3 h = some b) (k : (fun v : Int32 => r = some (.int v) ∧ hr = h) b) : Go E M_Cloud_turnOf 0 [some (.ref o0), some (.int x1), some (.int x2), some (.int x3)] [] h r hr := by
  unfold f_Cloud_turnOf at e
  obtain ⟨g_1, e⟩ := it_g e
  refine sl_ok ok_Cloud_turnOf [.aload_n 0, .iload_n 1, .iload_n 2, .aload_n 0, .getfield 9, .iload_n 3, .iaload, .aload_n 0, .getfield 15, .iload_n 3, .iaload] (pc1 := 15) (ls1 := [some (.ref o0), some (.int x1), some (.int x2), some (.int x3)]) (st1 := [.int (hI h (rf o0 1) x3.toNatClampNeg), .int (hI h (rf o0 0) x3.toNatClampNeg), .int x2, .int x1, .ref o0]) (h1 := h) (P := (ak o0 = 0 ∧ cx o0 = 0) ∧ (ak (rf o0 0) = 1 ∧ ¬ (x3 < 0 ∨ cx (rf o0 0) ≤ x3.toNatClampNeg)) ∧ (ak o0 = 0 ∧ cx o0 = 0) ∧ (ak (rf o0 1) = 1 ∧ ¬ (x3 < 0 ∨ cx (rf o0 1) ≤ x3.toNatClampNeg)) ∧ True) (by decide +kernel) rfl ⟨ho0, ⟨(st_0_0 ho0).1, (by rw [(st_0_0 ho0).2]; exact g_1)⟩, ho0, ⟨(st_0_1 ho0).1, (by rw [(st_0_1 ho0).2]; exact g_1)⟩, trivial⟩ ?_
  obtain ⟨v_2, e_3, e⟩ := bi_s e
  refine q_callV ok_Cloud_turnAt (as := [.int x1, .int x2, .int (hI h (rf o0 0) x3.toNatClampNeg), .int (hI h (rf o0 1) x3.toNatClampNeg)]) (st := []) ⟨wd_197, wd_198, wd_199, wd_14, ds_Cloud_turnAt, Nat.le_of_ble_eq_true rfl, Nat.le_of_ble_eq_true rfl⟩ (s_Cloud_turnAt ho0 e_3) rfl ho0 (ci := 0) rfl (fun v hv => by cases hv; rfl) (Nat.le_of_ble_eq_true rfl) (by decide +kernel) rfl ?_
  cases e
  exact q_iret rfl k.1 k.2 (by decide +kernel)
theorem s_Cloud_turnOf {E : pE} {o0 : Nat} {x1 : Int32} {x2 : Int32} {x3 : Int32} {h : pH} (ho0 : ak o0 = 0 ∧ cx o0 = 0) {v : Int32} (e : f_Cloud_turnOf o0 x1 x2 x3 h = some v) : Ct E M_Cloud_turnOf [.ref o0, .int x1, .int x2, .int x3] h (some (.int v)) h :=
  Ct_of ok_Cloud_turnOf [some (.ref o0), some (.int x1), some (.int x2), some (.int x3)] (Nat.le_of_ble_eq_true rfl) rfl (b_Cloud_turnOf ho0 e ⟨rfl, rfl⟩)
def f_Cloud_wayAlong (o0 : Nat) (x1 : Int32) (x2 : Int32) (x3 : Int32) (h : pH) : Option Int32 :=
  if x2 < 0 ∨ 12 ≤ x2.toNatClampNeg then none else
  if x1 < 0 ∨ 12 ≤ x1.toNatClampNeg then none else
  if x3 < 0 ∨ 12 ≤ x3.toNatClampNeg then none else
  some ((((hI h (rf o0 0) x2.toNatClampNeg) - (hI h (rf o0 0) x1.toNatClampNeg)) * ((hI h (rf o0 0) x3.toNatClampNeg) - (hI h (rf o0 0) x1.toNatClampNeg))) + (((hI h (rf o0 1) x2.toNatClampNeg) - (hI h (rf o0 1) x1.toNatClampNeg)) * ((hI h (rf o0 1) x3.toNatClampNeg) - (hI h (rf o0 1) x1.toNatClampNeg))))
set_option maxHeartbeats 4000000 in
theorem b_Cloud_wayAlong {E : pE} {r : Option Value} {hr : pH} {o0 : Nat} {x1 : Int32} {x2 : Int32} {x3 : Int32} {h : pH} (ho0 : ak o0 = 0 ∧ cx o0 = 0) {b : Int32} (e : f_Cloud_wayAlong o0 x1 x2 x3 h = some b) (k : (fun v : Int32 => r = some (.int v) ∧ hr = h) b) : Go E M_Cloud_wayAlong 0 [some (.ref o0), some (.int x1), some (.int x2), some (.int x3)] [] h r hr := by
  unfold f_Cloud_wayAlong at e
  obtain ⟨g_1, e⟩ := it_g e
  obtain ⟨g_2, e⟩ := it_g e
  obtain ⟨g_3, e⟩ := it_g e
  refine sl_ok ok_Cloud_wayAlong [.aload_n 0, .getfield 9, .iload_n 2, .iaload, .aload_n 0, .getfield 9, .iload_n 1, .iaload, .isub, .aload_n 0, .getfield 9, .iload_n 3, .iaload, .aload_n 0, .getfield 9, .iload_n 1, .iaload, .isub, .imul, .aload_n 0, .getfield 15, .iload_n 2, .iaload, .aload_n 0, .getfield 15, .iload_n 1, .iaload, .isub, .aload_n 0, .getfield 15, .iload_n 3, .iaload, .aload_n 0, .getfield 15, .iload_n 1, .iaload, .isub, .imul, .iadd] (pc1 := 55) (ls1 := [some (.ref o0), some (.int x1), some (.int x2), some (.int x3)]) (st1 := [.int ((((hI h (rf o0 0) x2.toNatClampNeg) - (hI h (rf o0 0) x1.toNatClampNeg)) * ((hI h (rf o0 0) x3.toNatClampNeg) - (hI h (rf o0 0) x1.toNatClampNeg))) + (((hI h (rf o0 1) x2.toNatClampNeg) - (hI h (rf o0 1) x1.toNatClampNeg)) * ((hI h (rf o0 1) x3.toNatClampNeg) - (hI h (rf o0 1) x1.toNatClampNeg))))]) (h1 := h) (P := (ak o0 = 0 ∧ cx o0 = 0) ∧ (ak (rf o0 0) = 1 ∧ ¬ (x2 < 0 ∨ cx (rf o0 0) ≤ x2.toNatClampNeg)) ∧ (ak o0 = 0 ∧ cx o0 = 0) ∧ (ak (rf o0 0) = 1 ∧ ¬ (x1 < 0 ∨ cx (rf o0 0) ≤ x1.toNatClampNeg)) ∧ (ak o0 = 0 ∧ cx o0 = 0) ∧ (ak (rf o0 0) = 1 ∧ ¬ (x3 < 0 ∨ cx (rf o0 0) ≤ x3.toNatClampNeg)) ∧ (ak o0 = 0 ∧ cx o0 = 0) ∧ (ak (rf o0 0) = 1 ∧ ¬ (x1 < 0 ∨ cx (rf o0 0) ≤ x1.toNatClampNeg)) ∧ (ak o0 = 0 ∧ cx o0 = 0) ∧ (ak (rf o0 1) = 1 ∧ ¬ (x2 < 0 ∨ cx (rf o0 1) ≤ x2.toNatClampNeg)) ∧ (ak o0 = 0 ∧ cx o0 = 0) ∧ (ak (rf o0 1) = 1 ∧ ¬ (x1 < 0 ∨ cx (rf o0 1) ≤ x1.toNatClampNeg)) ∧ (ak o0 = 0 ∧ cx o0 = 0) ∧ (ak (rf o0 1) = 1 ∧ ¬ (x3 < 0 ∨ cx (rf o0 1) ≤ x3.toNatClampNeg)) ∧ (ak o0 = 0 ∧ cx o0 = 0) ∧ (ak (rf o0 1) = 1 ∧ ¬ (x1 < 0 ∨ cx (rf o0 1) ≤ x1.toNatClampNeg)) ∧ True) (by decide +kernel) rfl ⟨ho0, ⟨(st_0_0 ho0).1, (by rw [(st_0_0 ho0).2]; exact g_1)⟩, ho0, ⟨(st_0_0 ho0).1, (by rw [(st_0_0 ho0).2]; exact g_2)⟩, ho0, ⟨(st_0_0 ho0).1, (by rw [(st_0_0 ho0).2]; exact g_3)⟩, ho0, ⟨(st_0_0 ho0).1, (by rw [(st_0_0 ho0).2]; exact g_2)⟩, ho0, ⟨(st_0_1 ho0).1, (by rw [(st_0_1 ho0).2]; exact g_1)⟩, ho0, ⟨(st_0_1 ho0).1, (by rw [(st_0_1 ho0).2]; exact g_2)⟩, ho0, ⟨(st_0_1 ho0).1, (by rw [(st_0_1 ho0).2]; exact g_3)⟩, ho0, ⟨(st_0_1 ho0).1, (by rw [(st_0_1 ho0).2]; exact g_2)⟩, trivial⟩ ?_
  cases e
  exact q_iret rfl k.1 k.2 (by decide +kernel)
theorem s_Cloud_wayAlong {E : pE} {o0 : Nat} {x1 : Int32} {x2 : Int32} {x3 : Int32} {h : pH} (ho0 : ak o0 = 0 ∧ cx o0 = 0) {v : Int32} (e : f_Cloud_wayAlong o0 x1 x2 x3 h = some v) : Ct E M_Cloud_wayAlong [.ref o0, .int x1, .int x2, .int x3] h (some (.int v)) h :=
  Ct_of ok_Cloud_wayAlong [some (.ref o0), some (.int x1), some (.int x2), some (.int x3)] (Nat.le_of_ble_eq_true rfl) rfl (b_Cloud_wayAlong ho0 e ⟨rfl, rfl⟩)
def f_Hulls_isBetweenOthers_L2 (o0 : Nat) (x1 : Int32) (x2 : Int32) (x3 : Int32) (h : pH) (x4 : Int32) : Option (Int32 ⊕ (Int32 ⊕ Int32)) :=
  if (hI h o0 2) ≤ x4 then
    some (.inr (.inl (x3 + 1)))
  else
    if x3 = x2 then
      some (.inl (x4 + 1))
    else
      if x4 = x2 then
        some (.inl (x4 + 1))
      else
        if (f_C_bit x1 x3) = 1 then
          if (f_C_bit x1 x4) = 1 then
            (f_Cloud_turnOf o0 x2 x3 x4 h).bind fun v_6 =>
            if v_6 = 0 then
              (f_Cloud_wayAlong o0 x2 x3 x4 h).bind fun v_9 =>
              if 0 ≤ v_9 then
                some (.inl (x4 + 1))
              else
                some (.inr (.inr 1))
            else
              some (.inl (x4 + 1))
          else
            some (.inl (x4 + 1))
        else
          some (.inl (x4 + 1))
set_option maxHeartbeats 4000000 in
theorem b_Hulls_isBetweenOthers_L2 {E : pE} {r : Option Value} {hr : pH} {o0 : Nat} {x1 : Int32} {x2 : Int32} {x3 : Int32} {h : pH} {x4 : Int32} (ho0 : ak o0 = 0 ∧ cx o0 = 0) {b : (Int32 ⊕ (Int32 ⊕ Int32))} (e : f_Hulls_isBetweenOthers_L2 o0 x1 x2 x3 h x4 = some b) (k : (Sum.elim (fun s : Int32 => Go E M_Hulls_isBetweenOthers 15 [some (.ref o0), some (.int x1), some (.int x2), some (.int x3), some (.int s)] [] h r hr) (Sum.elim (fun s : Int32 => Go E M_Hulls_isBetweenOthers 2 [some (.ref o0), some (.int x1), some (.int x2), some (.int s), none] [] h r hr) (fun v : Int32 => r = some (.int v) ∧ hr = h))) b) : Go E M_Hulls_isBetweenOthers 15 [some (.ref o0), some (.int x1), some (.int x2), some (.int x3), some (.int x4)] [] h r hr := by
  unfold f_Hulls_isBetweenOthers_L2 at e
  refine sl_ok ok_Hulls_isBetweenOthers [.iload 4, .aload_n 0, .getfield 59] (pc1 := 21) (ls1 := [some (.ref o0), some (.int x1), some (.int x2), some (.int x3), some (.int x4)]) (st1 := [.int (hI h o0 2), .int x4]) (h1 := h) (P := (ak o0 = 0 ∧ cx o0 = 0) ∧ True) (by decide +kernel) rfl ⟨ho0, trivial⟩ ?_
  refine q_icmp_ge (off := 63) (tgt := 84) (by decide +kernel) (by decide) (fun c_1 => ?_) (fun c_1 => ?_)
  · have e := it_t c_1 e
    refine sl_ok ok_Hulls_isBetweenOthers [.iinc 3 1] (pc1 := 87) (ls1 := [some (.ref o0), some (.int x1), some (.int x2), some (.int (x3 + 1)), some (.int x4)]) (st1 := []) (h1 := h) (P := True) (by decide +kernel) rfl trivial ?_
    refine q_goto (off := -85) (tgt := 2) (by decide) (by decide +kernel) ?_
    cases e
    refine Go.sb [some (.ref o0), some (.int x1), some (.int x2), some (.int (x3 + 1)), none] (And.intro rfl (And.intro rfl (And.intro rfl (And.intro rfl trivial)))) ?_
    exact k
  · have e := it_f c_1 e
    refine sl_ok ok_Hulls_isBetweenOthers [.iload_n 3, .iload_n 2] (pc1 := 26) (ls1 := [some (.ref o0), some (.int x1), some (.int x2), some (.int x3), some (.int x4)]) (st1 := [.int x2, .int x3]) (h1 := h) (P := True) (by decide +kernel) rfl trivial ?_
    refine q_icmp_eq (off := 52) (tgt := 78) (by decide +kernel) (by decide) (fun c_2 => ?_) (fun c_2 => ?_)
    · have e := it_t c_2 e
      refine sl_ok ok_Hulls_isBetweenOthers [.iinc 4 1] (pc1 := 81) (ls1 := [some (.ref o0), some (.int x1), some (.int x2), some (.int x3), some (.int (x4 + 1))]) (st1 := []) (h1 := h) (P := True) (by decide +kernel) rfl trivial ?_
      refine q_goto (off := -66) (tgt := 15) (by decide) (by decide +kernel) ?_
      cases e
      exact k
    · have e := it_f c_2 e
      refine sl_ok ok_Hulls_isBetweenOthers [.iload 4, .iload_n 2] (pc1 := 32) (ls1 := [some (.ref o0), some (.int x1), some (.int x2), some (.int x3), some (.int x4)]) (st1 := [.int x2, .int x4]) (h1 := h) (P := True) (by decide +kernel) rfl trivial ?_
      refine q_icmp_eq (off := 46) (tgt := 78) (by decide +kernel) (by decide) (fun c_3 => ?_) (fun c_3 => ?_)
      · have e := it_t c_3 e
        refine sl_ok ok_Hulls_isBetweenOthers [.iinc 4 1] (pc1 := 81) (ls1 := [some (.ref o0), some (.int x1), some (.int x2), some (.int x3), some (.int (x4 + 1))]) (st1 := []) (h1 := h) (P := True) (by decide +kernel) rfl trivial ?_
        refine q_goto (off := -66) (tgt := 15) (by decide) (by decide +kernel) ?_
        cases e
        exact k
      · have e := it_f c_3 e
        refine sl_ok ok_Hulls_isBetweenOthers [.iload_n 1, .iload_n 3] (pc1 := 37) (ls1 := [some (.ref o0), some (.int x1), some (.int x2), some (.int x3), some (.int x4)]) (st1 := [.int x3, .int x1]) (h1 := h) (P := True) (by decide +kernel) rfl trivial ?_
        refine q_callSN ok_C_bit (as := [.int x1, .int x3]) (st := []) ⟨(List.mem_of_getElem? (i := 13) rfl), wd_201, wd_48, ds_C_bit, Nat.le_of_ble_eq_true rfl, Nat.le_of_ble_eq_true rfl⟩ (s_C_bit ) rfl (fun v hv => by cases hv; rfl) (Nat.le_of_ble_eq_true rfl) (by decide +kernel) rfl ?_
        refine sl_ok ok_Hulls_isBetweenOthers [.iconst 1] (pc1 := 41) (ls1 := [some (.ref o0), some (.int x1), some (.int x2), some (.int x3), some (.int x4)]) (st1 := [.int 1, .int (f_C_bit x1 x3)]) (h1 := h) (P := True) (by decide +kernel) rfl trivial ?_
        refine q_icmp_ne (off := 37) (tgt := 78) (by decide +kernel) (by decide) (fun c_4 => ?_) (fun c_4 => ?_)
        · have e := it_f c_4 e
          refine sl_ok ok_Hulls_isBetweenOthers [.iinc 4 1] (pc1 := 81) (ls1 := [some (.ref o0), some (.int x1), some (.int x2), some (.int x3), some (.int (x4 + 1))]) (st1 := []) (h1 := h) (P := True) (by decide +kernel) rfl trivial ?_
          refine q_goto (off := -66) (tgt := 15) (by decide) (by decide +kernel) ?_
          cases e
          exact k
        · have e := it_t c_4 e
          refine sl_ok ok_Hulls_isBetweenOthers [.iload_n 1, .iload 4] (pc1 := 47) (ls1 := [some (.ref o0), some (.int x1), some (.int x2), some (.int x3), some (.int x4)]) (st1 := [.int x4, .int x1]) (h1 := h) (P := True) (by decide +kernel) rfl trivial ?_
          refine q_callSN ok_C_bit (as := [.int x1, .int x4]) (st := []) ⟨(List.mem_of_getElem? (i := 13) rfl), wd_201, wd_48, ds_C_bit, Nat.le_of_ble_eq_true rfl, Nat.le_of_ble_eq_true rfl⟩ (s_C_bit ) rfl (fun v hv => by cases hv; rfl) (Nat.le_of_ble_eq_true rfl) (by decide +kernel) rfl ?_
          refine sl_ok ok_Hulls_isBetweenOthers [.iconst 1] (pc1 := 51) (ls1 := [some (.ref o0), some (.int x1), some (.int x2), some (.int x3), some (.int x4)]) (st1 := [.int 1, .int (f_C_bit x1 x4)]) (h1 := h) (P := True) (by decide +kernel) rfl trivial ?_
          refine q_icmp_ne (off := 27) (tgt := 78) (by decide +kernel) (by decide) (fun c_5 => ?_) (fun c_5 => ?_)
          · have e := it_f c_5 e
            refine sl_ok ok_Hulls_isBetweenOthers [.iinc 4 1] (pc1 := 81) (ls1 := [some (.ref o0), some (.int x1), some (.int x2), some (.int x3), some (.int (x4 + 1))]) (st1 := []) (h1 := h) (P := True) (by decide +kernel) rfl trivial ?_
            refine q_goto (off := -66) (tgt := 15) (by decide) (by decide +kernel) ?_
            cases e
            exact k
          · have e := it_t c_5 e
            refine sl_ok ok_Hulls_isBetweenOthers [.aload_n 0, .iload_n 2, .iload_n 3, .iload 4] (pc1 := 59) (ls1 := [some (.ref o0), some (.int x1), some (.int x2), some (.int x3), some (.int x4)]) (st1 := [.int x4, .int x3, .int x2, .ref o0]) (h1 := h) (P := True) (by decide +kernel) rfl trivial ?_
            obtain ⟨v_6, e_7, e⟩ := bi_s e
            refine q_callV ok_Cloud_turnOf (as := [.int x2, .int x3, .int x4]) (st := []) ⟨wd_221, wd_222, wd_223, wd_14, ds_Cloud_turnOf, Nat.le_of_ble_eq_true rfl, Nat.le_of_ble_eq_true rfl⟩ (s_Cloud_turnOf ho0 e_7) rfl ho0 (ci := 0) rfl (fun v hv => by cases hv; rfl) (Nat.le_of_ble_eq_true rfl) (by decide +kernel) rfl ?_
            refine q_if_ne (off := 16) (tgt := 78) (by decide +kernel) (by decide) (fun c_8 => ?_) (fun c_8 => ?_)
            · have e := it_f c_8 e
              refine sl_ok ok_Hulls_isBetweenOthers [.iinc 4 1] (pc1 := 81) (ls1 := [some (.ref o0), some (.int x1), some (.int x2), some (.int x3), some (.int (x4 + 1))]) (st1 := []) (h1 := h) (P := True) (by decide +kernel) rfl trivial ?_
              refine q_goto (off := -66) (tgt := 15) (by decide) (by decide +kernel) ?_
              cases e
              exact k
            · have e := it_t c_8 e
              refine sl_ok ok_Hulls_isBetweenOthers [.aload_n 0, .iload_n 2, .iload_n 3, .iload 4] (pc1 := 70) (ls1 := [some (.ref o0), some (.int x1), some (.int x2), some (.int x3), some (.int x4)]) (st1 := [.int x4, .int x3, .int x2, .ref o0]) (h1 := h) (P := True) (by decide +kernel) rfl trivial ?_
              obtain ⟨v_9, e_10, e⟩ := bi_s e
              refine q_callV ok_Cloud_wayAlong (as := [.int x2, .int x3, .int x4]) (st := []) ⟨wd_224, wd_225, wd_226, wd_14, ds_Cloud_wayAlong, Nat.le_of_ble_eq_true rfl, Nat.le_of_ble_eq_true rfl⟩ (s_Cloud_wayAlong ho0 e_10) rfl ho0 (ci := 0) rfl (fun v hv => by cases hv; rfl) (Nat.le_of_ble_eq_true rfl) (by decide +kernel) rfl ?_
              refine q_if_ge (off := 5) (tgt := 78) (by decide +kernel) (by decide) (fun c_11 => ?_) (fun c_11 => ?_)
              · have e := it_t c_11 e
                refine sl_ok ok_Hulls_isBetweenOthers [.iinc 4 1] (pc1 := 81) (ls1 := [some (.ref o0), some (.int x1), some (.int x2), some (.int x3), some (.int (x4 + 1))]) (st1 := []) (h1 := h) (P := True) (by decide +kernel) rfl trivial ?_
                refine q_goto (off := -66) (tgt := 15) (by decide) (by decide +kernel) ?_
                cases e
                exact k
              · have e := it_f c_11 e
                refine sl_ok ok_Hulls_isBetweenOthers [.iconst 1] (pc1 := 77) (ls1 := [some (.ref o0), some (.int x1), some (.int x2), some (.int x3), some (.int x4)]) (st1 := [.int 1]) (h1 := h) (P := True) (by decide +kernel) rfl trivial ?_
                cases e
                exact q_zret rfl (Or.inr rfl) k.1 k.2 (by decide +kernel)
def f_Hulls_isBetweenOthers_L1 (o0 : Nat) (x1 : Int32) (x2 : Int32) (h : pH) (x3 : Int32) : Option (Int32 ⊕ Int32) :=
  if (hI h o0 2) ≤ x3 then
    some (.inr 0)
  else
    lp (fun s => f_Hulls_isBetweenOthers_L2 o0 x1 x2 x3 h s) lpN (x3 + 1)
set_option maxHeartbeats 4000000 in
theorem b_Hulls_isBetweenOthers_L1 {E : pE} {r : Option Value} {hr : pH} {o0 : Nat} {x1 : Int32} {x2 : Int32} {h : pH} {x3 : Int32} (ho0 : ak o0 = 0 ∧ cx o0 = 0) {b : (Int32 ⊕ Int32)} (e : f_Hulls_isBetweenOthers_L1 o0 x1 x2 h x3 = some b) (k : (Sum.elim (fun s : Int32 => Go E M_Hulls_isBetweenOthers 2 [some (.ref o0), some (.int x1), some (.int x2), some (.int s), none] [] h r hr) (fun v : Int32 => r = some (.int v) ∧ hr = h)) b) : Go E M_Hulls_isBetweenOthers 2 [some (.ref o0), some (.int x1), some (.int x2), some (.int x3), none] [] h r hr := by
  unfold f_Hulls_isBetweenOthers_L1 at e
  refine sl_ok ok_Hulls_isBetweenOthers [.iload_n 3, .aload_n 0, .getfield 59] (pc1 := 7) (ls1 := [some (.ref o0), some (.int x1), some (.int x2), some (.int x3), none]) (st1 := [.int (hI h o0 2), .int x3]) (h1 := h) (P := (ak o0 = 0 ∧ cx o0 = 0) ∧ True) (by decide +kernel) rfl ⟨ho0, trivial⟩ ?_
  refine q_icmp_ge (off := 83) (tgt := 90) (by decide +kernel) (by decide) (fun c_1 => ?_) (fun c_1 => ?_)
  · have e := it_t c_1 e
    refine sl_ok ok_Hulls_isBetweenOthers [.iconst 0] (pc1 := 91) (ls1 := [some (.ref o0), some (.int x1), some (.int x2), some (.int x3), none]) (st1 := [.int 0]) (h1 := h) (P := True) (by decide +kernel) rfl trivial ?_
    cases e
    exact q_zret rfl (Or.inl rfl) k.1 k.2 (by decide +kernel)
  · have e := it_f c_1 e
    refine sl_ok ok_Hulls_isBetweenOthers [.iload_n 3, .iconst 1, .iadd, .istore 4] (pc1 := 15) (ls1 := [some (.ref o0), some (.int x1), some (.int x2), some (.int x3), some (.int (x3 + 1))]) (st1 := []) (h1 := h) (P := True) (by decide +kernel) rfl trivial ?_
    exact lp_in e (fun s => Go E M_Hulls_isBetweenOthers 15 [some (.ref o0), some (.int x1), some (.int x2), some (.int x3), some (.int s)] [] h r hr) (Sum.elim (fun s : Int32 => Go E M_Hulls_isBetweenOthers 2 [some (.ref o0), some (.int x1), some (.int x2), some (.int s), none] [] h r hr) (fun v : Int32 => r = some (.int v) ∧ hr = h)) (fun _ _ e k => b_Hulls_isBetweenOthers_L2 ho0 e k) k
def f_Hulls_isBetweenOthers (o0 : Nat) (x1 : Int32) (x2 : Int32) (h : pH) : Option Int32 :=
  lp (fun s => f_Hulls_isBetweenOthers_L1 o0 x1 x2 h s) lpN 0
set_option maxHeartbeats 4000000 in
theorem b_Hulls_isBetweenOthers {E : pE} {r : Option Value} {hr : pH} {o0 : Nat} {x1 : Int32} {x2 : Int32} {h : pH} (ho0 : ak o0 = 0 ∧ cx o0 = 0) {b : Int32} (e : f_Hulls_isBetweenOthers o0 x1 x2 h = some b) (k : (fun v : Int32 => r = some (.int v) ∧ hr = h) b) : Go E M_Hulls_isBetweenOthers 0 [some (.ref o0), some (.int x1), some (.int x2), none, none] [] h r hr := by
  unfold f_Hulls_isBetweenOthers at e
  refine sl_ok ok_Hulls_isBetweenOthers [.iconst 0, .istore_n 3] (pc1 := 2) (ls1 := [some (.ref o0), some (.int x1), some (.int x2), some (.int 0), none]) (st1 := []) (h1 := h) (P := True) (by decide +kernel) rfl trivial ?_
  exact lp_in e (fun s => Go E M_Hulls_isBetweenOthers 2 [some (.ref o0), some (.int x1), some (.int x2), some (.int s), none] [] h r hr) (fun v : Int32 => r = some (.int v) ∧ hr = h) (fun _ _ e k => b_Hulls_isBetweenOthers_L1 ho0 e k) k
theorem s_Hulls_isBetweenOthers {E : pE} {o0 : Nat} {x1 : Int32} {x2 : Int32} {h : pH} (ho0 : ak o0 = 0 ∧ cx o0 = 0) {v : Int32} (e : f_Hulls_isBetweenOthers o0 x1 x2 h = some v) : Ct E M_Hulls_isBetweenOthers [.ref o0, .int x1, .int x2] h (some (.int v)) h :=
  Ct_of ok_Hulls_isBetweenOthers [some (.ref o0), some (.int x1), some (.int x2), none, none] (Nat.le_of_ble_eq_true rfl) rfl (b_Hulls_isBetweenOthers ho0 e ⟨rfl, rfl⟩)
def f_Hulls_cornersOf_L1 (o0 : Nat) (x2 : Int32) (h : pH) (x3 : Int32) (x4 : Int32) : Option ((Int32 × Int32) ⊕ Int32) :=
  if (hI h o0 2) ≤ x4 then
    some (.inr x3)
  else
    if (f_C_bit x2 x4) = 1 then
      (f_Hulls_isBetweenOthers o0 x2 x4 h).bind fun v_3 =>
      if v_3 = 0 then
        some (.inl ((x3 ||| (jshl 1 x4)), (x4 + 1)))
      else
        some (.inl (x3, (x4 + 1)))
    else
      some (.inl (x3, (x4 + 1)))
set_option maxHeartbeats 4000000 in
theorem b_Hulls_cornersOf_L1 {E : pE} {r : Option Value} {hr : pH} {o0 : Nat} {x2 : Int32} {h : pH} {x3 : Int32} {x4 : Int32} (ho0 : ak o0 = 0 ∧ cx o0 = 0) {b : ((Int32 × Int32) ⊕ Int32)} (e : f_Hulls_cornersOf_L1 o0 x2 h x3 x4 = some b) (k : (Sum.elim (fun s : (Int32 × Int32) => Go E M_Hulls_cornersOf 11 [some (.ref o0), none, some (.int x2), some (.int s.1), some (.int s.2)] [] h r hr) (fun v : Int32 => r = some (.int v) ∧ hr = h)) b) : Go E M_Hulls_cornersOf 11 [some (.ref o0), none, some (.int x2), some (.int x3), some (.int x4)] [] h r hr := by
  unfold f_Hulls_cornersOf_L1 at e
  refine sl_ok ok_Hulls_cornersOf [.iload 4, .aload_n 0, .getfield 59] (pc1 := 17) (ls1 := [some (.ref o0), none, some (.int x2), some (.int x3), some (.int x4)]) (st1 := [.int (hI h o0 2), .int x4]) (h1 := h) (P := (ak o0 = 0 ∧ cx o0 = 0) ∧ True) (by decide +kernel) rfl ⟨ho0, trivial⟩ ?_
  refine q_icmp_ge (off := 36) (tgt := 53) (by decide +kernel) (by decide) (fun c_1 => ?_) (fun c_1 => ?_)
  · have e := it_t c_1 e
    refine sl_ok ok_Hulls_cornersOf [.iload_n 3] (pc1 := 54) (ls1 := [some (.ref o0), none, some (.int x2), some (.int x3), some (.int x4)]) (st1 := [.int x3]) (h1 := h) (P := True) (by decide +kernel) rfl trivial ?_
    cases e
    exact q_iret rfl k.1 k.2 (by decide +kernel)
  · have e := it_f c_1 e
    refine sl_ok ok_Hulls_cornersOf [.iload_n 2, .iload 4] (pc1 := 23) (ls1 := [some (.ref o0), none, some (.int x2), some (.int x3), some (.int x4)]) (st1 := [.int x4, .int x2]) (h1 := h) (P := True) (by decide +kernel) rfl trivial ?_
    refine q_callSN ok_C_bit (as := [.int x2, .int x4]) (st := []) ⟨(List.mem_of_getElem? (i := 13) rfl), wd_201, wd_48, ds_C_bit, Nat.le_of_ble_eq_true rfl, Nat.le_of_ble_eq_true rfl⟩ (s_C_bit ) rfl (fun v hv => by cases hv; rfl) (Nat.le_of_ble_eq_true rfl) (by decide +kernel) rfl ?_
    refine sl_ok ok_Hulls_cornersOf [.iconst 1] (pc1 := 27) (ls1 := [some (.ref o0), none, some (.int x2), some (.int x3), some (.int x4)]) (st1 := [.int 1, .int (f_C_bit x2 x4)]) (h1 := h) (P := True) (by decide +kernel) rfl trivial ?_
    refine q_icmp_ne (off := 20) (tgt := 47) (by decide +kernel) (by decide) (fun c_2 => ?_) (fun c_2 => ?_)
    · have e := it_f c_2 e
      refine sl_ok ok_Hulls_cornersOf [.iinc 4 1] (pc1 := 50) (ls1 := [some (.ref o0), none, some (.int x2), some (.int x3), some (.int (x4 + 1))]) (st1 := []) (h1 := h) (P := True) (by decide +kernel) rfl trivial ?_
      refine q_goto (off := -39) (tgt := 11) (by decide) (by decide +kernel) ?_
      cases e
      exact k
    · have e := it_t c_2 e
      refine sl_ok ok_Hulls_cornersOf [.aload_n 0, .iload_n 2, .iload 4] (pc1 := 34) (ls1 := [some (.ref o0), none, some (.int x2), some (.int x3), some (.int x4)]) (st1 := [.int x4, .int x2, .ref o0]) (h1 := h) (P := True) (by decide +kernel) rfl trivial ?_
      obtain ⟨v_3, e_4, e⟩ := bi_s e
      refine q_callS ok_Hulls_isBetweenOthers (as := [.ref o0, .int x2, .int x4]) (st := []) ⟨wd_227, wd_228, wd_207, ds_Hulls_isBetweenOthers, Nat.le_of_ble_eq_true rfl, Nat.le_of_ble_eq_true rfl⟩ (s_Hulls_isBetweenOthers ho0 e_4) rfl (fun v hv => by cases hv; rfl) (Nat.le_of_ble_eq_true rfl) (by decide +kernel) rfl ?_
      refine q_if_ne (off := 10) (tgt := 47) (by decide +kernel) (by decide) (fun c_5 => ?_) (fun c_5 => ?_)
      · have e := it_f c_5 e
        refine sl_ok ok_Hulls_cornersOf [.iinc 4 1] (pc1 := 50) (ls1 := [some (.ref o0), none, some (.int x2), some (.int x3), some (.int (x4 + 1))]) (st1 := []) (h1 := h) (P := True) (by decide +kernel) rfl trivial ?_
        refine q_goto (off := -39) (tgt := 11) (by decide) (by decide +kernel) ?_
        cases e
        exact k
      · have e := it_t c_5 e
        refine sl_ok ok_Hulls_cornersOf [.iload_n 3, .iconst 1, .iload 4, .ishl, .ior, .istore_n 3, .iinc 4 1] (pc1 := 50) (ls1 := [some (.ref o0), none, some (.int x2), some (.int (x3 ||| (jshl 1 x4))), some (.int (x4 + 1))]) (st1 := []) (h1 := h) (P := True) (by decide +kernel) rfl trivial ?_
        refine q_goto (off := -39) (tgt := 11) (by decide) (by decide +kernel) ?_
        cases e
        exact k
def f_Hulls_cornersOf (o0 : Nat) (x1 : Int32) (h : pH) : Option Int32 :=
  (f_Hulls_rimOf o0 x1 h).bind fun v_1 =>
  lp (fun s => f_Hulls_cornersOf_L1 o0 v_1 h s.1 s.2) lpN (0, 0)
set_option maxHeartbeats 4000000 in
theorem b_Hulls_cornersOf {E : pE} {r : Option Value} {hr : pH} {o0 : Nat} {x1 : Int32} {h : pH} (ho0 : ak o0 = 0 ∧ cx o0 = 0) {b : Int32} (e : f_Hulls_cornersOf o0 x1 h = some b) (k : (fun v : Int32 => r = some (.int v) ∧ hr = h) b) : Go E M_Hulls_cornersOf 0 [some (.ref o0), some (.int x1), none, none, none] [] h r hr := by
  unfold f_Hulls_cornersOf at e
  refine sl_ok ok_Hulls_cornersOf [.aload_n 0, .iload_n 1] (pc1 := 2) (ls1 := [some (.ref o0), some (.int x1), none, none, none]) (st1 := [.int x1, .ref o0]) (h1 := h) (P := True) (by decide +kernel) rfl trivial ?_
  obtain ⟨v_1, e_2, e⟩ := bi_s e
  refine q_callS ok_Hulls_rimOf (as := [.ref o0, .int x1]) (st := []) ⟨wd_211, wd_212, wd_207, ds_Hulls_rimOf, Nat.le_of_ble_eq_true rfl, Nat.le_of_ble_eq_true rfl⟩ (s_Hulls_rimOf ho0 e_2) rfl (fun v hv => by cases hv; rfl) (Nat.le_of_ble_eq_true rfl) (by decide +kernel) rfl ?_
  refine sl_ok ok_Hulls_cornersOf [.istore_n 2, .iconst 0, .istore_n 3, .iconst 0, .istore 4] (pc1 := 11) (ls1 := [some (.ref o0), some (.int x1), some (.int v_1), some (.int 0), some (.int 0)]) (st1 := []) (h1 := h) (P := True) (by decide +kernel) rfl trivial ?_
  refine Go.sb [some (.ref o0), none, some (.int v_1), some (.int 0), some (.int 0)] (And.intro rfl (And.intro rfl (And.intro rfl (And.intro rfl trivial)))) ?_
  exact lp_in e (fun s => Go E M_Hulls_cornersOf 11 [some (.ref o0), none, some (.int v_1), some (.int s.1), some (.int s.2)] [] h r hr) (fun v : Int32 => r = some (.int v) ∧ hr = h) (fun _ _ e k => b_Hulls_cornersOf_L1 ho0 e k) k
theorem s_Hulls_cornersOf {E : pE} {o0 : Nat} {x1 : Int32} {h : pH} (ho0 : ak o0 = 0 ∧ cx o0 = 0) {v : Int32} (e : f_Hulls_cornersOf o0 x1 h = some v) : Ct E M_Hulls_cornersOf [.ref o0, .int x1] h (some (.int v)) h :=
  Ct_of ok_Hulls_cornersOf [some (.ref o0), some (.int x1), none, none, none] (Nat.le_of_ble_eq_true rfl) rfl (b_Hulls_cornersOf ho0 e ⟨rfl, rfl⟩)
def f_Shapes_squareApart (o0 : Nat) (x1 : Int32) (x2 : Int32) (x3 : Int32) (h : pH) : Option Int32 :=
  if x1 < 0 ∨ 12 ≤ x1.toNatClampNeg then none else
  some ((((hI h (rf o0 0) x1.toNatClampNeg) - x2) * ((hI h (rf o0 0) x1.toNatClampNeg) - x2)) + (((hI h (rf o0 1) x1.toNatClampNeg) - x3) * ((hI h (rf o0 1) x1.toNatClampNeg) - x3)))
set_option maxHeartbeats 4000000 in
theorem b_Shapes_squareApart {E : pE} {r : Option Value} {hr : pH} {o0 : Nat} {x1 : Int32} {x2 : Int32} {x3 : Int32} {h : pH} (ho0 : ak o0 = 0 ∧ cx o0 = 0) {b : Int32} (e : f_Shapes_squareApart o0 x1 x2 x3 h = some b) (k : (fun v : Int32 => r = some (.int v) ∧ hr = h) b) : Go E M_Shapes_squareApart 0 [some (.ref o0), some (.int x1), some (.int x2), some (.int x3), none, none] [] h r hr := by
  unfold f_Shapes_squareApart at e
  obtain ⟨g_1, e⟩ := it_g e
  refine sl_ok ok_Shapes_squareApart [.aload_n 0, .getfield 40, .iload_n 1, .iaload, .iload_n 2, .isub, .istore 4, .aload_n 0, .getfield 44, .iload_n 1, .iaload, .iload_n 3, .isub, .istore 5, .iload 4, .iload 4, .imul, .iload 5, .iload 5, .imul, .iadd] (pc1 := 31) (ls1 := [some (.ref o0), some (.int x1), some (.int x2), some (.int x3), some (.int ((hI h (rf o0 0) x1.toNatClampNeg) - x2)), some (.int ((hI h (rf o0 1) x1.toNatClampNeg) - x3))]) (st1 := [.int ((((hI h (rf o0 0) x1.toNatClampNeg) - x2) * ((hI h (rf o0 0) x1.toNatClampNeg) - x2)) + (((hI h (rf o0 1) x1.toNatClampNeg) - x3) * ((hI h (rf o0 1) x1.toNatClampNeg) - x3)))]) (h1 := h) (P := (ak o0 = 0 ∧ cx o0 = 0) ∧ (ak (rf o0 0) = 1 ∧ ¬ (x1 < 0 ∨ cx (rf o0 0) ≤ x1.toNatClampNeg)) ∧ (ak o0 = 0 ∧ cx o0 = 0) ∧ (ak (rf o0 1) = 1 ∧ ¬ (x1 < 0 ∨ cx (rf o0 1) ≤ x1.toNatClampNeg)) ∧ True) (by decide +kernel) rfl ⟨ho0, ⟨(st_0_0 ho0).1, (by rw [(st_0_0 ho0).2]; exact g_1)⟩, ho0, ⟨(st_0_1 ho0).1, (by rw [(st_0_1 ho0).2]; exact g_1)⟩, trivial⟩ ?_
  cases e
  exact q_iret rfl k.1 k.2 (by decide +kernel)
theorem s_Shapes_squareApart {E : pE} {o0 : Nat} {x1 : Int32} {x2 : Int32} {x3 : Int32} {h : pH} (ho0 : ak o0 = 0 ∧ cx o0 = 0) {v : Int32} (e : f_Shapes_squareApart o0 x1 x2 x3 h = some v) : Ct E M_Shapes_squareApart [.ref o0, .int x1, .int x2, .int x3] h (some (.int v)) h :=
  Ct_of ok_Shapes_squareApart [some (.ref o0), some (.int x1), some (.int x2), some (.int x3), none, none] (Nat.le_of_ble_eq_true rfl) rfl (b_Shapes_squareApart ho0 e ⟨rfl, rfl⟩)
def f_Shapes_isNearest_L1 (o0 : Nat) (x1 : Int32) (x2 : Int32) (x3 : Int32) (x4 : Int32) (h : pH) (x5 : Int32) : Option (Int32 ⊕ Int32) :=
  if (hI h o0 2) ≤ x5 then
    some (.inr 1)
  else
    if x5 = x1 then
      some (.inl (x5 + 1))
    else
      (f_Shapes_squareApart o0 x5 x2 x3 h).bind fun v_3 =>
      if x4 < v_3 then
        some (.inl (x5 + 1))
      else
        some (.inr 0)
set_option maxHeartbeats 4000000 in
theorem b_Shapes_isNearest_L1 {E : pE} {r : Option Value} {hr : pH} {o0 : Nat} {x1 : Int32} {x2 : Int32} {x3 : Int32} {x4 : Int32} {h : pH} {x5 : Int32} (ho0 : ak o0 = 0 ∧ cx o0 = 0) {b : (Int32 ⊕ Int32)} (e : f_Shapes_isNearest_L1 o0 x1 x2 x3 x4 h x5 = some b) (k : (Sum.elim (fun s : Int32 => Go E M_Shapes_isNearest 12 [some (.ref o0), some (.int x1), some (.int x2), some (.int x3), some (.int x4), some (.int s)] [] h r hr) (fun v : Int32 => r = some (.int v) ∧ hr = h)) b) : Go E M_Shapes_isNearest 12 [some (.ref o0), some (.int x1), some (.int x2), some (.int x3), some (.int x4), some (.int x5)] [] h r hr := by
  unfold f_Shapes_isNearest_L1 at e
  refine sl_ok ok_Shapes_isNearest [.iload 5, .aload_n 0, .getfield 18] (pc1 := 18) (ls1 := [some (.ref o0), some (.int x1), some (.int x2), some (.int x3), some (.int x4), some (.int x5)]) (st1 := [.int (hI h o0 2), .int x5]) (h1 := h) (P := (ak o0 = 0 ∧ cx o0 = 0) ∧ True) (by decide +kernel) rfl ⟨ho0, trivial⟩ ?_
  refine q_icmp_ge (off := 30) (tgt := 48) (by decide +kernel) (by decide) (fun c_1 => ?_) (fun c_1 => ?_)
  · have e := it_t c_1 e
    refine sl_ok ok_Shapes_isNearest [.iconst 1] (pc1 := 49) (ls1 := [some (.ref o0), some (.int x1), some (.int x2), some (.int x3), some (.int x4), some (.int x5)]) (st1 := [.int 1]) (h1 := h) (P := True) (by decide +kernel) rfl trivial ?_
    cases e
    exact q_zret rfl (Or.inr rfl) k.1 k.2 (by decide +kernel)
  · have e := it_f c_1 e
    refine sl_ok ok_Shapes_isNearest [.iload 5, .iload_n 1] (pc1 := 24) (ls1 := [some (.ref o0), some (.int x1), some (.int x2), some (.int x3), some (.int x4), some (.int x5)]) (st1 := [.int x1, .int x5]) (h1 := h) (P := True) (by decide +kernel) rfl trivial ?_
    refine q_icmp_eq (off := 18) (tgt := 42) (by decide +kernel) (by decide) (fun c_2 => ?_) (fun c_2 => ?_)
    · have e := it_t c_2 e
      refine sl_ok ok_Shapes_isNearest [.iinc 5 1] (pc1 := 45) (ls1 := [some (.ref o0), some (.int x1), some (.int x2), some (.int x3), some (.int x4), some (.int (x5 + 1))]) (st1 := []) (h1 := h) (P := True) (by decide +kernel) rfl trivial ?_
      refine q_goto (off := -33) (tgt := 12) (by decide) (by decide +kernel) ?_
      cases e
      exact k
    · have e := it_f c_2 e
      refine sl_ok ok_Shapes_isNearest [.aload_n 0, .iload 5, .iload_n 2, .iload_n 3] (pc1 := 32) (ls1 := [some (.ref o0), some (.int x1), some (.int x2), some (.int x3), some (.int x4), some (.int x5)]) (st1 := [.int x3, .int x2, .int x5, .ref o0]) (h1 := h) (P := True) (by decide +kernel) rfl trivial ?_
      obtain ⟨v_3, e_4, e⟩ := bi_s e
      refine q_callS ok_Shapes_squareApart (as := [.ref o0, .int x5, .int x2, .int x3]) (st := []) ⟨wd_229, wd_230, wd_231, ds_Shapes_squareApart, Nat.le_of_ble_eq_true rfl, Nat.le_of_ble_eq_true rfl⟩ (s_Shapes_squareApart ho0 e_4) rfl (fun v hv => by cases hv; rfl) (Nat.le_of_ble_eq_true rfl) (by decide +kernel) rfl ?_
      refine sl_ok ok_Shapes_isNearest [.iload 4] (pc1 := 37) (ls1 := [some (.ref o0), some (.int x1), some (.int x2), some (.int x3), some (.int x4), some (.int x5)]) (st1 := [.int x4, .int v_3]) (h1 := h) (P := True) (by decide +kernel) rfl trivial ?_
      refine q_icmp_gt (off := 5) (tgt := 42) (by decide +kernel) (by decide) (fun c_5 => ?_) (fun c_5 => ?_)
      · have e := it_t c_5 e
        refine sl_ok ok_Shapes_isNearest [.iinc 5 1] (pc1 := 45) (ls1 := [some (.ref o0), some (.int x1), some (.int x2), some (.int x3), some (.int x4), some (.int (x5 + 1))]) (st1 := []) (h1 := h) (P := True) (by decide +kernel) rfl trivial ?_
        refine q_goto (off := -33) (tgt := 12) (by decide) (by decide +kernel) ?_
        cases e
        exact k
      · have e := it_f c_5 e
        refine sl_ok ok_Shapes_isNearest [.iconst 0] (pc1 := 41) (ls1 := [some (.ref o0), some (.int x1), some (.int x2), some (.int x3), some (.int x4), some (.int x5)]) (st1 := [.int 0]) (h1 := h) (P := True) (by decide +kernel) rfl trivial ?_
        cases e
        exact q_zret rfl (Or.inl rfl) k.1 k.2 (by decide +kernel)
def f_Shapes_isNearest (o0 : Nat) (x1 : Int32) (x2 : Int32) (x3 : Int32) (h : pH) : Option Int32 :=
  (f_Shapes_squareApart o0 x1 x2 x3 h).bind fun v_1 =>
  lp (fun s => f_Shapes_isNearest_L1 o0 x1 x2 x3 v_1 h s) lpN 0
set_option maxHeartbeats 4000000 in
theorem b_Shapes_isNearest {E : pE} {r : Option Value} {hr : pH} {o0 : Nat} {x1 : Int32} {x2 : Int32} {x3 : Int32} {h : pH} (ho0 : ak o0 = 0 ∧ cx o0 = 0) {b : Int32} (e : f_Shapes_isNearest o0 x1 x2 x3 h = some b) (k : (fun v : Int32 => r = some (.int v) ∧ hr = h) b) : Go E M_Shapes_isNearest 0 [some (.ref o0), some (.int x1), some (.int x2), some (.int x3), none, none] [] h r hr := by
  unfold f_Shapes_isNearest at e
  refine sl_ok ok_Shapes_isNearest [.aload_n 0, .iload_n 1, .iload_n 2, .iload_n 3] (pc1 := 4) (ls1 := [some (.ref o0), some (.int x1), some (.int x2), some (.int x3), none, none]) (st1 := [.int x3, .int x2, .int x1, .ref o0]) (h1 := h) (P := True) (by decide +kernel) rfl trivial ?_
  obtain ⟨v_1, e_2, e⟩ := bi_s e
  refine q_callS ok_Shapes_squareApart (as := [.ref o0, .int x1, .int x2, .int x3]) (st := []) ⟨wd_229, wd_230, wd_231, ds_Shapes_squareApart, Nat.le_of_ble_eq_true rfl, Nat.le_of_ble_eq_true rfl⟩ (s_Shapes_squareApart ho0 e_2) rfl (fun v hv => by cases hv; rfl) (Nat.le_of_ble_eq_true rfl) (by decide +kernel) rfl ?_
  refine sl_ok ok_Shapes_isNearest [.istore 4, .iconst 0, .istore 5] (pc1 := 12) (ls1 := [some (.ref o0), some (.int x1), some (.int x2), some (.int x3), some (.int v_1), some (.int 0)]) (st1 := []) (h1 := h) (P := True) (by decide +kernel) rfl trivial ?_
  exact lp_in e (fun s => Go E M_Shapes_isNearest 12 [some (.ref o0), some (.int x1), some (.int x2), some (.int x3), some (.int v_1), some (.int s)] [] h r hr) (fun v : Int32 => r = some (.int v) ∧ hr = h) (fun _ _ e k => b_Shapes_isNearest_L1 ho0 e k) k
theorem s_Shapes_isNearest {E : pE} {o0 : Nat} {x1 : Int32} {x2 : Int32} {x3 : Int32} {h : pH} (ho0 : ak o0 = 0 ∧ cx o0 = 0) {v : Int32} (e : f_Shapes_isNearest o0 x1 x2 x3 h = some v) : Ct E M_Shapes_isNearest [.ref o0, .int x1, .int x2, .int x3] h (some (.int v)) h :=
  Ct_of ok_Shapes_isNearest [some (.ref o0), some (.int x1), some (.int x2), some (.int x3), none, none] (Nat.le_of_ble_eq_true rfl) rfl (b_Shapes_isNearest ho0 e ⟨rfl, rfl⟩)
def f_Shapes_shareOf_L2 (o1 : Nat) (x2 : Int32) (x4 : Int32) (h : pH) (x3 : Int32) (x5 : Int32) : Option ((Int32 × Int32) ⊕ ((Int32 × Int32) ⊕ Int32)) :=
  if (hI h o1 3) < x5 then
    some (.inr (.inl (x3, (x4 + 1))))
  else
    (f_Shapes_isNearest o1 x2 x5 x4 h).bind fun v_2 =>
    if v_2 = 0 then
      some (.inl (x3, (x5 + 1)))
    else
      some (.inl ((x3 + 1), (x5 + 1)))
set_option maxHeartbeats 4000000 in
theorem b_Shapes_shareOf_L2 {E : pE} {r : Option Value} {hr : pH} {o1 : Nat} {x2 : Int32} {x4 : Int32} {h : pH} {x3 : Int32} {x5 : Int32} (ho1 : ak o1 = 0 ∧ cx o1 = 0) {b : ((Int32 × Int32) ⊕ ((Int32 × Int32) ⊕ Int32))} (e : f_Shapes_shareOf_L2 o1 x2 x4 h x3 x5 = some b) (k : (Sum.elim (fun s : (Int32 × Int32) => Go E M_Shapes_shareOf 25 [some (.ref 28), some (.ref o1), some (.int x2), some (.int s.1), some (.int x4), some (.int s.2)] [] h r hr) (Sum.elim (fun s : (Int32 × Int32) => Go E M_Shapes_shareOf 9 [some (.ref 28), some (.ref o1), some (.int x2), some (.int s.1), some (.int s.2), none] [] h r hr) (fun v : Int32 => r = some (.int v) ∧ hr = h))) b) : Go E M_Shapes_shareOf 25 [some (.ref 28), some (.ref o1), some (.int x2), some (.int x3), some (.int x4), some (.int x5)] [] h r hr := by
  unfold f_Shapes_shareOf_L2 at e
  refine sl_ok ok_Shapes_shareOf [.iload 5, .aload_n 1, .getfield 106] (pc1 := 31) (ls1 := [some (.ref 28), some (.ref o1), some (.int x2), some (.int x3), some (.int x4), some (.int x5)]) (st1 := [.int (hI h o1 3), .int x5]) (h1 := h) (P := (ak o1 = 0 ∧ cx o1 = 0) ∧ True) (by decide +kernel) rfl ⟨ho1, trivial⟩ ?_
  refine q_icmp_gt (off := 24) (tgt := 55) (by decide +kernel) (by decide) (fun c_1 => ?_) (fun c_1 => ?_)
  · have e := it_t c_1 e
    refine sl_ok ok_Shapes_shareOf [.iinc 4 1] (pc1 := 58) (ls1 := [some (.ref 28), some (.ref o1), some (.int x2), some (.int x3), some (.int (x4 + 1)), some (.int x5)]) (st1 := []) (h1 := h) (P := True) (by decide +kernel) rfl trivial ?_
    refine q_goto (off := -49) (tgt := 9) (by decide) (by decide +kernel) ?_
    cases e
    refine Go.sb [some (.ref 28), some (.ref o1), some (.int x2), some (.int x3), some (.int (x4 + 1)), none] (And.intro rfl (And.intro rfl (And.intro rfl (And.intro rfl (And.intro rfl trivial))))) ?_
    exact k
  · have e := it_f c_1 e
    refine sl_ok ok_Shapes_shareOf [.aload_n 1, .iload_n 2, .iload 5, .iload 4] (pc1 := 40) (ls1 := [some (.ref 28), some (.ref o1), some (.int x2), some (.int x3), some (.int x4), some (.int x5)]) (st1 := [.int x4, .int x5, .int x2, .ref o1]) (h1 := h) (P := True) (by decide +kernel) rfl trivial ?_
    obtain ⟨v_2, e_3, e⟩ := bi_s e
    refine q_callS ok_Shapes_isNearest (as := [.ref o1, .int x2, .int x5, .int x4]) (st := []) ⟨wd_232, wd_233, wd_231, ds_Shapes_isNearest, Nat.le_of_ble_eq_true rfl, Nat.le_of_ble_eq_true rfl⟩ (s_Shapes_isNearest ho1 e_3) rfl (fun v hv => by cases hv; rfl) (Nat.le_of_ble_eq_true rfl) (by decide +kernel) rfl ?_
    refine q_if_eq (off := 6) (tgt := 49) (by decide +kernel) (by decide) (fun c_4 => ?_) (fun c_4 => ?_)
    · have e := it_t c_4 e
      refine sl_ok ok_Shapes_shareOf [.iinc 5 1] (pc1 := 52) (ls1 := [some (.ref 28), some (.ref o1), some (.int x2), some (.int x3), some (.int x4), some (.int (x5 + 1))]) (st1 := []) (h1 := h) (P := True) (by decide +kernel) rfl trivial ?_
      refine q_goto (off := -27) (tgt := 25) (by decide) (by decide +kernel) ?_
      cases e
      exact k
    · have e := it_f c_4 e
      refine sl_ok ok_Shapes_shareOf [.iinc 3 1, .iinc 5 1] (pc1 := 52) (ls1 := [some (.ref 28), some (.ref o1), some (.int x2), some (.int (x3 + 1)), some (.int x4), some (.int (x5 + 1))]) (st1 := []) (h1 := h) (P := True) (by decide +kernel) rfl trivial ?_
      refine q_goto (off := -27) (tgt := 25) (by decide) (by decide +kernel) ?_
      cases e
      exact k
def f_Shapes_shareOf_L1 (o1 : Nat) (x2 : Int32) (h : pH) (x3 : Int32) (x4 : Int32) : Option ((Int32 × Int32) ⊕ Int32) :=
  if (hI h o1 3) < x4 then
    some (.inr x3)
  else
    lp (fun s => f_Shapes_shareOf_L2 o1 x2 x4 h s.1 s.2) lpN (x3, (-(hI h o1 3)))
set_option maxHeartbeats 4000000 in
theorem b_Shapes_shareOf_L1 {E : pE} {r : Option Value} {hr : pH} {o1 : Nat} {x2 : Int32} {h : pH} {x3 : Int32} {x4 : Int32} (ho1 : ak o1 = 0 ∧ cx o1 = 0) {b : ((Int32 × Int32) ⊕ Int32)} (e : f_Shapes_shareOf_L1 o1 x2 h x3 x4 = some b) (k : (Sum.elim (fun s : (Int32 × Int32) => Go E M_Shapes_shareOf 9 [some (.ref 28), some (.ref o1), some (.int x2), some (.int s.1), some (.int s.2), none] [] h r hr) (fun v : Int32 => r = some (.int v) ∧ hr = h)) b) : Go E M_Shapes_shareOf 9 [some (.ref 28), some (.ref o1), some (.int x2), some (.int x3), some (.int x4), none] [] h r hr := by
  unfold f_Shapes_shareOf_L1 at e
  refine sl_ok ok_Shapes_shareOf [.iload 4, .aload_n 1, .getfield 106] (pc1 := 15) (ls1 := [some (.ref 28), some (.ref o1), some (.int x2), some (.int x3), some (.int x4), none]) (st1 := [.int (hI h o1 3), .int x4]) (h1 := h) (P := (ak o1 = 0 ∧ cx o1 = 0) ∧ True) (by decide +kernel) rfl ⟨ho1, trivial⟩ ?_
  refine q_icmp_gt (off := 46) (tgt := 61) (by decide +kernel) (by decide) (fun c_1 => ?_) (fun c_1 => ?_)
  · have e := it_t c_1 e
    refine sl_ok ok_Shapes_shareOf [.iload_n 3] (pc1 := 62) (ls1 := [some (.ref 28), some (.ref o1), some (.int x2), some (.int x3), some (.int x4), none]) (st1 := [.int x3]) (h1 := h) (P := True) (by decide +kernel) rfl trivial ?_
    cases e
    exact q_iret rfl k.1 k.2 (by decide +kernel)
  · have e := it_f c_1 e
    refine sl_ok ok_Shapes_shareOf [.aload_n 1, .getfield 106, .ineg, .istore 5] (pc1 := 25) (ls1 := [some (.ref 28), some (.ref o1), some (.int x2), some (.int x3), some (.int x4), some (.int (-(hI h o1 3)))]) (st1 := []) (h1 := h) (P := (ak o1 = 0 ∧ cx o1 = 0) ∧ True) (by decide +kernel) rfl ⟨ho1, trivial⟩ ?_
    exact lp_in e (fun s => Go E M_Shapes_shareOf 25 [some (.ref 28), some (.ref o1), some (.int x2), some (.int s.1), some (.int x4), some (.int s.2)] [] h r hr) (Sum.elim (fun s : (Int32 × Int32) => Go E M_Shapes_shareOf 9 [some (.ref 28), some (.ref o1), some (.int x2), some (.int s.1), some (.int s.2), none] [] h r hr) (fun v : Int32 => r = some (.int v) ∧ hr = h)) (fun _ _ e k => b_Shapes_shareOf_L2 ho1 e k) k
def f_Shapes_shareOf (o1 : Nat) (x2 : Int32) (h : pH) : Option Int32 :=
  lp (fun s => f_Shapes_shareOf_L1 o1 x2 h s.1 s.2) lpN (0, (-(hI h o1 3)))
set_option maxHeartbeats 4000000 in
theorem b_Shapes_shareOf {E : pE} {r : Option Value} {hr : pH} {o1 : Nat} {x2 : Int32} {h : pH} (ho1 : ak o1 = 0 ∧ cx o1 = 0) {b : Int32} (e : f_Shapes_shareOf o1 x2 h = some b) (k : (fun v : Int32 => r = some (.int v) ∧ hr = h) b) : Go E M_Shapes_shareOf 0 [some (.ref 28), some (.ref o1), some (.int x2), none, none, none] [] h r hr := by
  unfold f_Shapes_shareOf at e
  refine sl_ok ok_Shapes_shareOf [.iconst 0, .istore_n 3, .aload_n 1, .getfield 106, .ineg, .istore 4] (pc1 := 9) (ls1 := [some (.ref 28), some (.ref o1), some (.int x2), some (.int 0), some (.int (-(hI h o1 3))), none]) (st1 := []) (h1 := h) (P := (ak o1 = 0 ∧ cx o1 = 0) ∧ True) (by decide +kernel) rfl ⟨ho1, trivial⟩ ?_
  exact lp_in e (fun s => Go E M_Shapes_shareOf 9 [some (.ref 28), some (.ref o1), some (.int x2), some (.int s.1), some (.int s.2), none] [] h r hr) (fun v : Int32 => r = some (.int v) ∧ hr = h) (fun _ _ e k => b_Shapes_shareOf_L1 ho1 e k) k
theorem s_Shapes_shareOf {E : pE} {o1 : Nat} {x2 : Int32} {h : pH} (ho1 : ak o1 = 0 ∧ cx o1 = 0) {v : Int32} (e : f_Shapes_shareOf o1 x2 h = some v) : Ct E M_Shapes_shareOf [.ref 28, .ref o1, .int x2] h (some (.int v)) h :=
  Ct_of ok_Shapes_shareOf [some (.ref 28), some (.ref o1), some (.int x2), none, none, none] (Nat.le_of_ble_eq_true rfl) rfl (b_Shapes_shareOf ho1 e ⟨rfl, rfl⟩)
