def f_C_halving_L2 (x1 : Int32) (x3 : Int32) (h : pH) (x2 : Int32) (x4 : Int32) : Option ((Int32 × Int32) ⊕ ((Int32 × Int32) ⊕ Int32)) :=
  if (hI h 8 2) ≤ x4 then
    some (.inr (.inl (x2, (x3 + 1))))
  else
    (f_Cloud_isHalved 8 x3 x4 (f_Cloud_everyone 8 h) h).bind fun v_2 =>
    if v_2 = 0 then
      some (.inl (x2, (x4 + 1)))
    else
      if x2 = x1 then
        some (.inr (.inr ((16 * x3) + x4)))
      else
        some (.inl ((x2 + 1), (x4 + 1)))
set_option maxHeartbeats 4000000 in
theorem b_C_halving_L2 {E : pE} {r : Option Value} {hr : pH} {x1 : Int32} {x3 : Int32} {h : pH} {x2 : Int32} {x4 : Int32}  {b : ((Int32 × Int32) ⊕ ((Int32 × Int32) ⊕ Int32))} (e : f_C_halving_L2 x1 x3 h x2 x4 = some b) (k : (Sum.elim (fun s : (Int32 × Int32) => Go E M_C_halving 20 [some (.ref 0), some (.int x1), some (.int s.1), some (.int x3), some (.int s.2)] [] h r hr) (Sum.elim (fun s : (Int32 × Int32) => Go E M_C_halving 4 [some (.ref 0), some (.int x1), some (.int s.1), some (.int s.2), none] [] h r hr) (fun v : Int32 => r = some (.int v) ∧ hr = h))) b) : Go E M_C_halving 20 [some (.ref 0), some (.int x1), some (.int x2), some (.int x3), some (.int x4)] [] h r hr := by
  unfold f_C_halving_L2 at e
  refine sl_ok ok_C_halving [.iload 4, .aload_n 0, .getfield 28, .getfield 120] (pc1 := 29) (ls1 := [some (.ref 0), some (.int x1), some (.int x2), some (.int x3), some (.int x4)]) (st1 := [.int (hI h 8 2), .int x4]) (h1 := h) (P := (ak 0 = 0 ∧ cx 0 = 11) ∧ (ak 8 = 0 ∧ cx 8 = 0) ∧ True) (by decide +kernel) rfl ⟨⟨rfl, rfl⟩, ⟨rfl, rfl⟩, trivial⟩ ?_
  refine q_icmp_ge (off := 45) (tgt := 74) (by decide +kernel) (by decide) (fun c_1 => ?_) (fun c_1 => ?_)
  · have e := it_t c_1 e
    refine sl_ok ok_C_halving [.iinc 3 1] (pc1 := 77) (ls1 := [some (.ref 0), some (.int x1), some (.int x2), some (.int (x3 + 1)), some (.int x4)]) (st1 := []) (h1 := h) (P := True) (by decide +kernel) rfl trivial ?_
    refine q_goto (off := -73) (tgt := 4) (by decide) (by decide +kernel) ?_
    cases e
    refine Go.sb [some (.ref 0), some (.int x1), some (.int x2), some (.int (x3 + 1)), none] (And.intro rfl (And.intro rfl (And.intro rfl (And.intro rfl trivial)))) ?_
    exact k
  · have e := it_f c_1 e
    refine sl_ok ok_C_halving [.aload_n 0, .getfield 28, .iload_n 3, .iload 4, .aload_n 0, .getfield 28] (pc1 := 43) (ls1 := [some (.ref 0), some (.int x1), some (.int x2), some (.int x3), some (.int x4)]) (st1 := [.ref 8, .int x4, .int x3, .ref 8]) (h1 := h) (P := (ak 0 = 0 ∧ cx 0 = 11) ∧ (ak 0 = 0 ∧ cx 0 = 11) ∧ True) (by decide +kernel) rfl ⟨⟨rfl, rfl⟩, ⟨rfl, rfl⟩, trivial⟩ ?_
    refine q_callV ok_Cloud_everyone (as := []) (st := [.int x4, .int x3, .ref 8]) ⟨wd_323, wd_209, wd_210, wd_14, ds_Cloud_everyone, Nat.le_of_ble_eq_true rfl, Nat.le_of_ble_eq_true rfl⟩ (s_Cloud_everyone ⟨rfl, rfl⟩) rfl ⟨rfl, rfl⟩ (ci := 0) rfl (fun v hv => by cases hv; rfl) (Nat.le_of_ble_eq_true rfl) (by decide +kernel) rfl ?_
    obtain ⟨v_2, e_3, e⟩ := bi_s e
    refine q_callV ok_Cloud_isHalved (as := [.int x3, .int x4, .int (f_Cloud_everyone 8 h)]) (st := []) ⟨wd_324, wd_325, wd_326, wd_14, ds_Cloud_isHalved, Nat.le_of_ble_eq_true rfl, Nat.le_of_ble_eq_true rfl⟩ (s_Cloud_isHalved ⟨rfl, rfl⟩ e_3) rfl ⟨rfl, rfl⟩ (ci := 0) rfl (fun v hv => by cases hv; rfl) (Nat.le_of_ble_eq_true rfl) (by decide +kernel) rfl ?_
    refine q_if_eq (off := 19) (tgt := 68) (by decide +kernel) (by decide) (fun c_4 => ?_) (fun c_4 => ?_)
    · have e := it_t c_4 e
      refine sl_ok ok_C_halving [.iinc 4 1] (pc1 := 71) (ls1 := [some (.ref 0), some (.int x1), some (.int x2), some (.int x3), some (.int (x4 + 1))]) (st1 := []) (h1 := h) (P := True) (by decide +kernel) rfl trivial ?_
      refine q_goto (off := -51) (tgt := 20) (by decide) (by decide +kernel) ?_
      cases e
      exact k
    · have e := it_f c_4 e
      refine sl_ok ok_C_halving [.iload_n 2, .iload_n 1] (pc1 := 54) (ls1 := [some (.ref 0), some (.int x1), some (.int x2), some (.int x3), some (.int x4)]) (st1 := [.int x1, .int x2]) (h1 := h) (P := True) (by decide +kernel) rfl trivial ?_
      refine q_icmp_ne (off := 11) (tgt := 65) (by decide +kernel) (by decide) (fun c_5 => ?_) (fun c_5 => ?_)
      · have e := it_f c_5 e
        refine sl_ok ok_C_halving [.iinc 2 1, .iinc 4 1] (pc1 := 71) (ls1 := [some (.ref 0), some (.int x1), some (.int (x2 + 1)), some (.int x3), some (.int (x4 + 1))]) (st1 := []) (h1 := h) (P := True) (by decide +kernel) rfl trivial ?_
        refine q_goto (off := -51) (tgt := 20) (by decide) (by decide +kernel) ?_
        cases e
        exact k
      · have e := it_t c_5 e
        refine sl_ok ok_C_halving [.bipush 16, .iload_n 3, .imul, .iload 4, .iadd] (pc1 := 64) (ls1 := [some (.ref 0), some (.int x1), some (.int x2), some (.int x3), some (.int x4)]) (st1 := [.int ((16 * x3) + x4)]) (h1 := h) (P := True) (by decide +kernel) rfl trivial ?_
        cases e
        exact q_iret rfl k.1 k.2 (by decide +kernel)
def f_C_halving_L1 (x1 : Int32) (h : pH) (x2 : Int32) (x3 : Int32) : Option ((Int32 × Int32) ⊕ Int32) :=
  if (hI h 8 2) ≤ x3 then
    if x1 = (-1) then
      some (.inr x2)
    else
      some (.inr (-1))
  else
    lp (fun s => f_C_halving_L2 x1 x3 h s.1 s.2) lpN (x2, (x3 + 1))
set_option maxHeartbeats 4000000 in
theorem b_C_halving_L1 {E : pE} {r : Option Value} {hr : pH} {x1 : Int32} {h : pH} {x2 : Int32} {x3 : Int32}  {b : ((Int32 × Int32) ⊕ Int32)} (e : f_C_halving_L1 x1 h x2 x3 = some b) (k : (Sum.elim (fun s : (Int32 × Int32) => Go E M_C_halving 4 [some (.ref 0), some (.int x1), some (.int s.1), some (.int s.2), none] [] h r hr) (fun v : Int32 => r = some (.int v) ∧ hr = h)) b) : Go E M_C_halving 4 [some (.ref 0), some (.int x1), some (.int x2), some (.int x3), none] [] h r hr := by
  unfold f_C_halving_L1 at e
  refine sl_ok ok_C_halving [.iload_n 3, .aload_n 0, .getfield 28, .getfield 120] (pc1 := 12) (ls1 := [some (.ref 0), some (.int x1), some (.int x2), some (.int x3), none]) (st1 := [.int (hI h 8 2), .int x3]) (h1 := h) (P := (ak 0 = 0 ∧ cx 0 = 11) ∧ (ak 8 = 0 ∧ cx 8 = 0) ∧ True) (by decide +kernel) rfl ⟨⟨rfl, rfl⟩, ⟨rfl, rfl⟩, trivial⟩ ?_
  refine q_icmp_ge (off := 68) (tgt := 80) (by decide +kernel) (by decide) (fun c_1 => ?_) (fun c_1 => ?_)
  · have e := it_t c_1 e
    refine sl_ok ok_C_halving [.iload_n 1, .iconst (-1)] (pc1 := 82) (ls1 := [some (.ref 0), some (.int x1), some (.int x2), some (.int x3), none]) (st1 := [.int (-1), .int x1]) (h1 := h) (P := True) (by decide +kernel) rfl trivial ?_
    refine q_icmp_ne (off := 7) (tgt := 89) (by decide +kernel) (by decide) (fun c_2 => ?_) (fun c_2 => ?_)
    · have e := it_f c_2 e
      refine sl_ok ok_C_halving [.iconst (-1)] (pc1 := 90) (ls1 := [some (.ref 0), some (.int x1), some (.int x2), some (.int x3), none]) (st1 := [.int (-1)]) (h1 := h) (P := True) (by decide +kernel) rfl trivial ?_
      cases e
      exact q_iret rfl k.1 k.2 (by decide +kernel)
    · have e := it_t c_2 e
      refine sl_ok ok_C_halving [.iload_n 2] (pc1 := 86) (ls1 := [some (.ref 0), some (.int x1), some (.int x2), some (.int x3), none]) (st1 := [.int x2]) (h1 := h) (P := True) (by decide +kernel) rfl trivial ?_
      refine q_goto (off := 4) (tgt := 90) (by decide) (by decide +kernel) ?_
      cases e
      exact q_iret rfl k.1 k.2 (by decide +kernel)
  · have e := it_f c_1 e
    refine sl_ok ok_C_halving [.iload_n 3, .iconst 1, .iadd, .istore 4] (pc1 := 20) (ls1 := [some (.ref 0), some (.int x1), some (.int x2), some (.int x3), some (.int (x3 + 1))]) (st1 := []) (h1 := h) (P := True) (by decide +kernel) rfl trivial ?_
    exact lp_in e (fun s => Go E M_C_halving 20 [some (.ref 0), some (.int x1), some (.int s.1), some (.int x3), some (.int s.2)] [] h r hr) (Sum.elim (fun s : (Int32 × Int32) => Go E M_C_halving 4 [some (.ref 0), some (.int x1), some (.int s.1), some (.int s.2), none] [] h r hr) (fun v : Int32 => r = some (.int v) ∧ hr = h)) (fun _ _ e k => b_C_halving_L2  e k) k
def f_C_halving (x1 : Int32) (h : pH) : Option Int32 :=
  lp (fun s => f_C_halving_L1 x1 h s.1 s.2) lpN (0, 0)
set_option maxHeartbeats 4000000 in
theorem b_C_halving {E : pE} {r : Option Value} {hr : pH} {x1 : Int32} {h : pH}  {b : Int32} (e : f_C_halving x1 h = some b) (k : (fun v : Int32 => r = some (.int v) ∧ hr = h) b) : Go E M_C_halving 0 [some (.ref 0), some (.int x1), none, none, none] [] h r hr := by
  unfold f_C_halving at e
  refine sl_ok ok_C_halving [.iconst 0, .istore_n 2, .iconst 0, .istore_n 3] (pc1 := 4) (ls1 := [some (.ref 0), some (.int x1), some (.int 0), some (.int 0), none]) (st1 := []) (h1 := h) (P := True) (by decide +kernel) rfl trivial ?_
  exact lp_in e (fun s => Go E M_C_halving 4 [some (.ref 0), some (.int x1), some (.int s.1), some (.int s.2), none] [] h r hr) (fun v : Int32 => r = some (.int v) ∧ hr = h) (fun _ _ e k => b_C_halving_L1  e k) k
theorem s_C_halving {E : pE} {x1 : Int32} {h : pH}  {v : Int32} (e : f_C_halving x1 h = some v) : Ct E M_C_halving [.ref 0, .int x1] h (some (.int v)) h :=
  Ct_of ok_C_halving [some (.ref 0), some (.int x1), none, none, none] (Nat.le_of_ble_eq_true rfl) rfl (b_C_halving  e ⟨rfl, rfl⟩)
def f_R_halves (x1 : Int32) (x2 : Int32) (x3 : Int32) (h : pH) : Option Int32 :=
  (f_R_bitsOf x3).bind fun v_1 =>
  (f_R_onSide x1 x2 (1 : Int32) x3 h).bind fun v_3 =>
  (f_R_bitsOf v_3).bind fun v_5 =>
  if v_1 < (2 * v_5) then
    some 0
  else
    (f_R_onSide x1 x2 ((-1) : Int32) x3 h).bind fun v_8 =>
    (f_R_bitsOf v_8).bind fun v_10 =>
    if v_1 < (2 * v_10) then
      some 0
    else
      some 1
set_option maxHeartbeats 4000000 in
theorem b_R_halves {E : pE} {r : Option Value} {hr : pH} {x1 : Int32} {x2 : Int32} {x3 : Int32} {h : pH}  {b : Int32} (e : f_R_halves x1 x2 x3 h = some b) (k : (fun v : Int32 => r = some (.int v) ∧ hr = h) b) : Go E M_R_halves 0 [some (.ref 79), some (.int x1), some (.int x2), some (.int x3), none] [] h r hr := by
  unfold f_R_halves at e
  refine sl_ok ok_R_halves [.iload_n 3] (pc1 := 1) (ls1 := [some (.ref 79), some (.int x1), some (.int x2), some (.int x3), none]) (st1 := [.int x3]) (h1 := h) (P := True) (by decide +kernel) rfl trivial ?_
  obtain ⟨v_1, e_2, e⟩ := bi_s e
  refine q_callS ok_R_bitsOf (as := [.int x3]) (st := []) ⟨wd_304, wd_305, wd_7, ds_R_bitsOf, Nat.le_of_ble_eq_true rfl, Nat.le_of_ble_eq_true rfl⟩ (s_R_bitsOf  e_2) rfl (fun v hv => by cases hv; rfl) (Nat.le_of_ble_eq_true rfl) (by decide +kernel) rfl ?_
  refine sl_ok ok_R_halves [.istore 4, .iconst 2, .aload_n 0, .iload_n 1, .iload_n 2, .iconst 1, .iload_n 3] (pc1 := 12) (ls1 := [some (.ref 79), some (.int x1), some (.int x2), some (.int x3), some (.int v_1)]) (st1 := [.int x3, .int 1, .int x2, .int x1, .ref 79, .int 2]) (h1 := h) (P := True) (by decide +kernel) rfl trivial ?_
  obtain ⟨v_3, e_4, e⟩ := bi_s e
  refine q_callV ok_R_onSide (as := [.int x1, .int x2, .int 1, .int x3]) (st := [.int 2]) ⟨wd_260, wd_261, wd_262, wd_7, ds_R_onSide, Nat.le_of_ble_eq_true rfl, Nat.le_of_ble_eq_true rfl⟩ (s_R_onSide  e_4) rfl ⟨rfl, rfl⟩ (ci := 12) rfl (fun v hv => by cases hv; rfl) (Nat.le_of_ble_eq_true rfl) (by decide +kernel) rfl ?_
  obtain ⟨v_5, e_6, e⟩ := bi_s e
  refine q_callS ok_R_bitsOf (as := [.int v_3]) (st := [.int 2]) ⟨wd_304, wd_305, wd_7, ds_R_bitsOf, Nat.le_of_ble_eq_true rfl, Nat.le_of_ble_eq_true rfl⟩ (s_R_bitsOf  e_6) rfl (fun v hv => by cases hv; rfl) (Nat.le_of_ble_eq_true rfl) (by decide +kernel) rfl ?_
  refine sl_ok ok_R_halves [.imul, .iload 4] (pc1 := 21) (ls1 := [some (.ref 79), some (.int x1), some (.int x2), some (.int x3), some (.int v_1)]) (st1 := [.int v_1, .int (2 * v_5)]) (h1 := h) (P := True) (by decide +kernel) rfl trivial ?_
  refine q_icmp_gt (off := 25) (tgt := 46) (by decide +kernel) (by decide) (fun c_7 => ?_) (fun c_7 => ?_)
  · have e := it_t c_7 e
    refine sl_ok ok_R_halves [.iconst 0] (pc1 := 47) (ls1 := [some (.ref 79), some (.int x1), some (.int x2), some (.int x3), some (.int v_1)]) (st1 := [.int 0]) (h1 := h) (P := True) (by decide +kernel) rfl trivial ?_
    cases e
    exact q_zret rfl (Or.inl rfl) k.1 k.2 (by decide +kernel)
  · have e := it_f c_7 e
    refine sl_ok ok_R_halves [.iconst 2, .aload_n 0, .iload_n 1, .iload_n 2, .iconst (-1), .iload_n 3] (pc1 := 30) (ls1 := [some (.ref 79), some (.int x1), some (.int x2), some (.int x3), some (.int v_1)]) (st1 := [.int x3, .int (-1), .int x2, .int x1, .ref 79, .int 2]) (h1 := h) (P := True) (by decide +kernel) rfl trivial ?_
    obtain ⟨v_8, e_9, e⟩ := bi_s e
    refine q_callV ok_R_onSide (as := [.int x1, .int x2, .int (-1), .int x3]) (st := [.int 2]) ⟨wd_260, wd_261, wd_262, wd_7, ds_R_onSide, Nat.le_of_ble_eq_true rfl, Nat.le_of_ble_eq_true rfl⟩ (s_R_onSide  e_9) rfl ⟨rfl, rfl⟩ (ci := 12) rfl (fun v hv => by cases hv; rfl) (Nat.le_of_ble_eq_true rfl) (by decide +kernel) rfl ?_
    obtain ⟨v_10, e_11, e⟩ := bi_s e
    refine q_callS ok_R_bitsOf (as := [.int v_8]) (st := [.int 2]) ⟨wd_304, wd_305, wd_7, ds_R_bitsOf, Nat.le_of_ble_eq_true rfl, Nat.le_of_ble_eq_true rfl⟩ (s_R_bitsOf  e_11) rfl (fun v hv => by cases hv; rfl) (Nat.le_of_ble_eq_true rfl) (by decide +kernel) rfl ?_
    refine sl_ok ok_R_halves [.imul, .iload 4] (pc1 := 39) (ls1 := [some (.ref 79), some (.int x1), some (.int x2), some (.int x3), some (.int v_1)]) (st1 := [.int v_1, .int (2 * v_10)]) (h1 := h) (P := True) (by decide +kernel) rfl trivial ?_
    refine q_icmp_gt (off := 7) (tgt := 46) (by decide +kernel) (by decide) (fun c_12 => ?_) (fun c_12 => ?_)
    · have e := it_t c_12 e
      refine sl_ok ok_R_halves [.iconst 0] (pc1 := 47) (ls1 := [some (.ref 79), some (.int x1), some (.int x2), some (.int x3), some (.int v_1)]) (st1 := [.int 0]) (h1 := h) (P := True) (by decide +kernel) rfl trivial ?_
      cases e
      exact q_zret rfl (Or.inl rfl) k.1 k.2 (by decide +kernel)
    · have e := it_f c_12 e
      refine sl_ok ok_R_halves [.iconst 1] (pc1 := 43) (ls1 := [some (.ref 79), some (.int x1), some (.int x2), some (.int x3), some (.int v_1)]) (st1 := [.int 1]) (h1 := h) (P := True) (by decide +kernel) rfl trivial ?_
      refine q_goto (off := 4) (tgt := 47) (by decide) (by decide +kernel) ?_
      cases e
      exact q_zret rfl (Or.inr rfl) k.1 k.2 (by decide +kernel)
theorem s_R_halves {E : pE} {x1 : Int32} {x2 : Int32} {x3 : Int32} {h : pH}  {v : Int32} (e : f_R_halves x1 x2 x3 h = some v) : Ct E M_R_halves [.ref 79, .int x1, .int x2, .int x3] h (some (.int v)) h :=
  Ct_of ok_R_halves [some (.ref 79), some (.int x1), some (.int x2), some (.int x3), none] (Nat.le_of_ble_eq_true rfl) rfl (b_R_halves  e ⟨rfl, rfl⟩)
def f_R_halving_L2 (x1 : Int32) (x3 : Int32) (h : pH) (x2 : Int32) (x4 : Int32) : Option ((Int32 × Int32) ⊕ ((Int32 × Int32) ⊕ Int32)) :=
  if (f_R_all h) ≤ x4 then
    some (.inr (.inl (x2, (x3 + 1))))
  else
    (f_R_halves x3 x4 (f_R_full h) h).bind fun v_2 =>
    if v_2 = 0 then
      some (.inl (x2, (x4 + 1)))
    else
      if x2 = x1 then
        some (.inr (.inr ((16 * x3) + x4)))
      else
        some (.inl ((x2 + 1), (x4 + 1)))
set_option maxHeartbeats 4000000 in
theorem b_R_halving_L2 {E : pE} {r : Option Value} {hr : pH} {x1 : Int32} {x3 : Int32} {h : pH} {x2 : Int32} {x4 : Int32}  {b : ((Int32 × Int32) ⊕ ((Int32 × Int32) ⊕ Int32))} (e : f_R_halving_L2 x1 x3 h x2 x4 = some b) (k : (Sum.elim (fun s : (Int32 × Int32) => Go E M_R_halving 17 [some (.ref 79), some (.int x1), some (.int s.1), some (.int x3), some (.int s.2)] [] h r hr) (Sum.elim (fun s : (Int32 × Int32) => Go E M_R_halving 4 [some (.ref 79), some (.int x1), some (.int s.1), some (.int s.2), none] [] h r hr) (fun v : Int32 => r = some (.int v) ∧ hr = h))) b) : Go E M_R_halving 17 [some (.ref 79), some (.int x1), some (.int x2), some (.int x3), some (.int x4)] [] h r hr := by
  unfold f_R_halving_L2 at e
  refine sl_ok ok_R_halving [.iload 4, .aload_n 0] (pc1 := 20) (ls1 := [some (.ref 79), some (.int x1), some (.int x2), some (.int x3), some (.int x4)]) (st1 := [.ref 79, .int x4]) (h1 := h) (P := True) (by decide +kernel) rfl trivial ?_
  refine q_callV ok_R_all (as := []) (st := [.int x4]) ⟨wd_151, wd_152, wd_153, wd_7, ds_R_all, Nat.le_of_ble_eq_true rfl, Nat.le_of_ble_eq_true rfl⟩ (s_R_all ) rfl ⟨rfl, rfl⟩ (ci := 12) rfl (fun v hv => by cases hv; rfl) (Nat.le_of_ble_eq_true rfl) (by decide +kernel) rfl ?_
  refine q_icmp_ge (off := 42) (tgt := 65) (by decide +kernel) (by decide) (fun c_1 => ?_) (fun c_1 => ?_)
  · have e := it_t c_1 e
    refine sl_ok ok_R_halving [.iinc 3 1] (pc1 := 68) (ls1 := [some (.ref 79), some (.int x1), some (.int x2), some (.int (x3 + 1)), some (.int x4)]) (st1 := []) (h1 := h) (P := True) (by decide +kernel) rfl trivial ?_
    refine q_goto (off := -64) (tgt := 4) (by decide) (by decide +kernel) ?_
    cases e
    refine Go.sb [some (.ref 79), some (.int x1), some (.int x2), some (.int (x3 + 1)), none] (And.intro rfl (And.intro rfl (And.intro rfl (And.intro rfl trivial)))) ?_
    exact k
  · have e := it_f c_1 e
    refine sl_ok ok_R_halving [.aload_n 0, .iload_n 3, .iload 4, .aload_n 0] (pc1 := 31) (ls1 := [some (.ref 79), some (.int x1), some (.int x2), some (.int x3), some (.int x4)]) (st1 := [.ref 79, .int x4, .int x3, .ref 79]) (h1 := h) (P := True) (by decide +kernel) rfl trivial ?_
    refine q_callV ok_R_full (as := []) (st := [.int x4, .int x3, .ref 79]) ⟨wd_266, wd_267, wd_268, wd_7, ds_R_full, Nat.le_of_ble_eq_true rfl, Nat.le_of_ble_eq_true rfl⟩ (s_R_full ) rfl ⟨rfl, rfl⟩ (ci := 12) rfl (fun v hv => by cases hv; rfl) (Nat.le_of_ble_eq_true rfl) (by decide +kernel) rfl ?_
    obtain ⟨v_2, e_3, e⟩ := bi_s e
    refine q_callV ok_R_halves (as := [.int x3, .int x4, .int (f_R_full h)]) (st := []) ⟨wd_327, wd_328, wd_329, wd_7, ds_R_halves, Nat.le_of_ble_eq_true rfl, Nat.le_of_ble_eq_true rfl⟩ (s_R_halves  e_3) rfl ⟨rfl, rfl⟩ (ci := 12) rfl (fun v hv => by cases hv; rfl) (Nat.le_of_ble_eq_true rfl) (by decide +kernel) rfl ?_
    refine q_if_ne (off := 6) (tgt := 43) (by decide +kernel) (by decide) (fun c_4 => ?_) (fun c_4 => ?_)
    · have e := it_f c_4 e
      refine sl_ok ok_R_halving [.iload_n 2, .iload_n 1] (pc1 := 45) (ls1 := [some (.ref 79), some (.int x1), some (.int x2), some (.int x3), some (.int x4)]) (st1 := [.int x1, .int x2]) (h1 := h) (P := True) (by decide +kernel) rfl trivial ?_
      refine q_icmp_ne (off := 11) (tgt := 56) (by decide +kernel) (by decide) (fun c_5 => ?_) (fun c_5 => ?_)
      · have e := it_f c_5 e
        refine sl_ok ok_R_halving [.iinc 2 1, .iinc 4 1] (pc1 := 62) (ls1 := [some (.ref 79), some (.int x1), some (.int (x2 + 1)), some (.int x3), some (.int (x4 + 1))]) (st1 := []) (h1 := h) (P := True) (by decide +kernel) rfl trivial ?_
        refine q_goto (off := -45) (tgt := 17) (by decide) (by decide +kernel) ?_
        cases e
        exact k
      · have e := it_t c_5 e
        refine sl_ok ok_R_halving [.bipush 16, .iload_n 3, .imul, .iload 4, .iadd] (pc1 := 55) (ls1 := [some (.ref 79), some (.int x1), some (.int x2), some (.int x3), some (.int x4)]) (st1 := [.int ((16 * x3) + x4)]) (h1 := h) (P := True) (by decide +kernel) rfl trivial ?_
        cases e
        exact q_iret rfl k.1 k.2 (by decide +kernel)
    · have e := it_t c_4 e
      refine q_goto (off := 19) (tgt := 59) (by decide) (by decide +kernel) ?_
      refine sl_ok ok_R_halving [.iinc 4 1] (pc1 := 62) (ls1 := [some (.ref 79), some (.int x1), some (.int x2), some (.int x3), some (.int (x4 + 1))]) (st1 := []) (h1 := h) (P := True) (by decide +kernel) rfl trivial ?_
      refine q_goto (off := -45) (tgt := 17) (by decide) (by decide +kernel) ?_
      cases e
      exact k
def f_R_halving_L1 (x1 : Int32) (h : pH) (x2 : Int32) (x3 : Int32) : Option ((Int32 × Int32) ⊕ Int32) :=
  if (f_R_all h) ≤ x3 then
    if x1 = (-1) then
      some (.inr x2)
    else
      some (.inr (-1))
  else
    lp (fun s => f_R_halving_L2 x1 x3 h s.1 s.2) lpN (x2, (x3 + 1))
set_option maxHeartbeats 4000000 in
theorem b_R_halving_L1 {E : pE} {r : Option Value} {hr : pH} {x1 : Int32} {h : pH} {x2 : Int32} {x3 : Int32}  {b : ((Int32 × Int32) ⊕ Int32)} (e : f_R_halving_L1 x1 h x2 x3 = some b) (k : (Sum.elim (fun s : (Int32 × Int32) => Go E M_R_halving 4 [some (.ref 79), some (.int x1), some (.int s.1), some (.int s.2), none] [] h r hr) (fun v : Int32 => r = some (.int v) ∧ hr = h)) b) : Go E M_R_halving 4 [some (.ref 79), some (.int x1), some (.int x2), some (.int x3), none] [] h r hr := by
  unfold f_R_halving_L1 at e
  refine sl_ok ok_R_halving [.iload_n 3, .aload_n 0] (pc1 := 6) (ls1 := [some (.ref 79), some (.int x1), some (.int x2), some (.int x3), none]) (st1 := [.ref 79, .int x3]) (h1 := h) (P := True) (by decide +kernel) rfl trivial ?_
  refine q_callV ok_R_all (as := []) (st := [.int x3]) ⟨wd_151, wd_152, wd_153, wd_7, ds_R_all, Nat.le_of_ble_eq_true rfl, Nat.le_of_ble_eq_true rfl⟩ (s_R_all ) rfl ⟨rfl, rfl⟩ (ci := 12) rfl (fun v hv => by cases hv; rfl) (Nat.le_of_ble_eq_true rfl) (by decide +kernel) rfl ?_
  refine q_icmp_ge (off := 62) (tgt := 71) (by decide +kernel) (by decide) (fun c_1 => ?_) (fun c_1 => ?_)
  · have e := it_t c_1 e
    refine sl_ok ok_R_halving [.iload_n 1, .iconst (-1)] (pc1 := 73) (ls1 := [some (.ref 79), some (.int x1), some (.int x2), some (.int x3), none]) (st1 := [.int (-1), .int x1]) (h1 := h) (P := True) (by decide +kernel) rfl trivial ?_
    refine q_icmp_ne (off := 7) (tgt := 80) (by decide +kernel) (by decide) (fun c_2 => ?_) (fun c_2 => ?_)
    · have e := it_f c_2 e
      refine sl_ok ok_R_halving [.iconst (-1)] (pc1 := 81) (ls1 := [some (.ref 79), some (.int x1), some (.int x2), some (.int x3), none]) (st1 := [.int (-1)]) (h1 := h) (P := True) (by decide +kernel) rfl trivial ?_
      cases e
      exact q_iret rfl k.1 k.2 (by decide +kernel)
    · have e := it_t c_2 e
      refine sl_ok ok_R_halving [.iload_n 2] (pc1 := 77) (ls1 := [some (.ref 79), some (.int x1), some (.int x2), some (.int x3), none]) (st1 := [.int x2]) (h1 := h) (P := True) (by decide +kernel) rfl trivial ?_
      refine q_goto (off := 4) (tgt := 81) (by decide) (by decide +kernel) ?_
      cases e
      exact q_iret rfl k.1 k.2 (by decide +kernel)
  · have e := it_f c_1 e
    refine sl_ok ok_R_halving [.iload_n 3, .iconst 1, .iadd, .istore 4] (pc1 := 17) (ls1 := [some (.ref 79), some (.int x1), some (.int x2), some (.int x3), some (.int (x3 + 1))]) (st1 := []) (h1 := h) (P := True) (by decide +kernel) rfl trivial ?_
    exact lp_in e (fun s => Go E M_R_halving 17 [some (.ref 79), some (.int x1), some (.int s.1), some (.int x3), some (.int s.2)] [] h r hr) (Sum.elim (fun s : (Int32 × Int32) => Go E M_R_halving 4 [some (.ref 79), some (.int x1), some (.int s.1), some (.int s.2), none] [] h r hr) (fun v : Int32 => r = some (.int v) ∧ hr = h)) (fun _ _ e k => b_R_halving_L2  e k) k
def f_R_halving (x1 : Int32) (h : pH) : Option Int32 :=
  lp (fun s => f_R_halving_L1 x1 h s.1 s.2) lpN (0, 0)
set_option maxHeartbeats 4000000 in
theorem b_R_halving {E : pE} {r : Option Value} {hr : pH} {x1 : Int32} {h : pH}  {b : Int32} (e : f_R_halving x1 h = some b) (k : (fun v : Int32 => r = some (.int v) ∧ hr = h) b) : Go E M_R_halving 0 [some (.ref 79), some (.int x1), none, none, none] [] h r hr := by
  unfold f_R_halving at e
  refine sl_ok ok_R_halving [.iconst 0, .istore_n 2, .iconst 0, .istore_n 3] (pc1 := 4) (ls1 := [some (.ref 79), some (.int x1), some (.int 0), some (.int 0), none]) (st1 := []) (h1 := h) (P := True) (by decide +kernel) rfl trivial ?_
  exact lp_in e (fun s => Go E M_R_halving 4 [some (.ref 79), some (.int x1), some (.int s.1), some (.int s.2), none] [] h r hr) (fun v : Int32 => r = some (.int v) ∧ hr = h) (fun _ _ e k => b_R_halving_L1  e k) k
theorem s_R_halving {E : pE} {x1 : Int32} {h : pH}  {v : Int32} (e : f_R_halving x1 h = some v) : Ct E M_R_halving [.ref 79, .int x1] h (some (.int v)) h :=
  Ct_of ok_R_halving [some (.ref 79), some (.int x1), none, none, none] (Nat.le_of_ble_eq_true rfl) rfl (b_R_halving  e ⟨rfl, rfl⟩)
def f_J_fill_L1 (o0 : Nat) (x1 : Int32) (x3 : Int32) (x2 : Int32) (h : pH) : Option ((Int32 × pH) ⊕ pH) :=
  if x3 ≤ x2 then
    some (.inr h)
  else
    if x2 < 0 ∨ (cx o0) ≤ x2.toNatClampNeg then none else
    some (.inl ((x2 + 1), (sI h o0 x2.toNatClampNeg x1)))
set_option maxHeartbeats 4000000 in
theorem b_J_fill_L1 {E : pE} {r : Option Value} {hr : pH} {o0 : Nat} {x1 : Int32} {x3 : Int32} {x2 : Int32} {h : pH} (ho0 : ak o0 = 1) {b : ((Int32 × pH) ⊕ pH)} (e : f_J_fill_L1 o0 x1 x3 x2 h = some b) (k : (Sum.elim (fun s : (Int32 × pH) => Go E M_J_fill 5 [some (.ref o0), some (.int x1), some (.int s.1), some (.int x3)] [] s.2 r hr) (fun v : pH => r = none ∧ hr = v)) b) : Go E M_J_fill 5 [some (.ref o0), some (.int x1), some (.int x2), some (.int x3)] [] h r hr := by
  unfold f_J_fill_L1 at e
  refine sl_ok ok_J_fill [.iload_n 2, .iload_n 3] (pc1 := 7) (ls1 := [some (.ref o0), some (.int x1), some (.int x2), some (.int x3)]) (st1 := [.int x3, .int x2]) (h1 := h) (P := True) (by decide +kernel) rfl trivial ?_
  refine q_icmp_ge (off := 13) (tgt := 20) (by decide +kernel) (by decide) (fun c_1 => ?_) (fun c_1 => ?_)
  · have e := it_t c_1 e
    cases e
    exact q_vret rfl k.1 k.2 (by decide +kernel)
  · have e := it_f c_1 e
    obtain ⟨g_2, e⟩ := it_g e
    refine sl_ok ok_J_fill [.aload_n 0, .iload_n 2, .iload_n 1, .iastore, .iinc 2 1] (pc1 := 17) (ls1 := [some (.ref o0), some (.int x1), some (.int (x2 + 1)), some (.int x3)]) (st1 := []) (h1 := (sI h o0 x2.toNatClampNeg x1)) (P := (ak o0 = 1 ∧ ¬ (x2 < 0 ∨ cx o0 ≤ x2.toNatClampNeg)) ∧ True) (by decide +kernel) rfl ⟨⟨(ho0), g_2⟩, trivial⟩ ?_
    refine q_goto (off := -12) (tgt := 5) (by decide) (by decide +kernel) ?_
    cases e
    exact k
def f_J_fill (o0 : Nat) (x1 : Int32) (h : pH) : Option pH :=
  lp (fun s => f_J_fill_L1 o0 x1 (Int32.ofNat (cx o0)) s.1 s.2) lpN (0, h)
set_option maxHeartbeats 4000000 in
theorem b_J_fill {E : pE} {r : Option Value} {hr : pH} {o0 : Nat} {x1 : Int32} {h : pH} (ho0 : ak o0 = 1) {b : pH} (e : f_J_fill o0 x1 h = some b) (k : (fun v : pH => r = none ∧ hr = v) b) : Go E M_J_fill 0 [some (.ref o0), some (.int x1), none, none] [] h r hr := by
  unfold f_J_fill at e
  refine sl_ok ok_J_fill [.iconst 0, .istore_n 2, .aload_n 0, .arraylength, .istore_n 3] (pc1 := 5) (ls1 := [some (.ref o0), some (.int x1), some (.int 0), some (.int (Int32.ofNat (cx o0)))]) (st1 := []) (h1 := h) (P := (ak o0 = 1 ∨ ak o0 = 5) ∧ True) (by decide +kernel) rfl ⟨Or.inl (ho0), trivial⟩ ?_
  exact lp_in e (fun s => Go E M_J_fill 5 [some (.ref o0), some (.int x1), some (.int s.1), some (.int (Int32.ofNat (cx o0)))] [] s.2 r hr) (fun v : pH => r = none ∧ hr = v) (fun _ _ e k => b_J_fill_L1 (ho0) e k) k
theorem s_J_fill {E : pE} {o0 : Nat} {x1 : Int32} {h : pH} (ho0 : ak o0 = 1) {v : pH} (e : f_J_fill o0 x1 h = some v) : Ct E M_J_fill [.ref o0, .int x1] h none v :=
  Ct_of ok_J_fill [some (.ref o0), some (.int x1), none, none] (Nat.le_of_ble_eq_true rfl) rfl (b_J_fill ho0 e ⟨rfl, rfl⟩)
def f_SetMarks_clear (o0 : Nat) (h : pH) : Option pH :=
  (f_J_fill (rf o0 0) (0 : Int32) h).bind fun v_1 =>
  some v_1
set_option maxHeartbeats 4000000 in
theorem b_SetMarks_clear {E : pE} {r : Option Value} {hr : pH} {o0 : Nat} {h : pH} (ho0 : ak o0 = 0 ∧ cx o0 = 6) {b : pH} (e : f_SetMarks_clear o0 h = some b) (k : (fun v : pH => r = none ∧ hr = v) b) : Go E M_SetMarks_clear 0 [some (.ref o0)] [] h r hr := by
  unfold f_SetMarks_clear at e
  refine sl_ok ok_SetMarks_clear [.aload_n 0, .getfield 7, .iconst 0] (pc1 := 5) (ls1 := [some (.ref o0)]) (st1 := [.int 0, .ref (rf o0 0)]) (h1 := h) (P := (ak o0 = 0 ∧ cx o0 = 6) ∧ True) (by decide +kernel) rfl ⟨ho0, trivial⟩ ?_
  obtain ⟨v_1, e_2, e⟩ := bi_s e
  refine q_callS ok_J_fill (as := [.ref (rf o0 0), .int 0]) (st := []) ⟨wd_330, wd_331, wd_332, ds_J_fill, Nat.le_of_ble_eq_true rfl, Nat.le_of_ble_eq_true rfl⟩ (s_J_fill (st_6_0 ho0).1 e_2) rfl (fun v hv => by cases hv) (Nat.le_of_ble_eq_true rfl) (by decide +kernel) rfl ?_
  cases e
  exact q_vret rfl k.1 k.2 (by decide +kernel)
theorem s_SetMarks_clear {E : pE} {o0 : Nat} {h : pH} (ho0 : ak o0 = 0 ∧ cx o0 = 6) {v : pH} (e : f_SetMarks_clear o0 h = some v) : Ct E M_SetMarks_clear [.ref o0] h none v :=
  Ct_of ok_SetMarks_clear [some (.ref o0)] (Nat.le_of_ble_eq_true rfl) rfl (b_SetMarks_clear ho0 e ⟨rfl, rfl⟩)
def f_SetMarks_mark (o0 : Nat) (x1 : Int32) (h : pH) : Option pH :=
  if ((jshr x1 5) &&& 127) < 0 ∨ 128 ≤ ((jshr x1 5) &&& 127).toNatClampNeg then none else
  some (sI h (rf o0 0) ((jshr x1 5) &&& 127).toNatClampNeg ((hI h (rf o0 0) ((jshr x1 5) &&& 127).toNatClampNeg) ||| (jshl 1 (x1 &&& 31))))
set_option maxHeartbeats 4000000 in
theorem b_SetMarks_mark {E : pE} {r : Option Value} {hr : pH} {o0 : Nat} {x1 : Int32} {h : pH} (ho0 : ak o0 = 0 ∧ cx o0 = 6) {b : pH} (e : f_SetMarks_mark o0 x1 h = some b) (k : (fun v : pH => r = none ∧ hr = v) b) : Go E M_SetMarks_mark 0 [some (.ref o0), some (.int x1)] [] h r hr := by
  unfold f_SetMarks_mark at e
  obtain ⟨g_1, e⟩ := it_g e
  refine sl_ok ok_SetMarks_mark [.aload_n 0, .getfield 7, .iload_n 1, .iconst 5, .ishr, .bipush 127, .iand, .dup2, .iaload, .iconst 1, .iload_n 1, .bipush 31, .iand, .ishl, .ior, .iastore] (pc1 := 20) (ls1 := [some (.ref o0), some (.int x1)]) (st1 := []) (h1 := (sI h (rf o0 0) ((jshr x1 5) &&& 127).toNatClampNeg ((hI h (rf o0 0) ((jshr x1 5) &&& 127).toNatClampNeg) ||| (jshl 1 (x1 &&& 31))))) (P := (ak o0 = 0 ∧ cx o0 = 6) ∧ (ak (rf o0 0) = 1 ∧ ¬ (((jshr x1 5) &&& 127) < 0 ∨ cx (rf o0 0) ≤ ((jshr x1 5) &&& 127).toNatClampNeg)) ∧ (ak (rf o0 0) = 1 ∧ ¬ (((jshr x1 5) &&& 127) < 0 ∨ cx (rf o0 0) ≤ ((jshr x1 5) &&& 127).toNatClampNeg)) ∧ True) (by decide +kernel) rfl ⟨ho0, ⟨(st_6_0 ho0).1, (by rw [(st_6_0 ho0).2]; exact g_1)⟩, ⟨(st_6_0 ho0).1, (by rw [(st_6_0 ho0).2]; exact g_1)⟩, trivial⟩ ?_
  cases e
  exact q_vret rfl k.1 k.2 (by decide +kernel)
theorem s_SetMarks_mark {E : pE} {o0 : Nat} {x1 : Int32} {h : pH} (ho0 : ak o0 = 0 ∧ cx o0 = 6) {v : pH} (e : f_SetMarks_mark o0 x1 h = some v) : Ct E M_SetMarks_mark [.ref o0, .int x1] h none v :=
  Ct_of ok_SetMarks_mark [some (.ref o0), some (.int x1)] (Nat.le_of_ble_eq_true rfl) rfl (b_SetMarks_mark ho0 e ⟨rfl, rfl⟩)
def f_Cuts_markBoth (x1 : Int32) (x2 : Int32) (x3 : Int32) (x4 : Int32) (h : pH) : Option pH :=
  (f_SetMarks_mark 22 (x1 ||| x4) h).bind fun v_1 =>
  (f_SetMarks_mark 22 (x1 ||| (x3 &&& (x4 ^^^ (-1)))) v_1).bind fun v_3 =>
  (f_SetMarks_mark 22 (x2 ||| x4) v_3).bind fun v_5 =>
  (f_SetMarks_mark 22 (x2 ||| (x3 &&& (x4 ^^^ (-1)))) v_5).bind fun v_7 =>
  some v_7
set_option maxHeartbeats 4000000 in
theorem b_Cuts_markBoth {E : pE} {r : Option Value} {hr : pH} {x1 : Int32} {x2 : Int32} {x3 : Int32} {x4 : Int32} {h : pH}  {b : pH} (e : f_Cuts_markBoth x1 x2 x3 x4 h = some b) (k : (fun v : pH => r = none ∧ hr = v) b) : Go E M_Cuts_markBoth 0 [some (.ref 21), some (.int x1), some (.int x2), some (.int x3), some (.int x4), none] [] h r hr := by
  unfold f_Cuts_markBoth at e
  refine sl_ok ok_Cuts_markBoth [.iload_n 3, .iload 4, .iconst (-1), .ixor, .iand, .istore 5, .aload_n 0, .getfield 12, .iload_n 1, .iload 4, .ior] (pc1 := 16) (ls1 := [some (.ref 21), some (.int x1), some (.int x2), some (.int x3), some (.int x4), some (.int (x3 &&& (x4 ^^^ (-1))))]) (st1 := [.int (x1 ||| x4), .ref 22]) (h1 := h) (P := (ak 21 = 0 ∧ cx 21 = 1) ∧ True) (by decide +kernel) rfl ⟨⟨rfl, rfl⟩, trivial⟩ ?_
  obtain ⟨v_1, e_2, e⟩ := bi_s e
  refine q_callV ok_SetMarks_mark (as := [.int (x1 ||| x4)]) (st := []) ⟨wd_333, wd_334, wd_335, wd_336, ds_SetMarks_mark, Nat.le_of_ble_eq_true rfl, Nat.le_of_ble_eq_true rfl⟩ (s_SetMarks_mark ⟨rfl, rfl⟩ e_2) rfl ⟨rfl, rfl⟩ (ci := 6) rfl (fun v hv => by cases hv) (Nat.le_of_ble_eq_true rfl) (by decide +kernel) rfl ?_
  refine sl_ok ok_Cuts_markBoth [.aload_n 0, .getfield 12, .iload_n 1, .iload 5, .ior] (pc1 := 27) (ls1 := [some (.ref 21), some (.int x1), some (.int x2), some (.int x3), some (.int x4), some (.int (x3 &&& (x4 ^^^ (-1))))]) (st1 := [.int (x1 ||| (x3 &&& (x4 ^^^ (-1)))), .ref 22]) (h1 := v_1) (P := (ak 21 = 0 ∧ cx 21 = 1) ∧ True) (by decide +kernel) rfl ⟨⟨rfl, rfl⟩, trivial⟩ ?_
  obtain ⟨v_3, e_4, e⟩ := bi_s e
  refine q_callV ok_SetMarks_mark (as := [.int (x1 ||| (x3 &&& (x4 ^^^ (-1))))]) (st := []) ⟨wd_333, wd_334, wd_335, wd_336, ds_SetMarks_mark, Nat.le_of_ble_eq_true rfl, Nat.le_of_ble_eq_true rfl⟩ (s_SetMarks_mark ⟨rfl, rfl⟩ e_4) rfl ⟨rfl, rfl⟩ (ci := 6) rfl (fun v hv => by cases hv) (Nat.le_of_ble_eq_true rfl) (by decide +kernel) rfl ?_
  refine sl_ok ok_Cuts_markBoth [.aload_n 0, .getfield 12, .iload_n 2, .iload 4, .ior] (pc1 := 38) (ls1 := [some (.ref 21), some (.int x1), some (.int x2), some (.int x3), some (.int x4), some (.int (x3 &&& (x4 ^^^ (-1))))]) (st1 := [.int (x2 ||| x4), .ref 22]) (h1 := v_3) (P := (ak 21 = 0 ∧ cx 21 = 1) ∧ True) (by decide +kernel) rfl ⟨⟨rfl, rfl⟩, trivial⟩ ?_
  obtain ⟨v_5, e_6, e⟩ := bi_s e
  refine q_callV ok_SetMarks_mark (as := [.int (x2 ||| x4)]) (st := []) ⟨wd_333, wd_334, wd_335, wd_336, ds_SetMarks_mark, Nat.le_of_ble_eq_true rfl, Nat.le_of_ble_eq_true rfl⟩ (s_SetMarks_mark ⟨rfl, rfl⟩ e_6) rfl ⟨rfl, rfl⟩ (ci := 6) rfl (fun v hv => by cases hv) (Nat.le_of_ble_eq_true rfl) (by decide +kernel) rfl ?_
  refine sl_ok ok_Cuts_markBoth [.aload_n 0, .getfield 12, .iload_n 2, .iload 5, .ior] (pc1 := 49) (ls1 := [some (.ref 21), some (.int x1), some (.int x2), some (.int x3), some (.int x4), some (.int (x3 &&& (x4 ^^^ (-1))))]) (st1 := [.int (x2 ||| (x3 &&& (x4 ^^^ (-1)))), .ref 22]) (h1 := v_5) (P := (ak 21 = 0 ∧ cx 21 = 1) ∧ True) (by decide +kernel) rfl ⟨⟨rfl, rfl⟩, trivial⟩ ?_
  obtain ⟨v_7, e_8, e⟩ := bi_s e
  refine q_callV ok_SetMarks_mark (as := [.int (x2 ||| (x3 &&& (x4 ^^^ (-1))))]) (st := []) ⟨wd_333, wd_334, wd_335, wd_336, ds_SetMarks_mark, Nat.le_of_ble_eq_true rfl, Nat.le_of_ble_eq_true rfl⟩ (s_SetMarks_mark ⟨rfl, rfl⟩ e_8) rfl ⟨rfl, rfl⟩ (ci := 6) rfl (fun v hv => by cases hv) (Nat.le_of_ble_eq_true rfl) (by decide +kernel) rfl ?_
  cases e
  exact q_vret rfl k.1 k.2 (by decide +kernel)
theorem s_Cuts_markBoth {E : pE} {x1 : Int32} {x2 : Int32} {x3 : Int32} {x4 : Int32} {h : pH}  {v : pH} (e : f_Cuts_markBoth x1 x2 x3 x4 h = some v) : Ct E M_Cuts_markBoth [.ref 21, .int x1, .int x2, .int x3, .int x4] h none v :=
  Ct_of ok_Cuts_markBoth [some (.ref 21), some (.int x1), some (.int x2), some (.int x3), some (.int x4), none] (Nat.le_of_ble_eq_true rfl) rfl (b_Cuts_markBoth  e ⟨rfl, rfl⟩)
def f_Cuts_upTo_L1 (o0 : Nat) (x1 : Int32) (x2 : Int32) (x4 : Int32) (h : pH) (x5 : Int32) (x6 : Int32) : Option ((Int32 × Int32) ⊕ Int32) :=
  if (hI h o0 2) ≤ x6 then
    some (.inr x5)
  else
    (f_Cloud_wayAlong o0 x1 x2 x6 h).bind fun v_2 =>
    if x4 < v_2 then
      some (.inl (x5, (x6 + 1)))
    else
      some (.inl ((x5 ||| (jshl 1 x6)), (x6 + 1)))
set_option maxHeartbeats 4000000 in
theorem b_Cuts_upTo_L1 {E : pE} {r : Option Value} {hr : pH} {o0 : Nat} {x1 : Int32} {x2 : Int32} {x4 : Int32} {h : pH} {x5 : Int32} {x6 : Int32} (ho0 : ak o0 = 0 ∧ cx o0 = 0) {b : ((Int32 × Int32) ⊕ Int32)} (e : f_Cuts_upTo_L1 o0 x1 x2 x4 h x5 x6 = some b) (k : (Sum.elim (fun s : (Int32 × Int32) => Go E M_Cuts_upTo 15 [some (.ref o0), some (.int x1), some (.int x2), none, some (.int x4), some (.int s.1), some (.int s.2)] [] h r hr) (fun v : Int32 => r = some (.int v) ∧ hr = h)) b) : Go E M_Cuts_upTo 15 [some (.ref o0), some (.int x1), some (.int x2), none, some (.int x4), some (.int x5), some (.int x6)] [] h r hr := by
  unfold f_Cuts_upTo_L1 at e
  refine sl_ok ok_Cuts_upTo [.iload 6, .aload_n 0, .getfield 36] (pc1 := 21) (ls1 := [some (.ref o0), some (.int x1), some (.int x2), none, some (.int x4), some (.int x5), some (.int x6)]) (st1 := [.int (hI h o0 2), .int x6]) (h1 := h) (P := (ak o0 = 0 ∧ cx o0 = 0) ∧ True) (by decide +kernel) rfl ⟨ho0, trivial⟩ ?_
  refine q_icmp_ge (off := 31) (tgt := 52) (by decide +kernel) (by decide) (fun c_1 => ?_) (fun c_1 => ?_)
  · have e := it_t c_1 e
    refine sl_ok ok_Cuts_upTo [.iload 5] (pc1 := 54) (ls1 := [some (.ref o0), some (.int x1), some (.int x2), none, some (.int x4), some (.int x5), some (.int x6)]) (st1 := [.int x5]) (h1 := h) (P := True) (by decide +kernel) rfl trivial ?_
    cases e
    exact q_iret rfl k.1 k.2 (by decide +kernel)
  · have e := it_f c_1 e
    refine sl_ok ok_Cuts_upTo [.aload_n 0, .iload_n 1, .iload_n 2, .iload 6] (pc1 := 29) (ls1 := [some (.ref o0), some (.int x1), some (.int x2), none, some (.int x4), some (.int x5), some (.int x6)]) (st1 := [.int x6, .int x2, .int x1, .ref o0]) (h1 := h) (P := True) (by decide +kernel) rfl trivial ?_
    obtain ⟨v_2, e_3, e⟩ := bi_s e
    refine q_callV ok_Cloud_wayAlong (as := [.int x1, .int x2, .int x6]) (st := []) ⟨wd_337, wd_225, wd_226, wd_14, ds_Cloud_wayAlong, Nat.le_of_ble_eq_true rfl, Nat.le_of_ble_eq_true rfl⟩ (s_Cloud_wayAlong ho0 e_3) rfl ho0 (ci := 0) rfl (fun v hv => by cases hv; rfl) (Nat.le_of_ble_eq_true rfl) (by decide +kernel) rfl ?_
    refine sl_ok ok_Cuts_upTo [.iload 4] (pc1 := 34) (ls1 := [some (.ref o0), some (.int x1), some (.int x2), none, some (.int x4), some (.int x5), some (.int x6)]) (st1 := [.int x4, .int v_2]) (h1 := h) (P := True) (by decide +kernel) rfl trivial ?_
    refine q_icmp_gt (off := 12) (tgt := 46) (by decide +kernel) (by decide) (fun c_4 => ?_) (fun c_4 => ?_)
    · have e := it_t c_4 e
      refine sl_ok ok_Cuts_upTo [.iinc 6 1] (pc1 := 49) (ls1 := [some (.ref o0), some (.int x1), some (.int x2), none, some (.int x4), some (.int x5), some (.int (x6 + 1))]) (st1 := []) (h1 := h) (P := True) (by decide +kernel) rfl trivial ?_
      refine q_goto (off := -34) (tgt := 15) (by decide) (by decide +kernel) ?_
      cases e
      exact k
    · have e := it_f c_4 e
      refine sl_ok ok_Cuts_upTo [.iload 5, .iconst 1, .iload 6, .ishl, .ior, .istore 5, .iinc 6 1] (pc1 := 49) (ls1 := [some (.ref o0), some (.int x1), some (.int x2), none, some (.int x4), some (.int (x5 ||| (jshl 1 x6))), some (.int (x6 + 1))]) (st1 := []) (h1 := h) (P := True) (by decide +kernel) rfl trivial ?_
      refine q_goto (off := -34) (tgt := 15) (by decide) (by decide +kernel) ?_
      cases e
      exact k
def f_Cuts_upTo (o0 : Nat) (x1 : Int32) (x2 : Int32) (x3 : Int32) (h : pH) : Option Int32 :=
  (f_Cloud_wayAlong o0 x1 x2 x3 h).bind fun v_1 =>
  lp (fun s => f_Cuts_upTo_L1 o0 x1 x2 v_1 h s.1 s.2) lpN (0, 0)
set_option maxHeartbeats 4000000 in
theorem b_Cuts_upTo {E : pE} {r : Option Value} {hr : pH} {o0 : Nat} {x1 : Int32} {x2 : Int32} {x3 : Int32} {h : pH} (ho0 : ak o0 = 0 ∧ cx o0 = 0) {b : Int32} (e : f_Cuts_upTo o0 x1 x2 x3 h = some b) (k : (fun v : Int32 => r = some (.int v) ∧ hr = h) b) : Go E M_Cuts_upTo 0 [some (.ref o0), some (.int x1), some (.int x2), some (.int x3), none, none, none] [] h r hr := by
  unfold f_Cuts_upTo at e
  refine sl_ok ok_Cuts_upTo [.aload_n 0, .iload_n 1, .iload_n 2, .iload_n 3] (pc1 := 4) (ls1 := [some (.ref o0), some (.int x1), some (.int x2), some (.int x3), none, none, none]) (st1 := [.int x3, .int x2, .int x1, .ref o0]) (h1 := h) (P := True) (by decide +kernel) rfl trivial ?_
  obtain ⟨v_1, e_2, e⟩ := bi_s e
  refine q_callV ok_Cloud_wayAlong (as := [.int x1, .int x2, .int x3]) (st := []) ⟨wd_337, wd_225, wd_226, wd_14, ds_Cloud_wayAlong, Nat.le_of_ble_eq_true rfl, Nat.le_of_ble_eq_true rfl⟩ (s_Cloud_wayAlong ho0 e_2) rfl ho0 (ci := 0) rfl (fun v hv => by cases hv; rfl) (Nat.le_of_ble_eq_true rfl) (by decide +kernel) rfl ?_
  refine sl_ok ok_Cuts_upTo [.istore 4, .iconst 0, .istore 5, .iconst 0, .istore 6] (pc1 := 15) (ls1 := [some (.ref o0), some (.int x1), some (.int x2), some (.int x3), some (.int v_1), some (.int 0), some (.int 0)]) (st1 := []) (h1 := h) (P := True) (by decide +kernel) rfl trivial ?_
  refine Go.sb [some (.ref o0), some (.int x1), some (.int x2), none, some (.int v_1), some (.int 0), some (.int 0)] (And.intro rfl (And.intro rfl (And.intro rfl (And.intro rfl (And.intro rfl (And.intro rfl trivial)))))) ?_
  exact lp_in e (fun s => Go E M_Cuts_upTo 15 [some (.ref o0), some (.int x1), some (.int x2), none, some (.int v_1), some (.int s.1), some (.int s.2)] [] h r hr) (fun v : Int32 => r = some (.int v) ∧ hr = h) (fun _ _ e k => b_Cuts_upTo_L1 ho0 e k) k
theorem s_Cuts_upTo {E : pE} {o0 : Nat} {x1 : Int32} {x2 : Int32} {x3 : Int32} {h : pH} (ho0 : ak o0 = 0 ∧ cx o0 = 0) {v : Int32} (e : f_Cuts_upTo o0 x1 x2 x3 h = some v) : Ct E M_Cuts_upTo [.ref o0, .int x1, .int x2, .int x3] h (some (.int v)) h :=
  Ct_of ok_Cuts_upTo [some (.ref o0), some (.int x1), some (.int x2), some (.int x3), none, none, none] (Nat.le_of_ble_eq_true rfl) rfl (b_Cuts_upTo ho0 e ⟨rfl, rfl⟩)
def f_Cuts_cutAlong_L1 (o1 : Nat) (x2 : Int32) (x3 : Int32) (x4 : Int32) (x5 : Int32) (x6 : Int32) (x7 : Int32) (h : pH) : Option ((Int32 × pH) ⊕ pH) :=
  if (hI h o1 2) ≤ x7 then
    some (.inr h)
  else
    if (f_C_bit x6 x7) = 1 then
      (f_Cuts_upTo o1 x2 x3 x7 h).bind fun v_3 =>
      (f_Cuts_markBoth x4 x5 x6 (v_3 &&& x6) h).bind fun v_5 =>
      some (.inl ((x7 + 1), v_5))
    else
      some (.inl ((x7 + 1), h))
set_option maxHeartbeats 4000000 in
theorem b_Cuts_cutAlong_L1 {E : pE} {r : Option Value} {hr : pH} {o1 : Nat} {x2 : Int32} {x3 : Int32} {x4 : Int32} {x5 : Int32} {x6 : Int32} {x7 : Int32} {h : pH} (ho1 : ak o1 = 0 ∧ cx o1 = 0) {b : ((Int32 × pH) ⊕ pH)} (e : f_Cuts_cutAlong_L1 o1 x2 x3 x4 x5 x6 x7 h = some b) (k : (Sum.elim (fun s : (Int32 × pH) => Go E M_Cuts_cutAlong 49 [some (.ref 21), some (.ref o1), some (.int x2), some (.int x3), some (.int x4), some (.int x5), some (.int x6), some (.int s.1)] [] s.2 r hr) (fun v : pH => r = none ∧ hr = v)) b) : Go E M_Cuts_cutAlong 49 [some (.ref 21), some (.ref o1), some (.int x2), some (.int x3), some (.int x4), some (.int x5), some (.int x6), some (.int x7)] [] h r hr := by
  unfold f_Cuts_cutAlong_L1 at e
  refine sl_ok ok_Cuts_cutAlong [.iload 7, .aload_n 1, .getfield 36] (pc1 := 55) (ls1 := [some (.ref 21), some (.ref o1), some (.int x2), some (.int x3), some (.int x4), some (.int x5), some (.int x6), some (.int x7)]) (st1 := [.int (hI h o1 2), .int x7]) (h1 := h) (P := (ak o1 = 0 ∧ cx o1 = 0) ∧ True) (by decide +kernel) rfl ⟨ho1, trivial⟩ ?_
  refine q_icmp_ge (off := 41) (tgt := 96) (by decide +kernel) (by decide) (fun c_1 => ?_) (fun c_1 => ?_)
  · have e := it_t c_1 e
    cases e
    exact q_vret rfl k.1 k.2 (by decide +kernel)
  · have e := it_f c_1 e
    refine sl_ok ok_Cuts_cutAlong [.iload 6, .iload 7] (pc1 := 62) (ls1 := [some (.ref 21), some (.ref o1), some (.int x2), some (.int x3), some (.int x4), some (.int x5), some (.int x6), some (.int x7)]) (st1 := [.int x7, .int x6]) (h1 := h) (P := True) (by decide +kernel) rfl trivial ?_
    refine q_callSN ok_C_bit (as := [.int x6, .int x7]) (st := []) ⟨(List.mem_of_getElem? (i := 15) rfl), wd_201, wd_48, ds_C_bit, Nat.le_of_ble_eq_true rfl, Nat.le_of_ble_eq_true rfl⟩ (s_C_bit ) rfl (fun v hv => by cases hv; rfl) (Nat.le_of_ble_eq_true rfl) (by decide +kernel) rfl ?_
    refine sl_ok ok_Cuts_cutAlong [.iconst 1] (pc1 := 66) (ls1 := [some (.ref 21), some (.ref o1), some (.int x2), some (.int x3), some (.int x4), some (.int x5), some (.int x6), some (.int x7)]) (st1 := [.int 1, .int (f_C_bit x6 x7)]) (h1 := h) (P := True) (by decide +kernel) rfl trivial ?_
    refine q_icmp_ne (off := 24) (tgt := 90) (by decide +kernel) (by decide) (fun c_2 => ?_) (fun c_2 => ?_)
    · have e := it_f c_2 e
      refine sl_ok ok_Cuts_cutAlong [.iinc 7 1] (pc1 := 93) (ls1 := [some (.ref 21), some (.ref o1), some (.int x2), some (.int x3), some (.int x4), some (.int x5), some (.int x6), some (.int (x7 + 1))]) (st1 := []) (h1 := h) (P := True) (by decide +kernel) rfl trivial ?_
      refine q_goto (off := -44) (tgt := 49) (by decide) (by decide +kernel) ?_
      cases e
      exact k
    · have e := it_t c_2 e
      refine sl_ok ok_Cuts_cutAlong [.aload_n 0, .iload 4, .iload 5, .iload 6, .aload_n 1, .iload_n 2, .iload_n 3, .iload 7] (pc1 := 81) (ls1 := [some (.ref 21), some (.ref o1), some (.int x2), some (.int x3), some (.int x4), some (.int x5), some (.int x6), some (.int x7)]) (st1 := [.int x7, .int x3, .int x2, .ref o1, .int x6, .int x5, .int x4, .ref 21]) (h1 := h) (P := True) (by decide +kernel) rfl trivial ?_
      obtain ⟨v_3, e_4, e⟩ := bi_s e
      refine q_callS ok_Cuts_upTo (as := [.ref o1, .int x2, .int x3, .int x7]) (st := [.int x6, .int x5, .int x4, .ref 21]) ⟨wd_343, wd_344, wd_342, ds_Cuts_upTo, Nat.le_of_ble_eq_true rfl, Nat.le_of_ble_eq_true rfl⟩ (s_Cuts_upTo ho1 e_4) rfl (fun v hv => by cases hv; rfl) (Nat.le_of_ble_eq_true rfl) (by decide +kernel) rfl ?_
      refine sl_ok ok_Cuts_cutAlong [.iload 6, .iand] (pc1 := 87) (ls1 := [some (.ref 21), some (.ref o1), some (.int x2), some (.int x3), some (.int x4), some (.int x5), some (.int x6), some (.int x7)]) (st1 := [.int (v_3 &&& x6), .int x6, .int x5, .int x4, .ref 21]) (h1 := h) (P := True) (by decide +kernel) rfl trivial ?_
      obtain ⟨v_5, e_6, e⟩ := bi_s e
      refine q_callV ok_Cuts_markBoth (as := [.int x4, .int x5, .int x6, .int (v_3 &&& x6)]) (st := []) ⟨wd_339, wd_340, wd_341, wd_342, ds_Cuts_markBoth, Nat.le_of_ble_eq_true rfl, Nat.le_of_ble_eq_true rfl⟩ (s_Cuts_markBoth  e_6) rfl ⟨rfl, rfl⟩ (ci := 1) rfl (fun v hv => by cases hv) (Nat.le_of_ble_eq_true rfl) (by decide +kernel) rfl ?_
      refine sl_ok ok_Cuts_cutAlong [.iinc 7 1] (pc1 := 93) (ls1 := [some (.ref 21), some (.ref o1), some (.int x2), some (.int x3), some (.int x4), some (.int x5), some (.int x6), some (.int (x7 + 1))]) (st1 := []) (h1 := v_5) (P := True) (by decide +kernel) rfl trivial ?_
      refine q_goto (off := -44) (tgt := 49) (by decide) (by decide +kernel) ?_
      cases e
      exact k
def f_Cuts_cutAlong (o1 : Nat) (x2 : Int32) (x3 : Int32) (h : pH) : Option pH :=
  (f_Cloud_sideBits o1 x2 x3 (1 : Int32) h).bind fun v_1 =>
  (f_Cloud_sideBits o1 x2 x3 ((-1) : Int32) h).bind fun v_3 =>
  (f_Cloud_sideBits o1 x2 x3 (0 : Int32) h).bind fun v_5 =>
  (f_Cuts_markBoth v_1 v_3 ((v_5 ||| (jshl 1 x2)) ||| (jshl 1 x3)) (0 : Int32) h).bind fun v_7 =>
  lp (fun s => f_Cuts_cutAlong_L1 o1 x2 x3 v_1 v_3 ((v_5 ||| (jshl 1 x2)) ||| (jshl 1 x3)) s.1 s.2) lpN (0, v_7)
set_option maxHeartbeats 4000000 in
theorem b_Cuts_cutAlong {E : pE} {r : Option Value} {hr : pH} {o1 : Nat} {x2 : Int32} {x3 : Int32} {h : pH} (ho1 : ak o1 = 0 ∧ cx o1 = 0) {b : pH} (e : f_Cuts_cutAlong o1 x2 x3 h = some b) (k : (fun v : pH => r = none ∧ hr = v) b) : Go E M_Cuts_cutAlong 0 [some (.ref 21), some (.ref o1), some (.int x2), some (.int x3), none, none, none, none] [] h r hr := by
  unfold f_Cuts_cutAlong at e
  refine sl_ok ok_Cuts_cutAlong [.aload_n 1, .iload_n 2, .iload_n 3, .iconst 1] (pc1 := 4) (ls1 := [some (.ref 21), some (.ref o1), some (.int x2), some (.int x3), none, none, none, none]) (st1 := [.int 1, .int x3, .int x2, .ref o1]) (h1 := h) (P := True) (by decide +kernel) rfl trivial ?_
  obtain ⟨v_1, e_2, e⟩ := bi_s e
  refine q_callV ok_Cloud_sideBits (as := [.int x2, .int x3, .int 1]) (st := []) ⟨wd_338, wd_203, wd_204, wd_14, ds_Cloud_sideBits, Nat.le_of_ble_eq_true rfl, Nat.le_of_ble_eq_true rfl⟩ (s_Cloud_sideBits ho1 e_2) rfl ho1 (ci := 0) rfl (fun v hv => by cases hv; rfl) (Nat.le_of_ble_eq_true rfl) (by decide +kernel) rfl ?_
  refine sl_ok ok_Cuts_cutAlong [.istore 4, .aload_n 1, .iload_n 2, .iload_n 3, .iconst (-1)] (pc1 := 13) (ls1 := [some (.ref 21), some (.ref o1), some (.int x2), some (.int x3), some (.int v_1), none, none, none]) (st1 := [.int (-1), .int x3, .int x2, .ref o1]) (h1 := h) (P := True) (by decide +kernel) rfl trivial ?_
  obtain ⟨v_3, e_4, e⟩ := bi_s e
  refine q_callV ok_Cloud_sideBits (as := [.int x2, .int x3, .int (-1)]) (st := []) ⟨wd_338, wd_203, wd_204, wd_14, ds_Cloud_sideBits, Nat.le_of_ble_eq_true rfl, Nat.le_of_ble_eq_true rfl⟩ (s_Cloud_sideBits ho1 e_4) rfl ho1 (ci := 0) rfl (fun v hv => by cases hv; rfl) (Nat.le_of_ble_eq_true rfl) (by decide +kernel) rfl ?_
  refine sl_ok ok_Cuts_cutAlong [.istore 5, .aload_n 1, .iload_n 2, .iload_n 3, .iconst 0] (pc1 := 22) (ls1 := [some (.ref 21), some (.ref o1), some (.int x2), some (.int x3), some (.int v_1), some (.int v_3), none, none]) (st1 := [.int 0, .int x3, .int x2, .ref o1]) (h1 := h) (P := True) (by decide +kernel) rfl trivial ?_
  obtain ⟨v_5, e_6, e⟩ := bi_s e
  refine q_callV ok_Cloud_sideBits (as := [.int x2, .int x3, .int 0]) (st := []) ⟨wd_338, wd_203, wd_204, wd_14, ds_Cloud_sideBits, Nat.le_of_ble_eq_true rfl, Nat.le_of_ble_eq_true rfl⟩ (s_Cloud_sideBits ho1 e_6) rfl ho1 (ci := 0) rfl (fun v hv => by cases hv; rfl) (Nat.le_of_ble_eq_true rfl) (by decide +kernel) rfl ?_
  refine sl_ok ok_Cuts_cutAlong [.iconst 1, .iload_n 2, .ishl, .ior, .iconst 1, .iload_n 3, .ishl, .ior, .istore 6, .aload_n 0, .iload 4, .iload 5, .iload 6, .iconst 0] (pc1 := 43) (ls1 := [some (.ref 21), some (.ref o1), some (.int x2), some (.int x3), some (.int v_1), some (.int v_3), some (.int ((v_5 ||| (jshl 1 x2)) ||| (jshl 1 x3))), none]) (st1 := [.int 0, .int ((v_5 ||| (jshl 1 x2)) ||| (jshl 1 x3)), .int v_3, .int v_1, .ref 21]) (h1 := h) (P := True) (by decide +kernel) rfl trivial ?_
  obtain ⟨v_7, e_8, e⟩ := bi_s e
  refine q_callV ok_Cuts_markBoth (as := [.int v_1, .int v_3, .int ((v_5 ||| (jshl 1 x2)) ||| (jshl 1 x3)), .int 0]) (st := []) ⟨wd_339, wd_340, wd_341, wd_342, ds_Cuts_markBoth, Nat.le_of_ble_eq_true rfl, Nat.le_of_ble_eq_true rfl⟩ (s_Cuts_markBoth  e_8) rfl ⟨rfl, rfl⟩ (ci := 1) rfl (fun v hv => by cases hv) (Nat.le_of_ble_eq_true rfl) (by decide +kernel) rfl ?_
  refine sl_ok ok_Cuts_cutAlong [.iconst 0, .istore 7] (pc1 := 49) (ls1 := [some (.ref 21), some (.ref o1), some (.int x2), some (.int x3), some (.int v_1), some (.int v_3), some (.int ((v_5 ||| (jshl 1 x2)) ||| (jshl 1 x3))), some (.int 0)]) (st1 := []) (h1 := v_7) (P := True) (by decide +kernel) rfl trivial ?_
  exact lp_in e (fun s => Go E M_Cuts_cutAlong 49 [some (.ref 21), some (.ref o1), some (.int x2), some (.int x3), some (.int v_1), some (.int v_3), some (.int ((v_5 ||| (jshl 1 x2)) ||| (jshl 1 x3))), some (.int s.1)] [] s.2 r hr) (fun v : pH => r = none ∧ hr = v) (fun _ _ e k => b_Cuts_cutAlong_L1 ho1 e k) k
theorem s_Cuts_cutAlong {E : pE} {o1 : Nat} {x2 : Int32} {x3 : Int32} {h : pH} (ho1 : ak o1 = 0 ∧ cx o1 = 0) {v : pH} (e : f_Cuts_cutAlong o1 x2 x3 h = some v) : Ct E M_Cuts_cutAlong [.ref 21, .ref o1, .int x2, .int x3] h none v :=
  Ct_of ok_Cuts_cutAlong [some (.ref 21), some (.ref o1), some (.int x2), some (.int x3), none, none, none, none] (Nat.le_of_ble_eq_true rfl) rfl (b_Cuts_cutAlong ho1 e ⟨rfl, rfl⟩)
def f_Cuts_find_L2 (o1 : Nat) (x2 : Int32) (x3 : Int32) (h : pH) : Option ((Int32 × pH) ⊕ ((Int32 × pH) ⊕ pH)) :=
  if (hI h o1 2) ≤ x3 then
    some (.inr (.inl ((x2 + 1), h)))
  else
    (f_Cuts_cutAlong o1 x2 x3 h).bind fun v_2 =>
    some (.inl ((x3 + 1), v_2))
set_option maxHeartbeats 4000000 in
theorem b_Cuts_find_L2 {E : pE} {r : Option Value} {hr : pH} {o1 : Nat} {x2 : Int32} {x3 : Int32} {h : pH} (ho1 : ak o1 = 0 ∧ cx o1 = 0) {b : ((Int32 × pH) ⊕ ((Int32 × pH) ⊕ pH))} (e : f_Cuts_find_L2 o1 x2 x3 h = some b) (k : (Sum.elim (fun s : (Int32 × pH) => Go E M_Cuts_find 60 [some (.ref 21), some (.ref o1), some (.int x2), some (.int s.1)] [] s.2 r hr) (Sum.elim (fun s : (Int32 × pH) => Go E M_Cuts_find 48 [some (.ref 21), some (.ref o1), some (.int s.1), none] [] s.2 r hr) (fun v : pH => r = none ∧ hr = v))) b) : Go E M_Cuts_find 60 [some (.ref 21), some (.ref o1), some (.int x2), some (.int x3)] [] h r hr := by
  unfold f_Cuts_find_L2 at e
  refine sl_ok ok_Cuts_find [.iload_n 3, .aload_n 1, .getfield 36] (pc1 := 65) (ls1 := [some (.ref 21), some (.ref o1), some (.int x2), some (.int x3)]) (st1 := [.int (hI h o1 2), .int x3]) (h1 := h) (P := (ak o1 = 0 ∧ cx o1 = 0) ∧ True) (by decide +kernel) rfl ⟨ho1, trivial⟩ ?_
  refine q_icmp_ge (off := 16) (tgt := 81) (by decide +kernel) (by decide) (fun c_1 => ?_) (fun c_1 => ?_)
  · have e := it_t c_1 e
    refine sl_ok ok_Cuts_find [.iinc 2 1] (pc1 := 84) (ls1 := [some (.ref 21), some (.ref o1), some (.int (x2 + 1)), some (.int x3)]) (st1 := []) (h1 := h) (P := True) (by decide +kernel) rfl trivial ?_
    refine q_goto (off := -36) (tgt := 48) (by decide) (by decide +kernel) ?_
    cases e
    refine Go.sb [some (.ref 21), some (.ref o1), some (.int (x2 + 1)), none] (And.intro rfl (And.intro rfl (And.intro rfl trivial))) ?_
    exact k
  · have e := it_f c_1 e
    refine sl_ok ok_Cuts_find [.aload_n 0, .aload_n 1, .iload_n 2, .iload_n 3] (pc1 := 72) (ls1 := [some (.ref 21), some (.ref o1), some (.int x2), some (.int x3)]) (st1 := [.int x3, .int x2, .ref o1, .ref 21]) (h1 := h) (P := True) (by decide +kernel) rfl trivial ?_
    obtain ⟨v_2, e_3, e⟩ := bi_s e
    refine q_callV ok_Cuts_cutAlong (as := [.ref o1, .int x2, .int x3]) (st := []) ⟨wd_349, wd_350, wd_351, wd_342, ds_Cuts_cutAlong, Nat.le_of_ble_eq_true rfl, Nat.le_of_ble_eq_true rfl⟩ (s_Cuts_cutAlong ho1 e_3) rfl ⟨rfl, rfl⟩ (ci := 1) rfl (fun v hv => by cases hv) (Nat.le_of_ble_eq_true rfl) (by decide +kernel) rfl ?_
    refine sl_ok ok_Cuts_find [.iinc 3 1] (pc1 := 78) (ls1 := [some (.ref 21), some (.ref o1), some (.int x2), some (.int (x3 + 1))]) (st1 := []) (h1 := v_2) (P := True) (by decide +kernel) rfl trivial ?_
    refine q_goto (off := -18) (tgt := 60) (by decide) (by decide +kernel) ?_
    cases e
    exact k
def f_Cuts_find_L1 (o1 : Nat) (x2 : Int32) (h : pH) : Option ((Int32 × pH) ⊕ pH) :=
  if (hI h o1 2) ≤ x2 then
    some (.inr h)
  else
    lp (fun s => f_Cuts_find_L2 o1 x2 s.1 s.2) lpN ((x2 + 1), h)
set_option maxHeartbeats 4000000 in
theorem b_Cuts_find_L1 {E : pE} {r : Option Value} {hr : pH} {o1 : Nat} {x2 : Int32} {h : pH} (ho1 : ak o1 = 0 ∧ cx o1 = 0) {b : ((Int32 × pH) ⊕ pH)} (e : f_Cuts_find_L1 o1 x2 h = some b) (k : (Sum.elim (fun s : (Int32 × pH) => Go E M_Cuts_find 48 [some (.ref 21), some (.ref o1), some (.int s.1), none] [] s.2 r hr) (fun v : pH => r = none ∧ hr = v)) b) : Go E M_Cuts_find 48 [some (.ref 21), some (.ref o1), some (.int x2), none] [] h r hr := by
  unfold f_Cuts_find_L1 at e
  refine sl_ok ok_Cuts_find [.iload_n 2, .aload_n 1, .getfield 36] (pc1 := 53) (ls1 := [some (.ref 21), some (.ref o1), some (.int x2), none]) (st1 := [.int (hI h o1 2), .int x2]) (h1 := h) (P := (ak o1 = 0 ∧ cx o1 = 0) ∧ True) (by decide +kernel) rfl ⟨ho1, trivial⟩ ?_
  refine q_icmp_ge (off := 34) (tgt := 87) (by decide +kernel) (by decide) (fun c_1 => ?_) (fun c_1 => ?_)
  · have e := it_t c_1 e
    cases e
    exact q_vret rfl k.1 k.2 (by decide +kernel)
  · have e := it_f c_1 e
    refine sl_ok ok_Cuts_find [.iload_n 2, .iconst 1, .iadd, .istore_n 3] (pc1 := 60) (ls1 := [some (.ref 21), some (.ref o1), some (.int x2), some (.int (x2 + 1))]) (st1 := []) (h1 := h) (P := True) (by decide +kernel) rfl trivial ?_
    exact lp_in e (fun s => Go E M_Cuts_find 60 [some (.ref 21), some (.ref o1), some (.int x2), some (.int s.1)] [] s.2 r hr) (Sum.elim (fun s : (Int32 × pH) => Go E M_Cuts_find 48 [some (.ref 21), some (.ref o1), some (.int s.1), none] [] s.2 r hr) (fun v : pH => r = none ∧ hr = v)) (fun _ _ e k => b_Cuts_find_L2 ho1 e k) k
def f_Cuts_find (o1 : Nat) (h : pH) : Option pH :=
  if (hI h 21 1) = (hI h o1 4) then
    some h
  else
    (f_SetMarks_clear 22 (sI h 21 1 (hI h o1 4))).bind fun v_2 =>
    (f_SetMarks_mark 22 (0 : Int32) v_2).bind fun v_4 =>
    (f_SetMarks_mark 22 (f_Cloud_everyone o1 v_4) v_4).bind fun v_6 =>
    lp (fun s => f_Cuts_find_L1 o1 s.1 s.2) lpN (0, v_6)
set_option maxHeartbeats 4000000 in
theorem b_Cuts_find {E : pE} {r : Option Value} {hr : pH} {o1 : Nat} {h : pH} (ho1 : ak o1 = 0 ∧ cx o1 = 0) {b : pH} (e : f_Cuts_find o1 h = some b) (k : (fun v : pH => r = none ∧ hr = v) b) : Go E M_Cuts_find 0 [some (.ref 21), some (.ref o1), none, none] [] h r hr := by
  unfold f_Cuts_find at e
  refine sl_ok ok_Cuts_find [.aload_n 0, .getfield 18, .aload_n 1, .getfield 22] (pc1 := 8) (ls1 := [some (.ref 21), some (.ref o1), none, none]) (st1 := [.int (hI h o1 4), .int (hI h 21 1)]) (h1 := h) (P := (ak 21 = 0 ∧ cx 21 = 1) ∧ (ak o1 = 0 ∧ cx o1 = 0) ∧ True) (by decide +kernel) rfl ⟨⟨rfl, rfl⟩, ho1, trivial⟩ ?_
  refine q_icmp_ne (off := 4) (tgt := 12) (by decide +kernel) (by decide) (fun c_1 => ?_) (fun c_1 => ?_)
  · have e := it_f c_1 e
    refine sl_ok ok_Cuts_find [.aload_n 0, .aload_n 1, .getfield 22, .putfield 18, .aload_n 0, .getfield 12] (pc1 := 24) (ls1 := [some (.ref 21), some (.ref o1), none, none]) (st1 := [.ref 22]) (h1 := (sI h 21 1 (hI h o1 4))) (P := (ak o1 = 0 ∧ cx o1 = 0) ∧ (ak 21 = 0 ∧ cx 21 = 1) ∧ (ak 21 = 0 ∧ cx 21 = 1) ∧ True) (by decide +kernel) rfl ⟨ho1, ⟨rfl, rfl⟩, ⟨rfl, rfl⟩, trivial⟩ ?_
    obtain ⟨v_2, e_3, e⟩ := bi_s e
    refine q_callV ok_SetMarks_clear (as := []) (st := []) ⟨wd_345, wd_346, wd_347, wd_336, ds_SetMarks_clear, Nat.le_of_ble_eq_true rfl, Nat.le_of_ble_eq_true rfl⟩ (s_SetMarks_clear ⟨rfl, rfl⟩ e_3) rfl ⟨rfl, rfl⟩ (ci := 6) rfl (fun v hv => by cases hv) (Nat.le_of_ble_eq_true rfl) (by decide +kernel) rfl ?_
    refine sl_ok ok_Cuts_find [.aload_n 0, .getfield 12, .iconst 0] (pc1 := 32) (ls1 := [some (.ref 21), some (.ref o1), none, none]) (st1 := [.int 0, .ref 22]) (h1 := v_2) (P := (ak 21 = 0 ∧ cx 21 = 1) ∧ True) (by decide +kernel) rfl ⟨⟨rfl, rfl⟩, trivial⟩ ?_
    obtain ⟨v_4, e_5, e⟩ := bi_s e
    refine q_callV ok_SetMarks_mark (as := [.int 0]) (st := []) ⟨wd_333, wd_334, wd_335, wd_336, ds_SetMarks_mark, Nat.le_of_ble_eq_true rfl, Nat.le_of_ble_eq_true rfl⟩ (s_SetMarks_mark ⟨rfl, rfl⟩ e_5) rfl ⟨rfl, rfl⟩ (ci := 6) rfl (fun v hv => by cases hv) (Nat.le_of_ble_eq_true rfl) (by decide +kernel) rfl ?_
    refine sl_ok ok_Cuts_find [.aload_n 0, .getfield 12, .aload_n 1] (pc1 := 40) (ls1 := [some (.ref 21), some (.ref o1), none, none]) (st1 := [.ref o1, .ref 22]) (h1 := v_4) (P := (ak 21 = 0 ∧ cx 21 = 1) ∧ True) (by decide +kernel) rfl ⟨⟨rfl, rfl⟩, trivial⟩ ?_
    refine q_callV ok_Cloud_everyone (as := []) (st := [.ref 22]) ⟨wd_348, wd_209, wd_210, wd_14, ds_Cloud_everyone, Nat.le_of_ble_eq_true rfl, Nat.le_of_ble_eq_true rfl⟩ (s_Cloud_everyone ho1) rfl ho1 (ci := 0) rfl (fun v hv => by cases hv; rfl) (Nat.le_of_ble_eq_true rfl) (by decide +kernel) rfl ?_
    obtain ⟨v_6, e_7, e⟩ := bi_s e
    refine q_callV ok_SetMarks_mark (as := [.int (f_Cloud_everyone o1 v_4)]) (st := []) ⟨wd_333, wd_334, wd_335, wd_336, ds_SetMarks_mark, Nat.le_of_ble_eq_true rfl, Nat.le_of_ble_eq_true rfl⟩ (s_SetMarks_mark ⟨rfl, rfl⟩ e_7) rfl ⟨rfl, rfl⟩ (ci := 6) rfl (fun v hv => by cases hv) (Nat.le_of_ble_eq_true rfl) (by decide +kernel) rfl ?_
    refine sl_ok ok_Cuts_find [.iconst 0, .istore_n 2] (pc1 := 48) (ls1 := [some (.ref 21), some (.ref o1), some (.int 0), none]) (st1 := []) (h1 := v_6) (P := True) (by decide +kernel) rfl trivial ?_
    exact lp_in e (fun s => Go E M_Cuts_find 48 [some (.ref 21), some (.ref o1), some (.int s.1), none] [] s.2 r hr) (fun v : pH => r = none ∧ hr = v) (fun _ _ e k => b_Cuts_find_L1 ho1 e k) k
  · have e := it_t c_1 e
    cases e
    exact q_vret rfl k.1 k.2 (by decide +kernel)
theorem s_Cuts_find {E : pE} {o1 : Nat} {h : pH} (ho1 : ak o1 = 0 ∧ cx o1 = 0) {v : pH} (e : f_Cuts_find o1 h = some v) : Ct E M_Cuts_find [.ref 21, .ref o1] h none v :=
  Ct_of ok_Cuts_find [some (.ref 21), some (.ref o1), none, none] (Nat.le_of_ble_eq_true rfl) rfl (b_Cuts_find ho1 e ⟨rfl, rfl⟩)
def f_SetMarks_isMarked (o0 : Nat) (x1 : Int32) (h : pH) : Option Int32 :=
  if ((jshr x1 5) &&& 127) < 0 ∨ 128 ≤ ((jshr x1 5) &&& 127).toNatClampNeg then none else
  if ((jshr (hI h (rf o0 0) ((jshr x1 5) &&& 127).toNatClampNeg) (x1 &&& 31)) &&& 1) = 1 then
    some 1
  else
    some 0
set_option maxHeartbeats 4000000 in
theorem b_SetMarks_isMarked {E : pE} {r : Option Value} {hr : pH} {o0 : Nat} {x1 : Int32} {h : pH} (ho0 : ak o0 = 0 ∧ cx o0 = 6) {b : Int32} (e : f_SetMarks_isMarked o0 x1 h = some b) (k : (fun v : Int32 => r = some (.int v) ∧ hr = h) b) : Go E M_SetMarks_isMarked 0 [some (.ref o0), some (.int x1)] [] h r hr := by
  unfold f_SetMarks_isMarked at e
  obtain ⟨g_1, e⟩ := it_g e
  refine sl_ok ok_SetMarks_isMarked [.aload_n 0, .getfield 7, .iload_n 1, .iconst 5, .ishr, .bipush 127, .iand, .iaload, .iload_n 1, .bipush 31, .iand, .ishr, .iconst 1, .iand, .iconst 1] (pc1 := 19) (ls1 := [some (.ref o0), some (.int x1)]) (st1 := [.int 1, .int ((jshr (hI h (rf o0 0) ((jshr x1 5) &&& 127).toNatClampNeg) (x1 &&& 31)) &&& 1)]) (h1 := h) (P := (ak o0 = 0 ∧ cx o0 = 6) ∧ (ak (rf o0 0) = 1 ∧ ¬ (((jshr x1 5) &&& 127) < 0 ∨ cx (rf o0 0) ≤ ((jshr x1 5) &&& 127).toNatClampNeg)) ∧ True) (by decide +kernel) rfl ⟨ho0, ⟨(st_6_0 ho0).1, (by rw [(st_6_0 ho0).2]; exact g_1)⟩, trivial⟩ ?_
  refine q_icmp_ne (off := 7) (tgt := 26) (by decide +kernel) (by decide) (fun c_2 => ?_) (fun c_2 => ?_)
  · have e := it_f c_2 e
    refine sl_ok ok_SetMarks_isMarked [.iconst 0] (pc1 := 27) (ls1 := [some (.ref o0), some (.int x1)]) (st1 := [.int 0]) (h1 := h) (P := True) (by decide +kernel) rfl trivial ?_
    cases e
    exact q_zret rfl (Or.inl rfl) k.1 k.2 (by decide +kernel)
  · have e := it_t c_2 e
    refine sl_ok ok_SetMarks_isMarked [.iconst 1] (pc1 := 23) (ls1 := [some (.ref o0), some (.int x1)]) (st1 := [.int 1]) (h1 := h) (P := True) (by decide +kernel) rfl trivial ?_
    refine q_goto (off := 4) (tgt := 27) (by decide) (by decide +kernel) ?_
    cases e
    exact q_zret rfl (Or.inr rfl) k.1 k.2 (by decide +kernel)
theorem s_SetMarks_isMarked {E : pE} {o0 : Nat} {x1 : Int32} {h : pH} (ho0 : ak o0 = 0 ∧ cx o0 = 6) {v : Int32} (e : f_SetMarks_isMarked o0 x1 h = some v) : Ct E M_SetMarks_isMarked [.ref o0, .int x1] h (some (.int v)) h :=
  Ct_of ok_SetMarks_isMarked [some (.ref o0), some (.int x1)] (Nat.le_of_ble_eq_true rfl) rfl (b_SetMarks_isMarked ho0 e ⟨rfl, rfl⟩)
def f_Cuts_countOfSize_L1 (o1 : Nat) (x2 : Int32) (h : pH) (x3 : Int32) (x4 : Int32) : Option ((Int32 × Int32) ⊕ Int32) :=
  if (f_Cloud_everyone o1 h) < x4 then
    some (.inr x3)
  else
    if (f_J_bitCount x4) = x2 then
      (f_SetMarks_isMarked 22 x4 h).bind fun v_3 =>
      if v_3 = 0 then
        some (.inl (x3, (x4 + 1)))
      else
        some (.inl ((x3 + 1), (x4 + 1)))
    else
      some (.inl (x3, (x4 + 1)))
set_option maxHeartbeats 4000000 in
theorem b_Cuts_countOfSize_L1 {E : pE} {r : Option Value} {hr : pH} {o1 : Nat} {x2 : Int32} {h : pH} {x3 : Int32} {x4 : Int32} (ho1 : ak o1 = 0 ∧ cx o1 = 0) {b : ((Int32 × Int32) ⊕ Int32)} (e : f_Cuts_countOfSize_L1 o1 x2 h x3 x4 = some b) (k : (Sum.elim (fun s : (Int32 × Int32) => Go E M_Cuts_countOfSize 5 [some (.ref 21), some (.ref o1), some (.int x2), some (.int s.1), some (.int s.2)] [] h r hr) (fun v : Int32 => r = some (.int v) ∧ hr = h)) b) : Go E M_Cuts_countOfSize 5 [some (.ref 21), some (.ref o1), some (.int x2), some (.int x3), some (.int x4)] [] h r hr := by
  unfold f_Cuts_countOfSize_L1 at e
  refine sl_ok ok_Cuts_countOfSize [.iload 4, .aload_n 1] (pc1 := 8) (ls1 := [some (.ref 21), some (.ref o1), some (.int x2), some (.int x3), some (.int x4)]) (st1 := [.ref o1, .int x4]) (h1 := h) (P := True) (by decide +kernel) rfl trivial ?_
  refine q_callV ok_Cloud_everyone (as := []) (st := [.int x4]) ⟨wd_348, wd_209, wd_210, wd_14, ds_Cloud_everyone, Nat.le_of_ble_eq_true rfl, Nat.le_of_ble_eq_true rfl⟩ (s_Cloud_everyone ho1) rfl ho1 (ci := 0) rfl (fun v hv => by cases hv; rfl) (Nat.le_of_ble_eq_true rfl) (by decide +kernel) rfl ?_
  refine q_icmp_gt (off := 33) (tgt := 44) (by decide +kernel) (by decide) (fun c_1 => ?_) (fun c_1 => ?_)
  · have e := it_t c_1 e
    refine sl_ok ok_Cuts_countOfSize [.iload_n 3] (pc1 := 45) (ls1 := [some (.ref 21), some (.ref o1), some (.int x2), some (.int x3), some (.int x4)]) (st1 := [.int x3]) (h1 := h) (P := True) (by decide +kernel) rfl trivial ?_
    cases e
    exact q_iret rfl k.1 k.2 (by decide +kernel)
  · have e := it_f c_1 e
    refine sl_ok ok_Cuts_countOfSize [.iload 4] (pc1 := 16) (ls1 := [some (.ref 21), some (.ref o1), some (.int x2), some (.int x3), some (.int x4)]) (st1 := [.int x4]) (h1 := h) (P := True) (by decide +kernel) rfl trivial ?_
    refine q_callS ok_J_bitCount (as := [.int x4]) (st := []) ⟨wd_352, wd_302, wd_303, ds_J_bitCount, Nat.le_of_ble_eq_true rfl, Nat.le_of_ble_eq_true rfl⟩ (s_J_bitCount ) rfl (fun v hv => by cases hv; rfl) (Nat.le_of_ble_eq_true rfl) (by decide +kernel) rfl ?_
    refine sl_ok ok_Cuts_countOfSize [.iload_n 2] (pc1 := 20) (ls1 := [some (.ref 21), some (.ref o1), some (.int x2), some (.int x3), some (.int x4)]) (st1 := [.int x2, .int (f_J_bitCount x4)]) (h1 := h) (P := True) (by decide +kernel) rfl trivial ?_
    refine q_icmp_ne (off := 18) (tgt := 38) (by decide +kernel) (by decide) (fun c_2 => ?_) (fun c_2 => ?_)
    · have e := it_f c_2 e
      refine sl_ok ok_Cuts_countOfSize [.iinc 4 1] (pc1 := 41) (ls1 := [some (.ref 21), some (.ref o1), some (.int x2), some (.int x3), some (.int (x4 + 1))]) (st1 := []) (h1 := h) (P := True) (by decide +kernel) rfl trivial ?_
      refine q_goto (off := -36) (tgt := 5) (by decide) (by decide +kernel) ?_
      cases e
      exact k
    · have e := it_t c_2 e
      refine sl_ok ok_Cuts_countOfSize [.aload_n 0, .getfield 12, .iload 4] (pc1 := 29) (ls1 := [some (.ref 21), some (.ref o1), some (.int x2), some (.int x3), some (.int x4)]) (st1 := [.int x4, .ref 22]) (h1 := h) (P := (ak 21 = 0 ∧ cx 21 = 1) ∧ True) (by decide +kernel) rfl ⟨⟨rfl, rfl⟩, trivial⟩ ?_
      obtain ⟨v_3, e_4, e⟩ := bi_s e
      refine q_callV ok_SetMarks_isMarked (as := [.int x4]) (st := []) ⟨wd_353, wd_354, wd_355, wd_336, ds_SetMarks_isMarked, Nat.le_of_ble_eq_true rfl, Nat.le_of_ble_eq_true rfl⟩ (s_SetMarks_isMarked ⟨rfl, rfl⟩ e_4) rfl ⟨rfl, rfl⟩ (ci := 6) rfl (fun v hv => by cases hv; rfl) (Nat.le_of_ble_eq_true rfl) (by decide +kernel) rfl ?_
      refine q_if_eq (off := 6) (tgt := 38) (by decide +kernel) (by decide) (fun c_5 => ?_) (fun c_5 => ?_)
      · have e := it_t c_5 e
        refine sl_ok ok_Cuts_countOfSize [.iinc 4 1] (pc1 := 41) (ls1 := [some (.ref 21), some (.ref o1), some (.int x2), some (.int x3), some (.int (x4 + 1))]) (st1 := []) (h1 := h) (P := True) (by decide +kernel) rfl trivial ?_
        refine q_goto (off := -36) (tgt := 5) (by decide) (by decide +kernel) ?_
        cases e
        exact k
      · have e := it_f c_5 e
        refine sl_ok ok_Cuts_countOfSize [.iinc 3 1, .iinc 4 1] (pc1 := 41) (ls1 := [some (.ref 21), some (.ref o1), some (.int x2), some (.int (x3 + 1)), some (.int (x4 + 1))]) (st1 := []) (h1 := h) (P := True) (by decide +kernel) rfl trivial ?_
        refine q_goto (off := -36) (tgt := 5) (by decide) (by decide +kernel) ?_
        cases e
        exact k
def f_Cuts_countOfSize (o1 : Nat) (x2 : Int32) (h : pH) : Option Int32 :=
  lp (fun s => f_Cuts_countOfSize_L1 o1 x2 h s.1 s.2) lpN (0, 0)
set_option maxHeartbeats 4000000 in
theorem b_Cuts_countOfSize {E : pE} {r : Option Value} {hr : pH} {o1 : Nat} {x2 : Int32} {h : pH} (ho1 : ak o1 = 0 ∧ cx o1 = 0) {b : Int32} (e : f_Cuts_countOfSize o1 x2 h = some b) (k : (fun v : Int32 => r = some (.int v) ∧ hr = h) b) : Go E M_Cuts_countOfSize 0 [some (.ref 21), some (.ref o1), some (.int x2), none, none] [] h r hr := by
  unfold f_Cuts_countOfSize at e
  refine sl_ok ok_Cuts_countOfSize [.iconst 0, .istore_n 3, .iconst 0, .istore 4] (pc1 := 5) (ls1 := [some (.ref 21), some (.ref o1), some (.int x2), some (.int 0), some (.int 0)]) (st1 := []) (h1 := h) (P := True) (by decide +kernel) rfl trivial ?_
  exact lp_in e (fun s => Go E M_Cuts_countOfSize 5 [some (.ref 21), some (.ref o1), some (.int x2), some (.int s.1), some (.int s.2)] [] h r hr) (fun v : Int32 => r = some (.int v) ∧ hr = h) (fun _ _ e k => b_Cuts_countOfSize_L1 ho1 e k) k
theorem s_Cuts_countOfSize {E : pE} {o1 : Nat} {x2 : Int32} {h : pH} (ho1 : ak o1 = 0 ∧ cx o1 = 0) {v : Int32} (e : f_Cuts_countOfSize o1 x2 h = some v) : Ct E M_Cuts_countOfSize [.ref 21, .ref o1, .int x2] h (some (.int v)) h :=
  Ct_of ok_Cuts_countOfSize [some (.ref 21), some (.ref o1), some (.int x2), none, none] (Nat.le_of_ble_eq_true rfl) rfl (b_Cuts_countOfSize ho1 e ⟨rfl, rfl⟩)
def f_C_cutOff (x1 : Int32) (h : pH) : Option (Int32 × pH) :=
  (f_Cuts_find 8 h).bind fun v_1 =>
  (f_Cuts_countOfSize 8 x1 v_1).bind fun v_3 =>
  some (v_3, v_1)
set_option maxHeartbeats 4000000 in
theorem b_C_cutOff {E : pE} {r : Option Value} {hr : pH} {x1 : Int32} {h : pH}  {b : (Int32 × pH)} (e : f_C_cutOff x1 h = some b) (k : (fun v : (Int32 × pH) => r = some (.int v.1) ∧ hr = v.2) b) : Go E M_C_cutOff 0 [some (.ref 0), some (.int x1)] [] h r hr := by
  unfold f_C_cutOff at e
  refine sl_ok ok_C_cutOff [.aload_n 0, .getfield 52, .aload_n 0, .getfield 28] (pc1 := 8) (ls1 := [some (.ref 0), some (.int x1)]) (st1 := [.ref 8, .ref 21]) (h1 := h) (P := (ak 0 = 0 ∧ cx 0 = 11) ∧ (ak 0 = 0 ∧ cx 0 = 11) ∧ True) (by decide +kernel) rfl ⟨⟨rfl, rfl⟩, ⟨rfl, rfl⟩, trivial⟩ ?_
  obtain ⟨v_1, e_2, e⟩ := bi_s e
  refine q_callV ok_Cuts_find (as := [.ref 8]) (st := []) ⟨wd_356, wd_357, wd_358, wd_342, ds_Cuts_find, Nat.le_of_ble_eq_true rfl, Nat.le_of_ble_eq_true rfl⟩ (s_Cuts_find ⟨rfl, rfl⟩ e_2) rfl ⟨rfl, rfl⟩ (ci := 1) rfl (fun v hv => by cases hv) (Nat.le_of_ble_eq_true rfl) (by decide +kernel) rfl ?_
  refine sl_ok ok_C_cutOff [.aload_n 0, .getfield 52, .aload_n 0, .getfield 28, .iload_n 1] (pc1 := 20) (ls1 := [some (.ref 0), some (.int x1)]) (st1 := [.int x1, .ref 8, .ref 21]) (h1 := v_1) (P := (ak 0 = 0 ∧ cx 0 = 11) ∧ (ak 0 = 0 ∧ cx 0 = 11) ∧ True) (by decide +kernel) rfl ⟨⟨rfl, rfl⟩, ⟨rfl, rfl⟩, trivial⟩ ?_
  obtain ⟨v_3, e_4, e⟩ := bi_s e
  refine q_callV ok_Cuts_countOfSize (as := [.ref 8, .int x1]) (st := []) ⟨wd_359, wd_360, wd_361, wd_342, ds_Cuts_countOfSize, Nat.le_of_ble_eq_true rfl, Nat.le_of_ble_eq_true rfl⟩ (s_Cuts_countOfSize ⟨rfl, rfl⟩ e_4) rfl ⟨rfl, rfl⟩ (ci := 1) rfl (fun v hv => by cases hv; rfl) (Nat.le_of_ble_eq_true rfl) (by decide +kernel) rfl ?_
  cases e
  exact q_iret rfl k.1 k.2 (by decide +kernel)
theorem s_C_cutOff {E : pE} {x1 : Int32} {h : pH}  {v : (Int32 × pH)} (e : f_C_cutOff x1 h = some v) : Ct E M_C_cutOff [.ref 0, .int x1] h (some (.int v.1)) v.2 :=
  Ct_of ok_C_cutOff [some (.ref 0), some (.int x1)] (Nat.le_of_ble_eq_true rfl) rfl (b_C_cutOff  e ⟨rfl, rfl⟩)
def f_R_meets (x1 : Int32) (x2 : Int32) (h : pH) : Option pH :=
  if (hI h 79 31) < 0 ∨ 900 ≤ (hI h 79 31).toNatClampNeg then none else
  if (hI (sI h 96 (hI h 79 31).toNatClampNeg x1) 79 31) < 0 ∨ 900 ≤ (hI (sI h 96 (hI h 79 31).toNatClampNeg x1) 79 31).toNatClampNeg then none else
  some (sI (sI (sI h 96 (hI h 79 31).toNatClampNeg x1) 97 (hI (sI h 96 (hI h 79 31).toNatClampNeg x1) 79 31).toNatClampNeg x2) 79 31 ((hI (sI (sI h 96 (hI h 79 31).toNatClampNeg x1) 97 (hI (sI h 96 (hI h 79 31).toNatClampNeg x1) 79 31).toNatClampNeg x2) 79 31) + 1))
set_option maxHeartbeats 4000000 in
theorem b_R_meets {E : pE} {r : Option Value} {hr : pH} {x1 : Int32} {x2 : Int32} {h : pH}  {b : pH} (e : f_R_meets x1 x2 h = some b) (k : (fun v : pH => r = none ∧ hr = v) b) : Go E M_R_meets 0 [some (.ref 79), some (.int x1), some (.int x2)] [] h r hr := by
  unfold f_R_meets at e
  obtain ⟨g_1, e⟩ := it_g e
  obtain ⟨g_2, e⟩ := it_g e
  refine sl_ok ok_R_meets [.aload_n 0, .getfield 68, .aload_n 0, .getfield 258, .iload_n 1, .iastore, .aload_n 0, .getfield 71, .aload_n 0, .getfield 258, .iload_n 2, .iastore, .aload_n 0, .dup, .getfield 258, .iconst 1, .iadd, .putfield 258] (pc1 := 30) (ls1 := [some (.ref 79), some (.int x1), some (.int x2)]) (st1 := []) (h1 := (sI (sI (sI h 96 (hI h 79 31).toNatClampNeg x1) 97 (hI (sI h 96 (hI h 79 31).toNatClampNeg x1) 79 31).toNatClampNeg x2) 79 31 ((hI (sI (sI h 96 (hI h 79 31).toNatClampNeg x1) 97 (hI (sI h 96 (hI h 79 31).toNatClampNeg x1) 79 31).toNatClampNeg x2) 79 31) + 1))) (P := (ak 79 = 0 ∧ cx 79 = 12) ∧ (ak 79 = 0 ∧ cx 79 = 12) ∧ (ak 96 = 1 ∧ ¬ ((hI h 79 31) < 0 ∨ cx 96 ≤ (hI h 79 31).toNatClampNeg)) ∧ (ak 79 = 0 ∧ cx 79 = 12) ∧ (ak 79 = 0 ∧ cx 79 = 12) ∧ (ak 97 = 1 ∧ ¬ ((hI (sI h 96 (hI h 79 31).toNatClampNeg x1) 79 31) < 0 ∨ cx 97 ≤ (hI (sI h 96 (hI h 79 31).toNatClampNeg x1) 79 31).toNatClampNeg)) ∧ (ak 79 = 0 ∧ cx 79 = 12) ∧ (ak 79 = 0 ∧ cx 79 = 12) ∧ True) (by decide +kernel) rfl ⟨⟨rfl, rfl⟩, ⟨rfl, rfl⟩, ⟨rfl, g_1⟩, ⟨rfl, rfl⟩, ⟨rfl, rfl⟩, ⟨rfl, g_2⟩, ⟨rfl, rfl⟩, ⟨rfl, rfl⟩, trivial⟩ ?_
  cases e
  exact q_vret rfl k.1 k.2 (by decide +kernel)
theorem s_R_meets {E : pE} {x1 : Int32} {x2 : Int32} {h : pH}  {v : pH} (e : f_R_meets x1 x2 h = some v) : Ct E M_R_meets [.ref 79, .int x1, .int x2] h none v :=
  Ct_of ok_R_meets [some (.ref 79), some (.int x1), some (.int x2)] (Nat.le_of_ble_eq_true rfl) rfl (b_R_meets  e ⟨rfl, rfl⟩)
def f_R_isWithin (x1 : Int32) (x2 : Int32) (x3 : Int32) (x4 : Int32) (h : pH) : Option Int32 :=
  (f_R_sideOf x2 x3 x1 h).bind fun v_1 =>
  if v_1 = 0 then
    some 0
  else
    (f_R_sideOf x3 x4 x1 h).bind fun v_4 =>
    if v_1 = v_4 then
      (f_R_sideOf x4 x2 x1 h).bind fun v_7 =>
      if v_1 = v_7 then
        some 1
      else
        some 0
    else
      some 0
set_option maxHeartbeats 4000000 in
theorem b_R_isWithin {E : pE} {r : Option Value} {hr : pH} {x1 : Int32} {x2 : Int32} {x3 : Int32} {x4 : Int32} {h : pH}  {b : Int32} (e : f_R_isWithin x1 x2 x3 x4 h = some b) (k : (fun v : Int32 => r = some (.int v) ∧ hr = h) b) : Go E M_R_isWithin 0 [some (.ref 79), some (.int x1), some (.int x2), some (.int x3), some (.int x4), none] [] h r hr := by
  unfold f_R_isWithin at e
  refine sl_ok ok_R_isWithin [.aload_n 0, .iload_n 2, .iload_n 3, .iload_n 1] (pc1 := 4) (ls1 := [some (.ref 79), some (.int x1), some (.int x2), some (.int x3), some (.int x4), none]) (st1 := [.int x1, .int x3, .int x2, .ref 79]) (h1 := h) (P := True) (by decide +kernel) rfl trivial ?_
  obtain ⟨v_1, e_2, e⟩ := bi_s e
  refine q_callV ok_R_sideOf (as := [.int x2, .int x3, .int x1]) (st := []) ⟨wd_257, wd_258, wd_259, wd_7, ds_R_sideOf, Nat.le_of_ble_eq_true rfl, Nat.le_of_ble_eq_true rfl⟩ (s_R_sideOf  e_2) rfl ⟨rfl, rfl⟩ (ci := 12) rfl (fun v hv => by cases hv; rfl) (Nat.le_of_ble_eq_true rfl) (by decide +kernel) rfl ?_
  refine sl_ok ok_R_isWithin [.istore 5, .iload 5] (pc1 := 11) (ls1 := [some (.ref 79), some (.int x1), some (.int x2), some (.int x3), some (.int x4), some (.int v_1)]) (st1 := [.int v_1]) (h1 := h) (P := True) (by decide +kernel) rfl trivial ?_
  refine q_if_eq (off := 33) (tgt := 44) (by decide +kernel) (by decide) (fun c_3 => ?_) (fun c_3 => ?_)
  · have e := it_t c_3 e
    refine sl_ok ok_R_isWithin [.iconst 0] (pc1 := 45) (ls1 := [some (.ref 79), some (.int x1), some (.int x2), some (.int x3), some (.int x4), some (.int v_1)]) (st1 := [.int 0]) (h1 := h) (P := True) (by decide +kernel) rfl trivial ?_
    cases e
    exact q_zret rfl (Or.inl rfl) k.1 k.2 (by decide +kernel)
  · have e := it_f c_3 e
    refine sl_ok ok_R_isWithin [.iload 5, .aload_n 0, .iload_n 3, .iload 4, .iload_n 1] (pc1 := 21) (ls1 := [some (.ref 79), some (.int x1), some (.int x2), some (.int x3), some (.int x4), some (.int v_1)]) (st1 := [.int x1, .int x4, .int x3, .ref 79, .int v_1]) (h1 := h) (P := True) (by decide +kernel) rfl trivial ?_
    obtain ⟨v_4, e_5, e⟩ := bi_s e
    refine q_callV ok_R_sideOf (as := [.int x3, .int x4, .int x1]) (st := [.int v_1]) ⟨wd_257, wd_258, wd_259, wd_7, ds_R_sideOf, Nat.le_of_ble_eq_true rfl, Nat.le_of_ble_eq_true rfl⟩ (s_R_sideOf  e_5) rfl ⟨rfl, rfl⟩ (ci := 12) rfl (fun v hv => by cases hv; rfl) (Nat.le_of_ble_eq_true rfl) (by decide +kernel) rfl ?_
    refine q_icmp_ne (off := 20) (tgt := 44) (by decide +kernel) (by decide) (fun c_6 => ?_) (fun c_6 => ?_)
    · have e := it_f c_6 e
      refine sl_ok ok_R_isWithin [.iconst 0] (pc1 := 45) (ls1 := [some (.ref 79), some (.int x1), some (.int x2), some (.int x3), some (.int x4), some (.int v_1)]) (st1 := [.int 0]) (h1 := h) (P := True) (by decide +kernel) rfl trivial ?_
      cases e
      exact q_zret rfl (Or.inl rfl) k.1 k.2 (by decide +kernel)
    · have e := it_t c_6 e
      refine sl_ok ok_R_isWithin [.iload 5, .aload_n 0, .iload 4, .iload_n 2, .iload_n 1] (pc1 := 34) (ls1 := [some (.ref 79), some (.int x1), some (.int x2), some (.int x3), some (.int x4), some (.int v_1)]) (st1 := [.int x1, .int x2, .int x4, .ref 79, .int v_1]) (h1 := h) (P := True) (by decide +kernel) rfl trivial ?_
      obtain ⟨v_7, e_8, e⟩ := bi_s e
      refine q_callV ok_R_sideOf (as := [.int x4, .int x2, .int x1]) (st := [.int v_1]) ⟨wd_257, wd_258, wd_259, wd_7, ds_R_sideOf, Nat.le_of_ble_eq_true rfl, Nat.le_of_ble_eq_true rfl⟩ (s_R_sideOf  e_8) rfl ⟨rfl, rfl⟩ (ci := 12) rfl (fun v hv => by cases hv; rfl) (Nat.le_of_ble_eq_true rfl) (by decide +kernel) rfl ?_
      refine q_icmp_ne (off := 7) (tgt := 44) (by decide +kernel) (by decide) (fun c_9 => ?_) (fun c_9 => ?_)
      · have e := it_f c_9 e
        refine sl_ok ok_R_isWithin [.iconst 0] (pc1 := 45) (ls1 := [some (.ref 79), some (.int x1), some (.int x2), some (.int x3), some (.int x4), some (.int v_1)]) (st1 := [.int 0]) (h1 := h) (P := True) (by decide +kernel) rfl trivial ?_
        cases e
        exact q_zret rfl (Or.inl rfl) k.1 k.2 (by decide +kernel)
      · have e := it_t c_9 e
        refine sl_ok ok_R_isWithin [.iconst 1] (pc1 := 41) (ls1 := [some (.ref 79), some (.int x1), some (.int x2), some (.int x3), some (.int x4), some (.int v_1)]) (st1 := [.int 1]) (h1 := h) (P := True) (by decide +kernel) rfl trivial ?_
        refine q_goto (off := 4) (tgt := 45) (by decide) (by decide +kernel) ?_
        cases e
        exact q_zret rfl (Or.inr rfl) k.1 k.2 (by decide +kernel)
theorem s_R_isWithin {E : pE} {x1 : Int32} {x2 : Int32} {x3 : Int32} {x4 : Int32} {h : pH}  {v : Int32} (e : f_R_isWithin x1 x2 x3 x4 h = some v) : Ct E M_R_isWithin [.ref 79, .int x1, .int x2, .int x3, .int x4] h (some (.int v)) h :=
  Ct_of ok_R_isWithin [some (.ref 79), some (.int x1), some (.int x2), some (.int x3), some (.int x4), none] (Nat.le_of_ble_eq_true rfl) rfl (b_R_isWithin  e ⟨rfl, rfl⟩)
def f_R_areAcross (x1 : Int32) (x2 : Int32) (x3 : Int32) (x4 : Int32) (h : pH) : Option Int32 :=
  (f_R_sideOf x1 x2 x3 h).bind fun v_1 =>
  (f_R_sideOf x1 x2 x4 h).bind fun v_3 =>
  if 0 ≤ (v_1 * v_3) then
    some 0
  else
    (f_R_sideOf x3 x4 x1 h).bind fun v_6 =>
    (f_R_sideOf x3 x4 x2 h).bind fun v_8 =>
    if 0 ≤ (v_6 * v_8) then
      some 0
    else
      some 1
set_option maxHeartbeats 4000000 in
theorem b_R_areAcross {E : pE} {r : Option Value} {hr : pH} {x1 : Int32} {x2 : Int32} {x3 : Int32} {x4 : Int32} {h : pH}  {b : Int32} (e : f_R_areAcross x1 x2 x3 x4 h = some b) (k : (fun v : Int32 => r = some (.int v) ∧ hr = h) b) : Go E M_R_areAcross 0 [some (.ref 79), some (.int x1), some (.int x2), some (.int x3), some (.int x4)] [] h r hr := by
  unfold f_R_areAcross at e
  refine sl_ok ok_R_areAcross [.aload_n 0, .iload_n 1, .iload_n 2, .iload_n 3] (pc1 := 4) (ls1 := [some (.ref 79), some (.int x1), some (.int x2), some (.int x3), some (.int x4)]) (st1 := [.int x3, .int x2, .int x1, .ref 79]) (h1 := h) (P := True) (by decide +kernel) rfl trivial ?_
  obtain ⟨v_1, e_2, e⟩ := bi_s e
  refine q_callV ok_R_sideOf (as := [.int x1, .int x2, .int x3]) (st := []) ⟨wd_257, wd_258, wd_259, wd_7, ds_R_sideOf, Nat.le_of_ble_eq_true rfl, Nat.le_of_ble_eq_true rfl⟩ (s_R_sideOf  e_2) rfl ⟨rfl, rfl⟩ (ci := 12) rfl (fun v hv => by cases hv; rfl) (Nat.le_of_ble_eq_true rfl) (by decide +kernel) rfl ?_
  refine sl_ok ok_R_areAcross [.aload_n 0, .iload_n 1, .iload_n 2, .iload 4] (pc1 := 12) (ls1 := [some (.ref 79), some (.int x1), some (.int x2), some (.int x3), some (.int x4)]) (st1 := [.int x4, .int x2, .int x1, .ref 79, .int v_1]) (h1 := h) (P := True) (by decide +kernel) rfl trivial ?_
  obtain ⟨v_3, e_4, e⟩ := bi_s e
  refine q_callV ok_R_sideOf (as := [.int x1, .int x2, .int x4]) (st := [.int v_1]) ⟨wd_257, wd_258, wd_259, wd_7, ds_R_sideOf, Nat.le_of_ble_eq_true rfl, Nat.le_of_ble_eq_true rfl⟩ (s_R_sideOf  e_4) rfl ⟨rfl, rfl⟩ (ci := 12) rfl (fun v hv => by cases hv; rfl) (Nat.le_of_ble_eq_true rfl) (by decide +kernel) rfl ?_
  refine sl_ok ok_R_areAcross [.imul] (pc1 := 16) (ls1 := [some (.ref 79), some (.int x1), some (.int x2), some (.int x3), some (.int x4)]) (st1 := [.int (v_1 * v_3)]) (h1 := h) (P := True) (by decide +kernel) rfl trivial ?_
  refine q_if_ge (off := 27) (tgt := 43) (by decide +kernel) (by decide) (fun c_5 => ?_) (fun c_5 => ?_)
  · have e := it_t c_5 e
    refine sl_ok ok_R_areAcross [.iconst 0] (pc1 := 44) (ls1 := [some (.ref 79), some (.int x1), some (.int x2), some (.int x3), some (.int x4)]) (st1 := [.int 0]) (h1 := h) (P := True) (by decide +kernel) rfl trivial ?_
    cases e
    exact q_zret rfl (Or.inl rfl) k.1 k.2 (by decide +kernel)
  · have e := it_f c_5 e
    refine sl_ok ok_R_areAcross [.aload_n 0, .iload_n 3, .iload 4, .iload_n 1] (pc1 := 24) (ls1 := [some (.ref 79), some (.int x1), some (.int x2), some (.int x3), some (.int x4)]) (st1 := [.int x1, .int x4, .int x3, .ref 79]) (h1 := h) (P := True) (by decide +kernel) rfl trivial ?_
    obtain ⟨v_6, e_7, e⟩ := bi_s e
    refine q_callV ok_R_sideOf (as := [.int x3, .int x4, .int x1]) (st := []) ⟨wd_257, wd_258, wd_259, wd_7, ds_R_sideOf, Nat.le_of_ble_eq_true rfl, Nat.le_of_ble_eq_true rfl⟩ (s_R_sideOf  e_7) rfl ⟨rfl, rfl⟩ (ci := 12) rfl (fun v hv => by cases hv; rfl) (Nat.le_of_ble_eq_true rfl) (by decide +kernel) rfl ?_
    refine sl_ok ok_R_areAcross [.aload_n 0, .iload_n 3, .iload 4, .iload_n 2] (pc1 := 32) (ls1 := [some (.ref 79), some (.int x1), some (.int x2), some (.int x3), some (.int x4)]) (st1 := [.int x2, .int x4, .int x3, .ref 79, .int v_6]) (h1 := h) (P := True) (by decide +kernel) rfl trivial ?_
    obtain ⟨v_8, e_9, e⟩ := bi_s e
    refine q_callV ok_R_sideOf (as := [.int x3, .int x4, .int x2]) (st := [.int v_6]) ⟨wd_257, wd_258, wd_259, wd_7, ds_R_sideOf, Nat.le_of_ble_eq_true rfl, Nat.le_of_ble_eq_true rfl⟩ (s_R_sideOf  e_9) rfl ⟨rfl, rfl⟩ (ci := 12) rfl (fun v hv => by cases hv; rfl) (Nat.le_of_ble_eq_true rfl) (by decide +kernel) rfl ?_
    refine sl_ok ok_R_areAcross [.imul] (pc1 := 36) (ls1 := [some (.ref 79), some (.int x1), some (.int x2), some (.int x3), some (.int x4)]) (st1 := [.int (v_6 * v_8)]) (h1 := h) (P := True) (by decide +kernel) rfl trivial ?_
    refine q_if_ge (off := 7) (tgt := 43) (by decide +kernel) (by decide) (fun c_10 => ?_) (fun c_10 => ?_)
    · have e := it_t c_10 e
      refine sl_ok ok_R_areAcross [.iconst 0] (pc1 := 44) (ls1 := [some (.ref 79), some (.int x1), some (.int x2), some (.int x3), some (.int x4)]) (st1 := [.int 0]) (h1 := h) (P := True) (by decide +kernel) rfl trivial ?_
      cases e
      exact q_zret rfl (Or.inl rfl) k.1 k.2 (by decide +kernel)
    · have e := it_f c_10 e
      refine sl_ok ok_R_areAcross [.iconst 1] (pc1 := 40) (ls1 := [some (.ref 79), some (.int x1), some (.int x2), some (.int x3), some (.int x4)]) (st1 := [.int 1]) (h1 := h) (P := True) (by decide +kernel) rfl trivial ?_
      refine q_goto (off := 4) (tgt := 44) (by decide) (by decide +kernel) ?_
      cases e
      exact q_zret rfl (Or.inr rfl) k.1 k.2 (by decide +kernel)
theorem s_R_areAcross {E : pE} {x1 : Int32} {x2 : Int32} {x3 : Int32} {x4 : Int32} {h : pH}  {v : Int32} (e : f_R_areAcross x1 x2 x3 x4 h = some v) : Ct E M_R_areAcross [.ref 79, .int x1, .int x2, .int x3, .int x4] h (some (.int v)) h :=
  Ct_of ok_R_areAcross [some (.ref 79), some (.int x1), some (.int x2), some (.int x3), some (.int x4)] (Nat.le_of_ble_eq_true rfl) rfl (b_R_areAcross  e ⟨rfl, rfl⟩)
