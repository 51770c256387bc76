def f_C_halvingBoth_L2 (x1 : Int32) (x2 : Int32) (x3 : Int32) (x5 : Int32) (h : pH) (x4 : Int32) (x6 : Int32) : Option ((Int32 × Int32) ⊕ ((Int32 × Int32) ⊕ Int32)) :=
  if (hI h 8 2) ≤ x6 then
    some (.inr (.inl (x4, (x5 + 1))))
  else
    if (f_C_bit x1 x5) = 1 then
      if (f_C_bit x3 x6) = 1 then
        (f_Cloud_isHalved 8 x5 x6 x1 h).bind fun v_4 =>
        if v_4 = 0 then
          some (.inl (x4, (x6 + 1)))
        else
          (f_Cloud_isHalved 8 x5 x6 x3 h).bind fun v_7 =>
          if v_7 = 0 then
            some (.inl (x4, (x6 + 1)))
          else
            if x4 = x2 then
              some (.inr (.inr ((16 * x5) + x6)))
            else
              some (.inl ((x4 + 1), (x6 + 1)))
      else
        some (.inl (x4, (x6 + 1)))
    else
      some (.inl (x4, (x6 + 1)))
set_option maxHeartbeats 4000000 in
theorem b_C_halvingBoth_L2 {E : pE} {r : Option Value} {hr : pH} {x1 : Int32} {x2 : Int32} {x3 : Int32} {x5 : Int32} {h : pH} {x4 : Int32} {x6 : Int32}  {b : ((Int32 × Int32) ⊕ ((Int32 × Int32) ⊕ Int32))} (e : f_C_halvingBoth_L2 x1 x2 x3 x5 h x4 x6 = some b) (k : (Sum.elim (fun s : (Int32 × Int32) => Go E M_C_halvingBoth 46 [some (.ref 0), some (.int x1), some (.int x2), some (.int x3), some (.int s.1), some (.int x5), some (.int s.2)] [] h r hr) (Sum.elim (fun s : (Int32 × Int32) => Go E M_C_halvingBoth 31 [some (.ref 0), some (.int x1), some (.int x2), some (.int x3), some (.int s.1), some (.int s.2), none] [] h r hr) (fun v : Int32 => r = some (.int v) ∧ hr = h))) b) : Go E M_C_halvingBoth 46 [some (.ref 0), some (.int x1), some (.int x2), some (.int x3), some (.int x4), some (.int x5), some (.int x6)] [] h r hr := by
  unfold f_C_halvingBoth_L2 at e
  refine sl_ok ok_C_halvingBoth [.iload 6, .aload_n 0, .getfield 28, .getfield 120] (pc1 := 55) (ls1 := [some (.ref 0), some (.int x1), some (.int x2), some (.int x3), some (.int x4), some (.int x5), some (.int x6)]) (st1 := [.int (hI h 8 2), .int x6]) (h1 := h) (P := (ak 0 = 0 ∧ cx 0 = 11) ∧ (ak 8 = 0 ∧ cx 8 = 0) ∧ True) (by decide +kernel) rfl ⟨⟨rfl, rfl⟩, ⟨rfl, rfl⟩, trivial⟩ ?_
  refine q_icmp_ge (off := 77) (tgt := 132) (by decide +kernel) (by decide) (fun c_1 => ?_) (fun c_1 => ?_)
  · have e := it_t c_1 e
    refine sl_ok ok_C_halvingBoth [.iinc 5 1] (pc1 := 135) (ls1 := [some (.ref 0), some (.int x1), some (.int x2), some (.int x3), some (.int x4), some (.int (x5 + 1)), some (.int x6)]) (st1 := []) (h1 := h) (P := True) (by decide +kernel) rfl trivial ?_
    refine q_goto (off := -104) (tgt := 31) (by decide) (by decide +kernel) ?_
    cases e
    refine Go.sb [some (.ref 0), some (.int x1), some (.int x2), some (.int x3), some (.int x4), some (.int (x5 + 1)), none] (And.intro rfl (And.intro rfl (And.intro rfl (And.intro rfl (And.intro rfl (And.intro rfl trivial)))))) ?_
    exact k
  · have e := it_f c_1 e
    refine sl_ok ok_C_halvingBoth [.iload_n 1, .iload 5] (pc1 := 61) (ls1 := [some (.ref 0), some (.int x1), some (.int x2), some (.int x3), some (.int x4), some (.int x5), some (.int x6)]) (st1 := [.int x5, .int x1]) (h1 := h) (P := True) (by decide +kernel) rfl trivial ?_
    refine q_callS ok_C_bit (as := [.int x1, .int x5]) (st := []) ⟨wd_248, wd_201, wd_48, ds_C_bit, Nat.le_of_ble_eq_true rfl, Nat.le_of_ble_eq_true rfl⟩ (s_C_bit ) rfl (fun v hv => by cases hv; rfl) (Nat.le_of_ble_eq_true rfl) (by decide +kernel) rfl ?_
    refine sl_ok ok_C_halvingBoth [.iconst 1] (pc1 := 65) (ls1 := [some (.ref 0), some (.int x1), some (.int x2), some (.int x3), some (.int x4), some (.int x5), some (.int x6)]) (st1 := [.int 1, .int (f_C_bit x1 x5)]) (h1 := h) (P := True) (by decide +kernel) rfl trivial ?_
    refine q_icmp_ne (off := 61) (tgt := 126) (by decide +kernel) (by decide) (fun c_2 => ?_) (fun c_2 => ?_)
    · have e := it_f c_2 e
      refine sl_ok ok_C_halvingBoth [.iinc 6 1] (pc1 := 129) (ls1 := [some (.ref 0), some (.int x1), some (.int x2), some (.int x3), some (.int x4), some (.int x5), some (.int (x6 + 1))]) (st1 := []) (h1 := h) (P := True) (by decide +kernel) rfl trivial ?_
      refine q_goto (off := -83) (tgt := 46) (by decide) (by decide +kernel) ?_
      cases e
      exact k
    · have e := it_t c_2 e
      refine sl_ok ok_C_halvingBoth [.iload_n 3, .iload 6] (pc1 := 71) (ls1 := [some (.ref 0), some (.int x1), some (.int x2), some (.int x3), some (.int x4), some (.int x5), some (.int x6)]) (st1 := [.int x6, .int x3]) (h1 := h) (P := True) (by decide +kernel) rfl trivial ?_
      refine q_callS ok_C_bit (as := [.int x3, .int x6]) (st := []) ⟨wd_248, wd_201, wd_48, ds_C_bit, Nat.le_of_ble_eq_true rfl, Nat.le_of_ble_eq_true rfl⟩ (s_C_bit ) rfl (fun v hv => by cases hv; rfl) (Nat.le_of_ble_eq_true rfl) (by decide +kernel) rfl ?_
      refine sl_ok ok_C_halvingBoth [.iconst 1] (pc1 := 75) (ls1 := [some (.ref 0), some (.int x1), some (.int x2), some (.int x3), some (.int x4), some (.int x5), some (.int x6)]) (st1 := [.int 1, .int (f_C_bit x3 x6)]) (h1 := h) (P := True) (by decide +kernel) rfl trivial ?_
      refine q_icmp_ne (off := 51) (tgt := 126) (by decide +kernel) (by decide) (fun c_3 => ?_) (fun c_3 => ?_)
      · have e := it_f c_3 e
        refine sl_ok ok_C_halvingBoth [.iinc 6 1] (pc1 := 129) (ls1 := [some (.ref 0), some (.int x1), some (.int x2), some (.int x3), some (.int x4), some (.int x5), some (.int (x6 + 1))]) (st1 := []) (h1 := h) (P := True) (by decide +kernel) rfl trivial ?_
        refine q_goto (off := -83) (tgt := 46) (by decide) (by decide +kernel) ?_
        cases e
        exact k
      · have e := it_t c_3 e
        refine sl_ok ok_C_halvingBoth [.aload_n 0, .getfield 28, .iload 5, .iload 6, .iload_n 1] (pc1 := 87) (ls1 := [some (.ref 0), some (.int x1), some (.int x2), some (.int x3), some (.int x4), some (.int x5), some (.int x6)]) (st1 := [.int x1, .int x6, .int x5, .ref 8]) (h1 := h) (P := (ak 0 = 0 ∧ cx 0 = 11) ∧ True) (by decide +kernel) rfl ⟨⟨rfl, rfl⟩, trivial⟩ ?_
        obtain ⟨v_4, e_5, e⟩ := bi_s e
        refine q_callV ok_Cloud_isHalved (as := [.int x5, .int x6, .int x1]) (st := []) ⟨wd_324, wd_325, wd_326, wd_14, ds_Cloud_isHalved, Nat.le_of_ble_eq_true rfl, Nat.le_of_ble_eq_true rfl⟩ (s_Cloud_isHalved ⟨rfl, rfl⟩ e_5) rfl ⟨rfl, rfl⟩ (ci := 0) rfl (fun v hv => by cases hv; rfl) (Nat.le_of_ble_eq_true rfl) (by decide +kernel) rfl ?_
        refine q_if_eq (off := 36) (tgt := 126) (by decide +kernel) (by decide) (fun c_6 => ?_) (fun c_6 => ?_)
        · have e := it_t c_6 e
          refine sl_ok ok_C_halvingBoth [.iinc 6 1] (pc1 := 129) (ls1 := [some (.ref 0), some (.int x1), some (.int x2), some (.int x3), some (.int x4), some (.int x5), some (.int (x6 + 1))]) (st1 := []) (h1 := h) (P := True) (by decide +kernel) rfl trivial ?_
          refine q_goto (off := -83) (tgt := 46) (by decide) (by decide +kernel) ?_
          cases e
          exact k
        · have e := it_f c_6 e
          refine sl_ok ok_C_halvingBoth [.aload_n 0, .getfield 28, .iload 5, .iload 6, .iload_n 3] (pc1 := 102) (ls1 := [some (.ref 0), some (.int x1), some (.int x2), some (.int x3), some (.int x4), some (.int x5), some (.int x6)]) (st1 := [.int x3, .int x6, .int x5, .ref 8]) (h1 := h) (P := (ak 0 = 0 ∧ cx 0 = 11) ∧ True) (by decide +kernel) rfl ⟨⟨rfl, rfl⟩, trivial⟩ ?_
          obtain ⟨v_7, e_8, e⟩ := bi_s e
          refine q_callV ok_Cloud_isHalved (as := [.int x5, .int x6, .int x3]) (st := []) ⟨wd_324, wd_325, wd_326, wd_14, ds_Cloud_isHalved, Nat.le_of_ble_eq_true rfl, Nat.le_of_ble_eq_true rfl⟩ (s_Cloud_isHalved ⟨rfl, rfl⟩ e_8) rfl ⟨rfl, rfl⟩ (ci := 0) rfl (fun v hv => by cases hv; rfl) (Nat.le_of_ble_eq_true rfl) (by decide +kernel) rfl ?_
          refine q_if_eq (off := 21) (tgt := 126) (by decide +kernel) (by decide) (fun c_9 => ?_) (fun c_9 => ?_)
          · have e := it_t c_9 e
            refine sl_ok ok_C_halvingBoth [.iinc 6 1] (pc1 := 129) (ls1 := [some (.ref 0), some (.int x1), some (.int x2), some (.int x3), some (.int x4), some (.int x5), some (.int (x6 + 1))]) (st1 := []) (h1 := h) (P := True) (by decide +kernel) rfl trivial ?_
            refine q_goto (off := -83) (tgt := 46) (by decide) (by decide +kernel) ?_
            cases e
            exact k
          · have e := it_f c_9 e
            refine sl_ok ok_C_halvingBoth [.iload 4, .iload_n 2] (pc1 := 111) (ls1 := [some (.ref 0), some (.int x1), some (.int x2), some (.int x3), some (.int x4), some (.int x5), some (.int x6)]) (st1 := [.int x2, .int x4]) (h1 := h) (P := True) (by decide +kernel) rfl trivial ?_
            refine q_icmp_ne (off := 12) (tgt := 123) (by decide +kernel) (by decide) (fun c_10 => ?_) (fun c_10 => ?_)
            · have e := it_f c_10 e
              refine sl_ok ok_C_halvingBoth [.iinc 4 1, .iinc 6 1] (pc1 := 129) (ls1 := [some (.ref 0), some (.int x1), some (.int x2), some (.int x3), some (.int (x4 + 1)), some (.int x5), some (.int (x6 + 1))]) (st1 := []) (h1 := h) (P := True) (by decide +kernel) rfl trivial ?_
              refine q_goto (off := -83) (tgt := 46) (by decide) (by decide +kernel) ?_
              cases e
              exact k
            · have e := it_t c_10 e
              refine sl_ok ok_C_halvingBoth [.bipush 16, .iload 5, .imul, .iload 6, .iadd] (pc1 := 122) (ls1 := [some (.ref 0), some (.int x1), some (.int x2), some (.int x3), some (.int x4), some (.int x5), some (.int x6)]) (st1 := [.int ((16 * x5) + x6)]) (h1 := h) (P := True) (by decide +kernel) rfl trivial ?_
              cases e
              exact q_iret rfl k.1 k.2 (by decide +kernel)
def f_C_halvingBoth_L1 (x1 : Int32) (x2 : Int32) (x3 : Int32) (h : pH) (x4 : Int32) (x5 : Int32) : Option ((Int32 × Int32) ⊕ Int32) :=
  if (hI h 8 2) ≤ x5 then
    if x2 = (-1) then
      some (.inr x4)
    else
      some (.inr (-1))
  else
    lp (fun s => f_C_halvingBoth_L2 x1 x2 x3 x5 h s.1 s.2) lpN (x4, 0)
set_option maxHeartbeats 4000000 in
theorem b_C_halvingBoth_L1 {E : pE} {r : Option Value} {hr : pH} {x1 : Int32} {x2 : Int32} {x3 : Int32} {h : pH} {x4 : Int32} {x5 : Int32}  {b : ((Int32 × Int32) ⊕ Int32)} (e : f_C_halvingBoth_L1 x1 x2 x3 h x4 x5 = some b) (k : (Sum.elim (fun s : (Int32 × Int32) => Go E M_C_halvingBoth 31 [some (.ref 0), some (.int x1), some (.int x2), some (.int x3), some (.int s.1), some (.int s.2), none] [] h r hr) (fun v : Int32 => r = some (.int v) ∧ hr = h)) b) : Go E M_C_halvingBoth 31 [some (.ref 0), some (.int x1), some (.int x2), some (.int x3), some (.int x4), some (.int x5), none] [] h r hr := by
  unfold f_C_halvingBoth_L1 at e
  refine sl_ok ok_C_halvingBoth [.iload 5, .aload_n 0, .getfield 28, .getfield 120] (pc1 := 40) (ls1 := [some (.ref 0), some (.int x1), some (.int x2), some (.int x3), some (.int x4), some (.int x5), none]) (st1 := [.int (hI h 8 2), .int x5]) (h1 := h) (P := (ak 0 = 0 ∧ cx 0 = 11) ∧ (ak 8 = 0 ∧ cx 8 = 0) ∧ True) (by decide +kernel) rfl ⟨⟨rfl, rfl⟩, ⟨rfl, rfl⟩, trivial⟩ ?_
  refine q_icmp_ge (off := 98) (tgt := 138) (by decide +kernel) (by decide) (fun c_1 => ?_) (fun c_1 => ?_)
  · have e := it_t c_1 e
    refine sl_ok ok_C_halvingBoth [.iload_n 2, .iconst (-1)] (pc1 := 140) (ls1 := [some (.ref 0), some (.int x1), some (.int x2), some (.int x3), some (.int x4), some (.int x5), none]) (st1 := [.int (-1), .int x2]) (h1 := h) (P := True) (by decide +kernel) rfl trivial ?_
    refine q_icmp_ne (off := 8) (tgt := 148) (by decide +kernel) (by decide) (fun c_2 => ?_) (fun c_2 => ?_)
    · have e := it_f c_2 e
      refine sl_ok ok_C_halvingBoth [.iconst (-1)] (pc1 := 149) (ls1 := [some (.ref 0), some (.int x1), some (.int x2), some (.int x3), some (.int x4), some (.int x5), none]) (st1 := [.int (-1)]) (h1 := h) (P := True) (by decide +kernel) rfl trivial ?_
      cases e
      exact q_iret rfl k.1 k.2 (by decide +kernel)
    · have e := it_t c_2 e
      refine sl_ok ok_C_halvingBoth [.iload 4] (pc1 := 145) (ls1 := [some (.ref 0), some (.int x1), some (.int x2), some (.int x3), some (.int x4), some (.int x5), none]) (st1 := [.int x4]) (h1 := h) (P := True) (by decide +kernel) rfl trivial ?_
      refine q_goto (off := 4) (tgt := 149) (by decide) (by decide +kernel) ?_
      cases e
      exact q_iret rfl k.1 k.2 (by decide +kernel)
  · have e := it_f c_1 e
    refine sl_ok ok_C_halvingBoth [.iconst 0, .istore 6] (pc1 := 46) (ls1 := [some (.ref 0), some (.int x1), some (.int x2), some (.int x3), some (.int x4), some (.int x5), some (.int 0)]) (st1 := []) (h1 := h) (P := True) (by decide +kernel) rfl trivial ?_
    exact lp_in e (fun s => Go E M_C_halvingBoth 46 [some (.ref 0), some (.int x1), some (.int x2), some (.int x3), some (.int s.1), some (.int x5), some (.int s.2)] [] h r hr) (Sum.elim (fun s : (Int32 × Int32) => Go E M_C_halvingBoth 31 [some (.ref 0), some (.int x1), some (.int x2), some (.int x3), some (.int s.1), some (.int s.2), none] [] h r hr) (fun v : Int32 => r = some (.int v) ∧ hr = h)) (fun _ _ e k => b_C_halvingBoth_L2  e k) k
def f_C_halvingBoth (x1 : Int32) (x2 : Int32) (h : pH) : Option Int32 :=
  if (f_Cloud_hasSet 8 x1 h) = 0 then
    some (-1)
  else
    lp (fun s => f_C_halvingBoth_L1 x1 x2 ((f_Cloud_everyone 8 h) &&& (x1 ^^^ (-1))) h s.1 s.2) lpN (0, 0)
set_option maxHeartbeats 4000000 in
theorem b_C_halvingBoth {E : pE} {r : Option Value} {hr : pH} {x1 : Int32} {x2 : Int32} {h : pH}  {b : Int32} (e : f_C_halvingBoth x1 x2 h = some b) (k : (fun v : Int32 => r = some (.int v) ∧ hr = h) b) : Go E M_C_halvingBoth 0 [some (.ref 0), some (.int x1), some (.int x2), none, none, none, none] [] h r hr := by
  unfold f_C_halvingBoth at e
  refine sl_ok ok_C_halvingBoth [.aload_n 0, .getfield 28, .iload_n 1] (pc1 := 5) (ls1 := [some (.ref 0), some (.int x1), some (.int x2), none, none, none, none]) (st1 := [.int x1, .ref 8]) (h1 := h) (P := (ak 0 = 0 ∧ cx 0 = 11) ∧ True) (by decide +kernel) rfl ⟨⟨rfl, rfl⟩, trivial⟩ ?_
  refine q_callV ok_Cloud_hasSet (as := [.int x1]) (st := []) ⟨wd_378, wd_379, wd_380, wd_14, ds_Cloud_hasSet, Nat.le_of_ble_eq_true rfl, Nat.le_of_ble_eq_true rfl⟩ (s_Cloud_hasSet ⟨rfl, rfl⟩) rfl ⟨rfl, rfl⟩ (ci := 0) rfl (fun v hv => by cases hv; rfl) (Nat.le_of_ble_eq_true rfl) (by decide +kernel) rfl ?_
  refine q_if_ne (off := 5) (tgt := 13) (by decide +kernel) (by decide) (fun c_1 => ?_) (fun c_1 => ?_)
  · have e := it_f c_1 e
    refine sl_ok ok_C_halvingBoth [.aload_n 0, .getfield 28] (pc1 := 17) (ls1 := [some (.ref 0), some (.int x1), some (.int x2), none, none, none, none]) (st1 := [.ref 8]) (h1 := h) (P := (ak 0 = 0 ∧ cx 0 = 11) ∧ True) (by decide +kernel) rfl ⟨⟨rfl, rfl⟩, trivial⟩ ?_
    refine q_callV ok_Cloud_everyone (as := []) (st := []) ⟨wd_323, wd_209, wd_210, wd_14, ds_Cloud_everyone, Nat.le_of_ble_eq_true rfl, Nat.le_of_ble_eq_true rfl⟩ (s_Cloud_everyone ⟨rfl, rfl⟩) rfl ⟨rfl, rfl⟩ (ci := 0) rfl (fun v hv => by cases hv; rfl) (Nat.le_of_ble_eq_true rfl) (by decide +kernel) rfl ?_
    refine sl_ok ok_C_halvingBoth [.iload_n 1, .iconst (-1), .ixor, .iand, .istore_n 3, .iconst 0, .istore 4, .iconst 0, .istore 5] (pc1 := 31) (ls1 := [some (.ref 0), some (.int x1), some (.int x2), some (.int ((f_Cloud_everyone 8 h) &&& (x1 ^^^ (-1)))), some (.int 0), some (.int 0), none]) (st1 := []) (h1 := h) (P := True) (by decide +kernel) rfl trivial ?_
    exact lp_in e (fun s => Go E M_C_halvingBoth 31 [some (.ref 0), some (.int x1), some (.int x2), some (.int ((f_Cloud_everyone 8 h) &&& (x1 ^^^ (-1)))), some (.int s.1), some (.int s.2), none] [] h r hr) (fun v : Int32 => r = some (.int v) ∧ hr = h) (fun _ _ e k => b_C_halvingBoth_L1  e k) k
  · have e := it_t c_1 e
    refine sl_ok ok_C_halvingBoth [.iconst (-1)] (pc1 := 12) (ls1 := [some (.ref 0), some (.int x1), some (.int x2), none, none, none, none]) (st1 := [.int (-1)]) (h1 := h) (P := True) (by decide +kernel) rfl trivial ?_
    cases e
    exact q_iret rfl k.1 k.2 (by decide +kernel)
theorem s_C_halvingBoth {E : pE} {x1 : Int32} {x2 : Int32} {h : pH}  {v : Int32} (e : f_C_halvingBoth x1 x2 h = some v) : Ct E M_C_halvingBoth [.ref 0, .int x1, .int x2] h (some (.int v)) h :=
  Ct_of ok_C_halvingBoth [some (.ref 0), some (.int x1), some (.int x2), none, none, none, none] (Nat.le_of_ble_eq_true rfl) rfl (b_C_halvingBoth  e ⟨rfl, rfl⟩)
def f_R_halvingBoth_L2 (x1 : Int32) (x2 : Int32) (x4 : Int32) (h : pH) (x3 : Int32) (x5 : Int32) : Option ((Int32 × Int32) ⊕ ((Int32 × Int32) ⊕ Int32)) :=
  if (f_R_all h) ≤ x5 then
    some (.inr (.inl (x3, (x4 + 1))))
  else
    if (f_R_has x1 x4) = 0 then
      some (.inl (x3, (x5 + 1)))
    else
      if (f_R_has x1 x5) = 0 then
        (f_R_halves x4 x5 x1 h).bind fun v_4 =>
        if v_4 = 0 then
          some (.inl (x3, (x5 + 1)))
        else
          (f_R_halves x4 x5 ((f_R_full h) &&& (x1 ^^^ (-1))) h).bind fun v_7 =>
          if v_7 = 0 then
            some (.inl (x3, (x5 + 1)))
          else
            if x3 = x2 then
              some (.inr (.inr ((16 * x4) + x5)))
            else
              some (.inl ((x3 + 1), (x5 + 1)))
      else
        some (.inl (x3, (x5 + 1)))
set_option maxHeartbeats 4000000 in
theorem b_R_halvingBoth_L2 {E : pE} {r : Option Value} {hr : pH} {x1 : Int32} {x2 : Int32} {x4 : Int32} {h : pH} {x3 : Int32} {x5 : Int32}  {b : ((Int32 × Int32) ⊕ ((Int32 × Int32) ⊕ Int32))} (e : f_R_halvingBoth_L2 x1 x2 x4 h x3 x5 = some b) (k : (Sum.elim (fun s : (Int32 × Int32) => Go E M_R_halvingBoth 31 [some (.ref 79), some (.int x1), some (.int x2), some (.int s.1), some (.int x4), some (.int s.2)] [] h r hr) (Sum.elim (fun s : (Int32 × Int32) => Go E M_R_halvingBoth 19 [some (.ref 79), some (.int x1), some (.int x2), some (.int s.1), some (.int s.2), none] [] h r hr) (fun v : Int32 => r = some (.int v) ∧ hr = h))) b) : Go E M_R_halvingBoth 31 [some (.ref 79), some (.int x1), some (.int x2), some (.int x3), some (.int x4), some (.int x5)] [] h r hr := by
  unfold f_R_halvingBoth_L2 at e
  refine sl_ok ok_R_halvingBoth [.iload 5, .aload_n 0] (pc1 := 34) (ls1 := [some (.ref 79), some (.int x1), some (.int x2), some (.int x3), some (.int x4), some (.int x5)]) (st1 := [.ref 79, .int x5]) (h1 := h) (P := True) (by decide +kernel) rfl trivial ?_
  refine q_callV ok_R_all (as := []) (st := [.int x5]) ⟨wd_151, wd_152, wd_153, wd_7, ds_R_all, Nat.le_of_ble_eq_true rfl, Nat.le_of_ble_eq_true rfl⟩ (s_R_all ) rfl ⟨rfl, rfl⟩ (ci := 12) rfl (fun v hv => by cases hv; rfl) (Nat.le_of_ble_eq_true rfl) (by decide +kernel) rfl ?_
  refine q_icmp_ge (off := 78) (tgt := 115) (by decide +kernel) (by decide) (fun c_1 => ?_) (fun c_1 => ?_)
  · have e := it_t c_1 e
    refine sl_ok ok_R_halvingBoth [.iinc 4 1] (pc1 := 118) (ls1 := [some (.ref 79), some (.int x1), some (.int x2), some (.int x3), some (.int (x4 + 1)), some (.int x5)]) (st1 := []) (h1 := h) (P := True) (by decide +kernel) rfl trivial ?_
    refine q_goto (off := -99) (tgt := 19) (by decide) (by decide +kernel) ?_
    cases e
    refine Go.sb [some (.ref 79), some (.int x1), some (.int x2), some (.int x3), some (.int (x4 + 1)), none] (And.intro rfl (And.intro rfl (And.intro rfl (And.intro rfl (And.intro rfl trivial))))) ?_
    exact k
  · have e := it_f c_1 e
    refine sl_ok ok_R_halvingBoth [.iload_n 1, .iload 4] (pc1 := 43) (ls1 := [some (.ref 79), some (.int x1), some (.int x2), some (.int x3), some (.int x4), some (.int x5)]) (st1 := [.int x4, .int x1]) (h1 := h) (P := True) (by decide +kernel) rfl trivial ?_
    refine q_callS ok_R_has (as := [.int x1, .int x4]) (st := []) ⟨wd_255, wd_256, wd_7, ds_R_has, Nat.le_of_ble_eq_true rfl, Nat.le_of_ble_eq_true rfl⟩ (s_R_has ) rfl (fun v hv => by cases hv; rfl) (Nat.le_of_ble_eq_true rfl) (by decide +kernel) rfl ?_
    refine q_if_eq (off := 63) (tgt := 109) (by decide +kernel) (by decide) (fun c_2 => ?_) (fun c_2 => ?_)
    · have e := it_t c_2 e
      refine sl_ok ok_R_halvingBoth [.iinc 5 1] (pc1 := 112) (ls1 := [some (.ref 79), some (.int x1), some (.int x2), some (.int x3), some (.int x4), some (.int (x5 + 1))]) (st1 := []) (h1 := h) (P := True) (by decide +kernel) rfl trivial ?_
      refine q_goto (off := -81) (tgt := 31) (by decide) (by decide +kernel) ?_
      cases e
      exact k
    · have e := it_f c_2 e
      refine sl_ok ok_R_halvingBoth [.iload_n 1, .iload 5] (pc1 := 52) (ls1 := [some (.ref 79), some (.int x1), some (.int x2), some (.int x3), some (.int x4), some (.int x5)]) (st1 := [.int x5, .int x1]) (h1 := h) (P := True) (by decide +kernel) rfl trivial ?_
      refine q_callS ok_R_has (as := [.int x1, .int x5]) (st := []) ⟨wd_255, wd_256, wd_7, ds_R_has, Nat.le_of_ble_eq_true rfl, Nat.le_of_ble_eq_true rfl⟩ (s_R_has ) rfl (fun v hv => by cases hv; rfl) (Nat.le_of_ble_eq_true rfl) (by decide +kernel) rfl ?_
      refine q_if_ne (off := 54) (tgt := 109) (by decide +kernel) (by decide) (fun c_3 => ?_) (fun c_3 => ?_)
      · have e := it_f c_3 e
        refine sl_ok ok_R_halvingBoth [.iinc 5 1] (pc1 := 112) (ls1 := [some (.ref 79), some (.int x1), some (.int x2), some (.int x3), some (.int x4), some (.int (x5 + 1))]) (st1 := []) (h1 := h) (P := True) (by decide +kernel) rfl trivial ?_
        refine q_goto (off := -81) (tgt := 31) (by decide) (by decide +kernel) ?_
        cases e
        exact k
      · have e := it_t c_3 e
        refine sl_ok ok_R_halvingBoth [.aload_n 0, .iload 4, .iload 5, .iload_n 1] (pc1 := 64) (ls1 := [some (.ref 79), some (.int x1), some (.int x2), some (.int x3), some (.int x4), some (.int x5)]) (st1 := [.int x1, .int x5, .int x4, .ref 79]) (h1 := h) (P := True) (by decide +kernel) rfl trivial ?_
        obtain ⟨v_4, e_5, e⟩ := bi_s e
        refine q_callV ok_R_halves (as := [.int x4, .int x5, .int x1]) (st := []) ⟨wd_327, wd_328, wd_329, wd_7, ds_R_halves, Nat.le_of_ble_eq_true rfl, Nat.le_of_ble_eq_true rfl⟩ (s_R_halves  e_5) rfl ⟨rfl, rfl⟩ (ci := 12) rfl (fun v hv => by cases hv; rfl) (Nat.le_of_ble_eq_true rfl) (by decide +kernel) rfl ?_
        refine q_if_eq (off := 42) (tgt := 109) (by decide +kernel) (by decide) (fun c_6 => ?_) (fun c_6 => ?_)
        · have e := it_t c_6 e
          refine sl_ok ok_R_halvingBoth [.iinc 5 1] (pc1 := 112) (ls1 := [some (.ref 79), some (.int x1), some (.int x2), some (.int x3), some (.int x4), some (.int (x5 + 1))]) (st1 := []) (h1 := h) (P := True) (by decide +kernel) rfl trivial ?_
          refine q_goto (off := -81) (tgt := 31) (by decide) (by decide +kernel) ?_
          cases e
          exact k
        · have e := it_f c_6 e
          refine sl_ok ok_R_halvingBoth [.aload_n 0, .iload 4, .iload 5, .aload_n 0] (pc1 := 76) (ls1 := [some (.ref 79), some (.int x1), some (.int x2), some (.int x3), some (.int x4), some (.int x5)]) (st1 := [.ref 79, .int x5, .int x4, .ref 79]) (h1 := h) (P := True) (by decide +kernel) rfl trivial ?_
          refine q_callV ok_R_full (as := []) (st := [.int x5, .int x4, .ref 79]) ⟨wd_266, wd_267, wd_268, wd_7, ds_R_full, Nat.le_of_ble_eq_true rfl, Nat.le_of_ble_eq_true rfl⟩ (s_R_full ) rfl ⟨rfl, rfl⟩ (ci := 12) rfl (fun v hv => by cases hv; rfl) (Nat.le_of_ble_eq_true rfl) (by decide +kernel) rfl ?_
          refine sl_ok ok_R_halvingBoth [.iload_n 1, .iconst (-1), .ixor, .iand] (pc1 := 83) (ls1 := [some (.ref 79), some (.int x1), some (.int x2), some (.int x3), some (.int x4), some (.int x5)]) (st1 := [.int ((f_R_full h) &&& (x1 ^^^ (-1))), .int x5, .int x4, .ref 79]) (h1 := h) (P := True) (by decide +kernel) rfl trivial ?_
          obtain ⟨v_7, e_8, e⟩ := bi_s e
          refine q_callV ok_R_halves (as := [.int x4, .int x5, .int ((f_R_full h) &&& (x1 ^^^ (-1)))]) (st := []) ⟨wd_327, wd_328, wd_329, wd_7, ds_R_halves, Nat.le_of_ble_eq_true rfl, Nat.le_of_ble_eq_true rfl⟩ (s_R_halves  e_8) rfl ⟨rfl, rfl⟩ (ci := 12) rfl (fun v hv => by cases hv; rfl) (Nat.le_of_ble_eq_true rfl) (by decide +kernel) rfl ?_
          refine q_if_ne (off := 6) (tgt := 92) (by decide +kernel) (by decide) (fun c_9 => ?_) (fun c_9 => ?_)
          · have e := it_f c_9 e
            refine sl_ok ok_R_halvingBoth [.iload_n 3, .iload_n 2] (pc1 := 94) (ls1 := [some (.ref 79), some (.int x1), some (.int x2), some (.int x3), some (.int x4), some (.int x5)]) (st1 := [.int x2, .int x3]) (h1 := h) (P := True) (by decide +kernel) rfl trivial ?_
            refine q_icmp_ne (off := 12) (tgt := 106) (by decide +kernel) (by decide) (fun c_10 => ?_) (fun c_10 => ?_)
            · have e := it_f c_10 e
              refine sl_ok ok_R_halvingBoth [.iinc 3 1, .iinc 5 1] (pc1 := 112) (ls1 := [some (.ref 79), some (.int x1), some (.int x2), some (.int (x3 + 1)), some (.int x4), some (.int (x5 + 1))]) (st1 := []) (h1 := h) (P := True) (by decide +kernel) rfl trivial ?_
              refine q_goto (off := -81) (tgt := 31) (by decide) (by decide +kernel) ?_
              cases e
              exact k
            · have e := it_t c_10 e
              refine sl_ok ok_R_halvingBoth [.bipush 16, .iload 4, .imul, .iload 5, .iadd] (pc1 := 105) (ls1 := [some (.ref 79), some (.int x1), some (.int x2), some (.int x3), some (.int x4), some (.int x5)]) (st1 := [.int ((16 * x4) + x5)]) (h1 := h) (P := True) (by decide +kernel) rfl trivial ?_
              cases e
              exact q_iret rfl k.1 k.2 (by decide +kernel)
          · have e := it_t c_9 e
            refine q_goto (off := 20) (tgt := 109) (by decide) (by decide +kernel) ?_
            refine sl_ok ok_R_halvingBoth [.iinc 5 1] (pc1 := 112) (ls1 := [some (.ref 79), some (.int x1), some (.int x2), some (.int x3), some (.int x4), some (.int (x5 + 1))]) (st1 := []) (h1 := h) (P := True) (by decide +kernel) rfl trivial ?_
            refine q_goto (off := -81) (tgt := 31) (by decide) (by decide +kernel) ?_
            cases e
            exact k
def f_R_halvingBoth_L1 (x1 : Int32) (x2 : Int32) (h : pH) (x3 : Int32) (x4 : Int32) : Option ((Int32 × Int32) ⊕ Int32) :=
  if (f_R_all h) ≤ x4 then
    if x2 = (-1) then
      some (.inr x3)
    else
      some (.inr (-1))
  else
    lp (fun s => f_R_halvingBoth_L2 x1 x2 x4 h s.1 s.2) lpN (x3, 0)
set_option maxHeartbeats 4000000 in
theorem b_R_halvingBoth_L1 {E : pE} {r : Option Value} {hr : pH} {x1 : Int32} {x2 : Int32} {h : pH} {x3 : Int32} {x4 : Int32}  {b : ((Int32 × Int32) ⊕ Int32)} (e : f_R_halvingBoth_L1 x1 x2 h x3 x4 = some b) (k : (Sum.elim (fun s : (Int32 × Int32) => Go E M_R_halvingBoth 19 [some (.ref 79), some (.int x1), some (.int x2), some (.int s.1), some (.int s.2), none] [] h r hr) (fun v : Int32 => r = some (.int v) ∧ hr = h)) b) : Go E M_R_halvingBoth 19 [some (.ref 79), some (.int x1), some (.int x2), some (.int x3), some (.int x4), none] [] h r hr := by
  unfold f_R_halvingBoth_L1 at e
  refine sl_ok ok_R_halvingBoth [.iload 4, .aload_n 0] (pc1 := 22) (ls1 := [some (.ref 79), some (.int x1), some (.int x2), some (.int x3), some (.int x4), none]) (st1 := [.ref 79, .int x4]) (h1 := h) (P := True) (by decide +kernel) rfl trivial ?_
  refine q_callV ok_R_all (as := []) (st := [.int x4]) ⟨wd_151, wd_152, wd_153, wd_7, ds_R_all, Nat.le_of_ble_eq_true rfl, Nat.le_of_ble_eq_true rfl⟩ (s_R_all ) rfl ⟨rfl, rfl⟩ (ci := 12) rfl (fun v hv => by cases hv; rfl) (Nat.le_of_ble_eq_true rfl) (by decide +kernel) rfl ?_
  refine q_icmp_ge (off := 96) (tgt := 121) (by decide +kernel) (by decide) (fun c_1 => ?_) (fun c_1 => ?_)
  · have e := it_t c_1 e
    refine sl_ok ok_R_halvingBoth [.iload_n 2, .iconst (-1)] (pc1 := 123) (ls1 := [some (.ref 79), some (.int x1), some (.int x2), some (.int x3), some (.int x4), none]) (st1 := [.int (-1), .int x2]) (h1 := h) (P := True) (by decide +kernel) rfl trivial ?_
    refine q_icmp_ne (off := 7) (tgt := 130) (by decide +kernel) (by decide) (fun c_2 => ?_) (fun c_2 => ?_)
    · have e := it_f c_2 e
      refine sl_ok ok_R_halvingBoth [.iconst (-1)] (pc1 := 131) (ls1 := [some (.ref 79), some (.int x1), some (.int x2), some (.int x3), some (.int x4), none]) (st1 := [.int (-1)]) (h1 := h) (P := True) (by decide +kernel) rfl trivial ?_
      cases e
      exact q_iret rfl k.1 k.2 (by decide +kernel)
    · have e := it_t c_2 e
      refine sl_ok ok_R_halvingBoth [.iload_n 3] (pc1 := 127) (ls1 := [some (.ref 79), some (.int x1), some (.int x2), some (.int x3), some (.int x4), none]) (st1 := [.int x3]) (h1 := h) (P := True) (by decide +kernel) rfl trivial ?_
      refine q_goto (off := 4) (tgt := 131) (by decide) (by decide +kernel) ?_
      cases e
      exact q_iret rfl k.1 k.2 (by decide +kernel)
  · have e := it_f c_1 e
    refine sl_ok ok_R_halvingBoth [.iconst 0, .istore 5] (pc1 := 31) (ls1 := [some (.ref 79), some (.int x1), some (.int x2), some (.int x3), some (.int x4), some (.int 0)]) (st1 := []) (h1 := h) (P := True) (by decide +kernel) rfl trivial ?_
    exact lp_in e (fun s => Go E M_R_halvingBoth 31 [some (.ref 79), some (.int x1), some (.int x2), some (.int s.1), some (.int x4), some (.int s.2)] [] h r hr) (Sum.elim (fun s : (Int32 × Int32) => Go E M_R_halvingBoth 19 [some (.ref 79), some (.int x1), some (.int x2), some (.int s.1), some (.int s.2), none] [] h r hr) (fun v : Int32 => r = some (.int v) ∧ hr = h)) (fun _ _ e k => b_R_halvingBoth_L2  e k) k
def f_R_halvingBoth (x1 : Int32) (x2 : Int32) (h : pH) : Option Int32 :=
  if (f_R_in x1 (0 : Int32) (f_R_full h)) = 0 then
    some (-1)
  else
    lp (fun s => f_R_halvingBoth_L1 x1 x2 h s.1 s.2) lpN (0, 0)
set_option maxHeartbeats 4000000 in
theorem b_R_halvingBoth {E : pE} {r : Option Value} {hr : pH} {x1 : Int32} {x2 : Int32} {h : pH}  {b : Int32} (e : f_R_halvingBoth x1 x2 h = some b) (k : (fun v : Int32 => r = some (.int v) ∧ hr = h) b) : Go E M_R_halvingBoth 0 [some (.ref 79), some (.int x1), some (.int x2), none, none, none] [] h r hr := by
  unfold f_R_halvingBoth at e
  refine sl_ok ok_R_halvingBoth [.iload_n 1, .iconst 0, .aload_n 0] (pc1 := 3) (ls1 := [some (.ref 79), some (.int x1), some (.int x2), none, none, none]) (st1 := [.ref 79, .int 0, .int x1]) (h1 := h) (P := True) (by decide +kernel) rfl trivial ?_
  refine q_callV ok_R_full (as := []) (st := [.int 0, .int x1]) ⟨wd_266, wd_267, wd_268, wd_7, ds_R_full, Nat.le_of_ble_eq_true rfl, Nat.le_of_ble_eq_true rfl⟩ (s_R_full ) rfl ⟨rfl, rfl⟩ (ci := 12) rfl (fun v hv => by cases hv; rfl) (Nat.le_of_ble_eq_true rfl) (by decide +kernel) rfl ?_
  refine q_callS ok_R_in (as := [.int x1, .int 0, .int (f_R_full h)]) (st := []) ⟨wd_127, wd_128, wd_7, ds_R_in, Nat.le_of_ble_eq_true rfl, Nat.le_of_ble_eq_true rfl⟩ (s_R_in ) rfl (fun v hv => by cases hv; rfl) (Nat.le_of_ble_eq_true rfl) (by decide +kernel) rfl ?_
  refine q_if_ne (off := 5) (tgt := 14) (by decide +kernel) (by decide) (fun c_1 => ?_) (fun c_1 => ?_)
  · have e := it_f c_1 e
    refine sl_ok ok_R_halvingBoth [.iconst 0, .istore_n 3, .iconst 0, .istore 4] (pc1 := 19) (ls1 := [some (.ref 79), some (.int x1), some (.int x2), some (.int 0), some (.int 0), none]) (st1 := []) (h1 := h) (P := True) (by decide +kernel) rfl trivial ?_
    exact lp_in e (fun s => Go E M_R_halvingBoth 19 [some (.ref 79), some (.int x1), some (.int x2), some (.int s.1), some (.int s.2), none] [] h r hr) (fun v : Int32 => r = some (.int v) ∧ hr = h) (fun _ _ e k => b_R_halvingBoth_L1  e k) k
  · have e := it_t c_1 e
    refine sl_ok ok_R_halvingBoth [.iconst (-1)] (pc1 := 13) (ls1 := [some (.ref 79), some (.int x1), some (.int x2), none, none, none]) (st1 := [.int (-1)]) (h1 := h) (P := True) (by decide +kernel) rfl trivial ?_
    cases e
    exact q_iret rfl k.1 k.2 (by decide +kernel)
theorem s_R_halvingBoth {E : pE} {x1 : Int32} {x2 : Int32} {h : pH}  {v : Int32} (e : f_R_halvingBoth x1 x2 h = some v) : Ct E M_R_halvingBoth [.ref 79, .int x1, .int x2] h (some (.int v)) h :=
  Ct_of ok_R_halvingBoth [some (.ref 79), some (.int x1), some (.int x2), none, none, none] (Nat.le_of_ble_eq_true rfl) rfl (b_R_halvingBoth  e ⟨rfl, rfl⟩)
def f_Shapes_hasThreeOnOneLine_L2 (o0 : Nat) (x1 : Int32) (x2 : Int32) (h : pH) (x3 : Int32) : Option (Int32 ⊕ (Int32 ⊕ Int32)) :=
  if (hI h o0 2) ≤ x3 then
    some (.inr (.inl (x2 + 1)))
  else
    if (f_C_bit x1 x2) = 1 then
      if (f_C_bit x1 x3) = 1 then
        (f_Cloud_sideBits o0 x2 x3 (0 : Int32) h).bind fun v_4 =>
        if (v_4 &&& x1) = 0 then
          some (.inl (x3 + 1))
        else
          some (.inr (.inr 1))
      else
        some (.inl (x3 + 1))
    else
      some (.inl (x3 + 1))
set_option maxHeartbeats 4000000 in
theorem b_Shapes_hasThreeOnOneLine_L2 {E : pE} {r : Option Value} {hr : pH} {o0 : Nat} {x1 : Int32} {x2 : Int32} {h : pH} {x3 : Int32} (ho0 : ak o0 = 0 ∧ cx o0 = 0) {b : (Int32 ⊕ (Int32 ⊕ Int32))} (e : f_Shapes_hasThreeOnOneLine_L2 o0 x1 x2 h x3 = some b) (k : (Sum.elim (fun s : Int32 => Go E M_Shapes_hasThreeOnOneLine 14 [some (.ref o0), some (.int x1), some (.int x2), some (.int s)] [] h r hr) (Sum.elim (fun s : Int32 => Go E M_Shapes_hasThreeOnOneLine 2 [some (.ref o0), some (.int x1), some (.int s), none] [] h r hr) (fun v : Int32 => r = some (.int v) ∧ hr = h))) b) : Go E M_Shapes_hasThreeOnOneLine 14 [some (.ref o0), some (.int x1), some (.int x2), some (.int x3)] [] h r hr := by
  unfold f_Shapes_hasThreeOnOneLine_L2 at e
  refine sl_ok ok_Shapes_hasThreeOnOneLine [.iload_n 3, .aload_n 0, .getfield 18] (pc1 := 19) (ls1 := [some (.ref o0), some (.int x1), some (.int x2), some (.int x3)]) (st1 := [.int (hI h o0 2), .int x3]) (h1 := h) (P := (ak o0 = 0 ∧ cx o0 = 0) ∧ True) (by decide +kernel) rfl ⟨ho0, trivial⟩ ?_
  refine q_icmp_ge (off := 41) (tgt := 60) (by decide +kernel) (by decide) (fun c_1 => ?_) (fun c_1 => ?_)
  · have e := it_t c_1 e
    refine sl_ok ok_Shapes_hasThreeOnOneLine [.iinc 2 1] (pc1 := 63) (ls1 := [some (.ref o0), some (.int x1), some (.int (x2 + 1)), some (.int x3)]) (st1 := []) (h1 := h) (P := True) (by decide +kernel) rfl trivial ?_
    refine q_goto (off := -61) (tgt := 2) (by decide) (by decide +kernel) ?_
    cases e
    refine Go.sb [some (.ref o0), some (.int x1), some (.int (x2 + 1)), none] (And.intro rfl (And.intro rfl (And.intro rfl trivial))) ?_
    exact k
  · have e := it_f c_1 e
    refine sl_ok ok_Shapes_hasThreeOnOneLine [.iload_n 1, .iload_n 2] (pc1 := 24) (ls1 := [some (.ref o0), some (.int x1), some (.int x2), some (.int x3)]) (st1 := [.int x2, .int x1]) (h1 := h) (P := True) (by decide +kernel) rfl trivial ?_
    refine q_callSN ok_C_bit (as := [.int x1, .int x2]) (st := []) ⟨(List.mem_of_getElem? (i := 16) rfl), wd_201, wd_48, ds_C_bit, Nat.le_of_ble_eq_true rfl, Nat.le_of_ble_eq_true rfl⟩ (s_C_bit ) rfl (fun v hv => by cases hv; rfl) (Nat.le_of_ble_eq_true rfl) (by decide +kernel) rfl ?_
    refine sl_ok ok_Shapes_hasThreeOnOneLine [.iconst 1] (pc1 := 28) (ls1 := [some (.ref o0), some (.int x1), some (.int x2), some (.int x3)]) (st1 := [.int 1, .int (f_C_bit x1 x2)]) (h1 := h) (P := True) (by decide +kernel) rfl trivial ?_
    refine q_icmp_ne (off := 26) (tgt := 54) (by decide +kernel) (by decide) (fun c_2 => ?_) (fun c_2 => ?_)
    · have e := it_f c_2 e
      refine sl_ok ok_Shapes_hasThreeOnOneLine [.iinc 3 1] (pc1 := 57) (ls1 := [some (.ref o0), some (.int x1), some (.int x2), some (.int (x3 + 1))]) (st1 := []) (h1 := h) (P := True) (by decide +kernel) rfl trivial ?_
      refine q_goto (off := -43) (tgt := 14) (by decide) (by decide +kernel) ?_
      cases e
      exact k
    · have e := it_t c_2 e
      refine sl_ok ok_Shapes_hasThreeOnOneLine [.iload_n 1, .iload_n 3] (pc1 := 33) (ls1 := [some (.ref o0), some (.int x1), some (.int x2), some (.int x3)]) (st1 := [.int x3, .int x1]) (h1 := h) (P := True) (by decide +kernel) rfl trivial ?_
      refine q_callSN ok_C_bit (as := [.int x1, .int x3]) (st := []) ⟨(List.mem_of_getElem? (i := 16) rfl), wd_201, wd_48, ds_C_bit, Nat.le_of_ble_eq_true rfl, Nat.le_of_ble_eq_true rfl⟩ (s_C_bit ) rfl (fun v hv => by cases hv; rfl) (Nat.le_of_ble_eq_true rfl) (by decide +kernel) rfl ?_
      refine sl_ok ok_Shapes_hasThreeOnOneLine [.iconst 1] (pc1 := 37) (ls1 := [some (.ref o0), some (.int x1), some (.int x2), some (.int x3)]) (st1 := [.int 1, .int (f_C_bit x1 x3)]) (h1 := h) (P := True) (by decide +kernel) rfl trivial ?_
      refine q_icmp_ne (off := 17) (tgt := 54) (by decide +kernel) (by decide) (fun c_3 => ?_) (fun c_3 => ?_)
      · have e := it_f c_3 e
        refine sl_ok ok_Shapes_hasThreeOnOneLine [.iinc 3 1] (pc1 := 57) (ls1 := [some (.ref o0), some (.int x1), some (.int x2), some (.int (x3 + 1))]) (st1 := []) (h1 := h) (P := True) (by decide +kernel) rfl trivial ?_
        refine q_goto (off := -43) (tgt := 14) (by decide) (by decide +kernel) ?_
        cases e
        exact k
      · have e := it_t c_3 e
        refine sl_ok ok_Shapes_hasThreeOnOneLine [.aload_n 0, .iload_n 2, .iload_n 3, .iconst 0] (pc1 := 44) (ls1 := [some (.ref o0), some (.int x1), some (.int x2), some (.int x3)]) (st1 := [.int 0, .int x3, .int x2, .ref o0]) (h1 := h) (P := True) (by decide +kernel) rfl trivial ?_
        obtain ⟨v_4, e_5, e⟩ := bi_s e
        refine q_callV ok_Cloud_sideBits (as := [.int x2, .int x3, .int 0]) (st := []) ⟨wd_485, wd_203, wd_204, wd_14, ds_Cloud_sideBits, Nat.le_of_ble_eq_true rfl, Nat.le_of_ble_eq_true rfl⟩ (s_Cloud_sideBits ho0 e_5) rfl ho0 (ci := 0) rfl (fun v hv => by cases hv; rfl) (Nat.le_of_ble_eq_true rfl) (by decide +kernel) rfl ?_
        refine sl_ok ok_Shapes_hasThreeOnOneLine [.iload_n 1, .iand] (pc1 := 49) (ls1 := [some (.ref o0), some (.int x1), some (.int x2), some (.int x3)]) (st1 := [.int (v_4 &&& x1)]) (h1 := h) (P := True) (by decide +kernel) rfl trivial ?_
        refine q_if_eq (off := 5) (tgt := 54) (by decide +kernel) (by decide) (fun c_6 => ?_) (fun c_6 => ?_)
        · have e := it_t c_6 e
          refine sl_ok ok_Shapes_hasThreeOnOneLine [.iinc 3 1] (pc1 := 57) (ls1 := [some (.ref o0), some (.int x1), some (.int x2), some (.int (x3 + 1))]) (st1 := []) (h1 := h) (P := True) (by decide +kernel) rfl trivial ?_
          refine q_goto (off := -43) (tgt := 14) (by decide) (by decide +kernel) ?_
          cases e
          exact k
        · have e := it_f c_6 e
          refine sl_ok ok_Shapes_hasThreeOnOneLine [.iconst 1] (pc1 := 53) (ls1 := [some (.ref o0), some (.int x1), some (.int x2), some (.int x3)]) (st1 := [.int 1]) (h1 := h) (P := True) (by decide +kernel) rfl trivial ?_
          cases e
          exact q_zret rfl (Or.inr rfl) k.1 k.2 (by decide +kernel)
def f_Shapes_hasThreeOnOneLine_L1 (o0 : Nat) (x1 : Int32) (h : pH) (x2 : Int32) : Option (Int32 ⊕ Int32) :=
  if (hI h o0 2) ≤ x2 then
    some (.inr 0)
  else
    lp (fun s => f_Shapes_hasThreeOnOneLine_L2 o0 x1 x2 h s) lpN (x2 + 1)
set_option maxHeartbeats 4000000 in
theorem b_Shapes_hasThreeOnOneLine_L1 {E : pE} {r : Option Value} {hr : pH} {o0 : Nat} {x1 : Int32} {h : pH} {x2 : Int32} (ho0 : ak o0 = 0 ∧ cx o0 = 0) {b : (Int32 ⊕ Int32)} (e : f_Shapes_hasThreeOnOneLine_L1 o0 x1 h x2 = some b) (k : (Sum.elim (fun s : Int32 => Go E M_Shapes_hasThreeOnOneLine 2 [some (.ref o0), some (.int x1), some (.int s), none] [] h r hr) (fun v : Int32 => r = some (.int v) ∧ hr = h)) b) : Go E M_Shapes_hasThreeOnOneLine 2 [some (.ref o0), some (.int x1), some (.int x2), none] [] h r hr := by
  unfold f_Shapes_hasThreeOnOneLine_L1 at e
  refine sl_ok ok_Shapes_hasThreeOnOneLine [.iload_n 2, .aload_n 0, .getfield 18] (pc1 := 7) (ls1 := [some (.ref o0), some (.int x1), some (.int x2), none]) (st1 := [.int (hI h o0 2), .int x2]) (h1 := h) (P := (ak o0 = 0 ∧ cx o0 = 0) ∧ True) (by decide +kernel) rfl ⟨ho0, trivial⟩ ?_
  refine q_icmp_ge (off := 59) (tgt := 66) (by decide +kernel) (by decide) (fun c_1 => ?_) (fun c_1 => ?_)
  · have e := it_t c_1 e
    refine sl_ok ok_Shapes_hasThreeOnOneLine [.iconst 0] (pc1 := 67) (ls1 := [some (.ref o0), some (.int x1), some (.int x2), none]) (st1 := [.int 0]) (h1 := h) (P := True) (by decide +kernel) rfl trivial ?_
    cases e
    exact q_zret rfl (Or.inl rfl) k.1 k.2 (by decide +kernel)
  · have e := it_f c_1 e
    refine sl_ok ok_Shapes_hasThreeOnOneLine [.iload_n 2, .iconst 1, .iadd, .istore_n 3] (pc1 := 14) (ls1 := [some (.ref o0), some (.int x1), some (.int x2), some (.int (x2 + 1))]) (st1 := []) (h1 := h) (P := True) (by decide +kernel) rfl trivial ?_
    exact lp_in e (fun s => Go E M_Shapes_hasThreeOnOneLine 14 [some (.ref o0), some (.int x1), some (.int x2), some (.int s)] [] h r hr) (Sum.elim (fun s : Int32 => Go E M_Shapes_hasThreeOnOneLine 2 [some (.ref o0), some (.int x1), some (.int s), none] [] h r hr) (fun v : Int32 => r = some (.int v) ∧ hr = h)) (fun _ _ e k => b_Shapes_hasThreeOnOneLine_L2 ho0 e k) k
def f_Shapes_hasThreeOnOneLine (o0 : Nat) (x1 : Int32) (h : pH) : Option Int32 :=
  lp (fun s => f_Shapes_hasThreeOnOneLine_L1 o0 x1 h s) lpN 0
set_option maxHeartbeats 4000000 in
theorem b_Shapes_hasThreeOnOneLine {E : pE} {r : Option Value} {hr : pH} {o0 : Nat} {x1 : Int32} {h : pH} (ho0 : ak o0 = 0 ∧ cx o0 = 0) {b : Int32} (e : f_Shapes_hasThreeOnOneLine o0 x1 h = some b) (k : (fun v : Int32 => r = some (.int v) ∧ hr = h) b) : Go E M_Shapes_hasThreeOnOneLine 0 [some (.ref o0), some (.int x1), none, none] [] h r hr := by
  unfold f_Shapes_hasThreeOnOneLine at e
  refine sl_ok ok_Shapes_hasThreeOnOneLine [.iconst 0, .istore_n 2] (pc1 := 2) (ls1 := [some (.ref o0), some (.int x1), some (.int 0), none]) (st1 := []) (h1 := h) (P := True) (by decide +kernel) rfl trivial ?_
  exact lp_in e (fun s => Go E M_Shapes_hasThreeOnOneLine 2 [some (.ref o0), some (.int x1), some (.int s), none] [] h r hr) (fun v : Int32 => r = some (.int v) ∧ hr = h) (fun _ _ e k => b_Shapes_hasThreeOnOneLine_L1 ho0 e k) k
theorem s_Shapes_hasThreeOnOneLine {E : pE} {o0 : Nat} {x1 : Int32} {h : pH} (ho0 : ak o0 = 0 ∧ cx o0 = 0) {v : Int32} (e : f_Shapes_hasThreeOnOneLine o0 x1 h = some v) : Ct E M_Shapes_hasThreeOnOneLine [.ref o0, .int x1] h (some (.int v)) h :=
  Ct_of ok_Shapes_hasThreeOnOneLine [some (.ref o0), some (.int x1), none, none] (Nat.le_of_ble_eq_true rfl) rfl (b_Shapes_hasThreeOnOneLine ho0 e ⟨rfl, rfl⟩)
def f_Shapes_innerOf_L1 (o0 : Nat) (x1 : Int32) (h : pH) (x2 : Int32) : Option (Int32 ⊕ Int32) :=
  if (hI h o0 2) ≤ x2 then
    some (.inr (-1))
  else
    if (f_C_bit x1 x2) = 1 then
      if x2 < 0 ∨ 12 ≤ x2.toNatClampNeg then none else
      (f_Shapes_covers o0 (x1 &&& ((jshl 1 x2) ^^^ (-1))) (hI h (rf o0 0) x2.toNatClampNeg) (hI h (rf o0 1) x2.toNatClampNeg) h).bind fun v_4 =>
      if v_4 = 0 then
        some (.inl (x2 + 1))
      else
        some (.inr x2)
    else
      some (.inl (x2 + 1))
set_option maxHeartbeats 4000000 in
theorem b_Shapes_innerOf_L1 {E : pE} {r : Option Value} {hr : pH} {o0 : Nat} {x1 : Int32} {h : pH} {x2 : Int32} (ho0 : ak o0 = 0 ∧ cx o0 = 0) {b : (Int32 ⊕ Int32)} (e : f_Shapes_innerOf_L1 o0 x1 h x2 = some b) (k : (Sum.elim (fun s : Int32 => Go E M_Shapes_innerOf 2 [some (.ref o0), some (.int x1), some (.int s)] [] h r hr) (fun v : Int32 => r = some (.int v) ∧ hr = h)) b) : Go E M_Shapes_innerOf 2 [some (.ref o0), some (.int x1), some (.int x2)] [] h r hr := by
  unfold f_Shapes_innerOf_L1 at e
  refine sl_ok ok_Shapes_innerOf [.iload_n 2, .aload_n 0, .getfield 18] (pc1 := 7) (ls1 := [some (.ref o0), some (.int x1), some (.int x2)]) (st1 := [.int (hI h o0 2), .int x2]) (h1 := h) (P := (ak o0 = 0 ∧ cx o0 = 0) ∧ True) (by decide +kernel) rfl ⟨ho0, trivial⟩ ?_
  refine q_icmp_ge (off := 46) (tgt := 53) (by decide +kernel) (by decide) (fun c_1 => ?_) (fun c_1 => ?_)
  · have e := it_t c_1 e
    refine sl_ok ok_Shapes_innerOf [.iconst (-1)] (pc1 := 54) (ls1 := [some (.ref o0), some (.int x1), some (.int x2)]) (st1 := [.int (-1)]) (h1 := h) (P := True) (by decide +kernel) rfl trivial ?_
    cases e
    exact q_iret rfl k.1 k.2 (by decide +kernel)
  · have e := it_f c_1 e
    refine sl_ok ok_Shapes_innerOf [.iload_n 1, .iload_n 2] (pc1 := 12) (ls1 := [some (.ref o0), some (.int x1), some (.int x2)]) (st1 := [.int x2, .int x1]) (h1 := h) (P := True) (by decide +kernel) rfl trivial ?_
    refine q_callSN ok_C_bit (as := [.int x1, .int x2]) (st := []) ⟨(List.mem_of_getElem? (i := 16) rfl), wd_201, wd_48, ds_C_bit, Nat.le_of_ble_eq_true rfl, Nat.le_of_ble_eq_true rfl⟩ (s_C_bit ) rfl (fun v hv => by cases hv; rfl) (Nat.le_of_ble_eq_true rfl) (by decide +kernel) rfl ?_
    refine sl_ok ok_Shapes_innerOf [.iconst 1] (pc1 := 16) (ls1 := [some (.ref o0), some (.int x1), some (.int x2)]) (st1 := [.int 1, .int (f_C_bit x1 x2)]) (h1 := h) (P := True) (by decide +kernel) rfl trivial ?_
    refine q_icmp_ne (off := 31) (tgt := 47) (by decide +kernel) (by decide) (fun c_2 => ?_) (fun c_2 => ?_)
    · have e := it_f c_2 e
      refine sl_ok ok_Shapes_innerOf [.iinc 2 1] (pc1 := 50) (ls1 := [some (.ref o0), some (.int x1), some (.int (x2 + 1))]) (st1 := []) (h1 := h) (P := True) (by decide +kernel) rfl trivial ?_
      refine q_goto (off := -48) (tgt := 2) (by decide) (by decide +kernel) ?_
      cases e
      exact k
    · have e := it_t c_2 e
      obtain ⟨g_3, e⟩ := it_g e
      refine sl_ok ok_Shapes_innerOf [.aload_n 0, .iload_n 1, .iconst 1, .iload_n 2, .ishl, .iconst (-1), .ixor, .iand, .aload_n 0, .getfield 40, .iload_n 2, .iaload, .aload_n 0, .getfield 44, .iload_n 2, .iaload] (pc1 := 39) (ls1 := [some (.ref o0), some (.int x1), some (.int x2)]) (st1 := [.int (hI h (rf o0 1) x2.toNatClampNeg), .int (hI h (rf o0 0) x2.toNatClampNeg), .int (x1 &&& ((jshl 1 x2) ^^^ (-1))), .ref o0]) (h1 := h) (P := (ak o0 = 0 ∧ cx o0 = 0) ∧ (ak (rf o0 0) = 1 ∧ ¬ (x2 < 0 ∨ cx (rf o0 0) ≤ x2.toNatClampNeg)) ∧ (ak o0 = 0 ∧ cx o0 = 0) ∧ (ak (rf o0 1) = 1 ∧ ¬ (x2 < 0 ∨ cx (rf o0 1) ≤ x2.toNatClampNeg)) ∧ True) (by decide +kernel) rfl ⟨ho0, ⟨(st_0_0 ho0).1, (by rw [(st_0_0 ho0).2]; exact g_3)⟩, ho0, ⟨(st_0_1 ho0).1, (by rw [(st_0_1 ho0).2]; exact g_3)⟩, trivial⟩ ?_
      obtain ⟨v_4, e_5, e⟩ := bi_s e
      refine q_callS ok_Shapes_covers (as := [.ref o0, .int (x1 &&& ((jshl 1 x2) ^^^ (-1))), .int (hI h (rf o0 0) x2.toNatClampNeg), .int (hI h (rf o0 1) x2.toNatClampNeg)]) (st := []) ⟨wd_404, wd_405, wd_231, ds_Shapes_covers, Nat.le_of_ble_eq_true rfl, Nat.le_of_ble_eq_true rfl⟩ (s_Shapes_covers ho0 e_5) rfl (fun v hv => by cases hv; rfl) (Nat.le_of_ble_eq_true rfl) (by decide +kernel) rfl ?_
      refine q_if_eq (off := 5) (tgt := 47) (by decide +kernel) (by decide) (fun c_6 => ?_) (fun c_6 => ?_)
      · have e := it_t c_6 e
        refine sl_ok ok_Shapes_innerOf [.iinc 2 1] (pc1 := 50) (ls1 := [some (.ref o0), some (.int x1), some (.int (x2 + 1))]) (st1 := []) (h1 := h) (P := True) (by decide +kernel) rfl trivial ?_
        refine q_goto (off := -48) (tgt := 2) (by decide) (by decide +kernel) ?_
        cases e
        exact k
      · have e := it_f c_6 e
        refine sl_ok ok_Shapes_innerOf [.iload_n 2] (pc1 := 46) (ls1 := [some (.ref o0), some (.int x1), some (.int x2)]) (st1 := [.int x2]) (h1 := h) (P := True) (by decide +kernel) rfl trivial ?_
        cases e
        exact q_iret rfl k.1 k.2 (by decide +kernel)
def f_Shapes_innerOf (o0 : Nat) (x1 : Int32) (h : pH) : Option Int32 :=
  lp (fun s => f_Shapes_innerOf_L1 o0 x1 h s) lpN 0
set_option maxHeartbeats 4000000 in
theorem b_Shapes_innerOf {E : pE} {r : Option Value} {hr : pH} {o0 : Nat} {x1 : Int32} {h : pH} (ho0 : ak o0 = 0 ∧ cx o0 = 0) {b : Int32} (e : f_Shapes_innerOf o0 x1 h = some b) (k : (fun v : Int32 => r = some (.int v) ∧ hr = h) b) : Go E M_Shapes_innerOf 0 [some (.ref o0), some (.int x1), none] [] h r hr := by
  unfold f_Shapes_innerOf at e
  refine sl_ok ok_Shapes_innerOf [.iconst 0, .istore_n 2] (pc1 := 2) (ls1 := [some (.ref o0), some (.int x1), some (.int 0)]) (st1 := []) (h1 := h) (P := True) (by decide +kernel) rfl trivial ?_
  exact lp_in e (fun s => Go E M_Shapes_innerOf 2 [some (.ref o0), some (.int x1), some (.int s)] [] h r hr) (fun v : Int32 => r = some (.int v) ∧ hr = h) (fun _ _ e k => b_Shapes_innerOf_L1 ho0 e k) k
theorem s_Shapes_innerOf {E : pE} {o0 : Nat} {x1 : Int32} {h : pH} (ho0 : ak o0 = 0 ∧ cx o0 = 0) {v : Int32} (e : f_Shapes_innerOf o0 x1 h = some v) : Ct E M_Shapes_innerOf [.ref o0, .int x1] h (some (.int v)) h :=
  Ct_of ok_Shapes_innerOf [some (.ref o0), some (.int x1), none] (Nat.le_of_ble_eq_true rfl) rfl (b_Shapes_innerOf ho0 e ⟨rfl, rfl⟩)
def f_Shapes_meet (o0 : Nat) (x1 : Int32) (x2 : Int32) (x3 : Int32) (h : pH) : Option Int32 :=
  if (f_Cloud_has o0 x1 h) = 0 then
    some 0
  else
    if (f_Cloud_has o0 x2 h) = 0 then
      some 0
    else
      if (f_Cloud_has o0 (f_Shapes_leastOf x3) h) = 0 then
        some 0
      else
        if (f_Cloud_has o0 (f_Shapes_leastOf (x3 &&& ((jshl 1 (f_Shapes_leastOf x3)) ^^^ (-1)))) h) = 0 then
          some 0
        else
          (f_Cloud_turnOf o0 x1 x2 (f_Shapes_leastOf x3) h).bind fun v_5 =>
          (f_Cloud_turnOf o0 x1 x2 (f_Shapes_leastOf (x3 &&& ((jshl 1 (f_Shapes_leastOf x3)) ^^^ (-1)))) h).bind fun v_7 =>
          if 0 ≤ ((f_C_signOf v_5) * (f_C_signOf v_7)) then
            some 0
          else
            (f_Cloud_turnOf o0 (f_Shapes_leastOf x3) (f_Shapes_leastOf (x3 &&& ((jshl 1 (f_Shapes_leastOf x3)) ^^^ (-1)))) x1 h).bind fun v_10 =>
            (f_Cloud_turnOf o0 (f_Shapes_leastOf x3) (f_Shapes_leastOf (x3 &&& ((jshl 1 (f_Shapes_leastOf x3)) ^^^ (-1)))) x2 h).bind fun v_12 =>
            if 0 ≤ ((f_C_signOf v_10) * (f_C_signOf v_12)) then
              some 0
            else
              some 1
set_option maxHeartbeats 4000000 in
theorem b_Shapes_meet {E : pE} {r : Option Value} {hr : pH} {o0 : Nat} {x1 : Int32} {x2 : Int32} {x3 : Int32} {h : pH} (ho0 : ak o0 = 0 ∧ cx o0 = 0) {b : Int32} (e : f_Shapes_meet o0 x1 x2 x3 h = some b) (k : (fun v : Int32 => r = some (.int v) ∧ hr = h) b) : Go E M_Shapes_meet 0 [some (.ref o0), some (.int x1), some (.int x2), some (.int x3), none, none] [] h r hr := by
  unfold f_Shapes_meet at e
  refine sl_ok ok_Shapes_meet [.iload_n 3] (pc1 := 1) (ls1 := [some (.ref o0), some (.int x1), some (.int x2), some (.int x3), none, none]) (st1 := [.int x3]) (h1 := h) (P := True) (by decide +kernel) rfl trivial ?_
  refine q_callS ok_Shapes_leastOf (as := [.int x3]) (st := []) ⟨wd_399, wd_400, wd_231, ds_Shapes_leastOf, Nat.le_of_ble_eq_true rfl, Nat.le_of_ble_eq_true rfl⟩ (s_Shapes_leastOf ) rfl (fun v hv => by cases hv; rfl) (Nat.le_of_ble_eq_true rfl) (by decide +kernel) rfl ?_
  refine sl_ok ok_Shapes_meet [.istore 4, .iload_n 3, .iconst 1, .iload 4, .ishl, .iconst (-1), .ixor, .iand] (pc1 := 14) (ls1 := [some (.ref o0), some (.int x1), some (.int x2), some (.int x3), some (.int (f_Shapes_leastOf x3)), none]) (st1 := [.int (x3 &&& ((jshl 1 (f_Shapes_leastOf x3)) ^^^ (-1)))]) (h1 := h) (P := True) (by decide +kernel) rfl trivial ?_
  refine q_callS ok_Shapes_leastOf (as := [.int (x3 &&& ((jshl 1 (f_Shapes_leastOf x3)) ^^^ (-1)))]) (st := []) ⟨wd_399, wd_400, wd_231, ds_Shapes_leastOf, Nat.le_of_ble_eq_true rfl, Nat.le_of_ble_eq_true rfl⟩ (s_Shapes_leastOf ) rfl (fun v hv => by cases hv; rfl) (Nat.le_of_ble_eq_true rfl) (by decide +kernel) rfl ?_
  refine sl_ok ok_Shapes_meet [.istore 5, .aload_n 0, .iload_n 1] (pc1 := 21) (ls1 := [some (.ref o0), some (.int x1), some (.int x2), some (.int x3), some (.int (f_Shapes_leastOf x3)), some (.int (f_Shapes_leastOf (x3 &&& ((jshl 1 (f_Shapes_leastOf x3)) ^^^ (-1)))))]) (st1 := [.int x1, .ref o0]) (h1 := h) (P := True) (by decide +kernel) rfl trivial ?_
  refine q_callV ok_Cloud_has (as := [.int x1]) (st := []) ⟨wd_401, wd_173, wd_174, wd_14, ds_Cloud_has, Nat.le_of_ble_eq_true rfl, Nat.le_of_ble_eq_true rfl⟩ (s_Cloud_has ho0) rfl ho0 (ci := 0) rfl (fun v hv => by cases hv; rfl) (Nat.le_of_ble_eq_true rfl) (by decide +kernel) rfl ?_
  refine q_if_eq (off := 29) (tgt := 53) (by decide +kernel) (by decide) (fun c_1 => ?_) (fun c_1 => ?_)
  · have e := it_t c_1 e
    refine sl_ok ok_Shapes_meet [.iconst 0] (pc1 := 54) (ls1 := [some (.ref o0), some (.int x1), some (.int x2), some (.int x3), some (.int (f_Shapes_leastOf x3)), some (.int (f_Shapes_leastOf (x3 &&& ((jshl 1 (f_Shapes_leastOf x3)) ^^^ (-1)))))]) (st1 := [.int 0]) (h1 := h) (P := True) (by decide +kernel) rfl trivial ?_
    cases e
    exact q_zret rfl (Or.inl rfl) k.1 k.2 (by decide +kernel)
  · have e := it_f c_1 e
    refine sl_ok ok_Shapes_meet [.aload_n 0, .iload_n 2] (pc1 := 29) (ls1 := [some (.ref o0), some (.int x1), some (.int x2), some (.int x3), some (.int (f_Shapes_leastOf x3)), some (.int (f_Shapes_leastOf (x3 &&& ((jshl 1 (f_Shapes_leastOf x3)) ^^^ (-1)))))]) (st1 := [.int x2, .ref o0]) (h1 := h) (P := True) (by decide +kernel) rfl trivial ?_
    refine q_callV ok_Cloud_has (as := [.int x2]) (st := []) ⟨wd_401, wd_173, wd_174, wd_14, ds_Cloud_has, Nat.le_of_ble_eq_true rfl, Nat.le_of_ble_eq_true rfl⟩ (s_Cloud_has ho0) rfl ho0 (ci := 0) rfl (fun v hv => by cases hv; rfl) (Nat.le_of_ble_eq_true rfl) (by decide +kernel) rfl ?_
    refine q_if_eq (off := 21) (tgt := 53) (by decide +kernel) (by decide) (fun c_2 => ?_) (fun c_2 => ?_)
    · have e := it_t c_2 e
      refine sl_ok ok_Shapes_meet [.iconst 0] (pc1 := 54) (ls1 := [some (.ref o0), some (.int x1), some (.int x2), some (.int x3), some (.int (f_Shapes_leastOf x3)), some (.int (f_Shapes_leastOf (x3 &&& ((jshl 1 (f_Shapes_leastOf x3)) ^^^ (-1)))))]) (st1 := [.int 0]) (h1 := h) (P := True) (by decide +kernel) rfl trivial ?_
      cases e
      exact q_zret rfl (Or.inl rfl) k.1 k.2 (by decide +kernel)
    · have e := it_f c_2 e
      refine sl_ok ok_Shapes_meet [.aload_n 0, .iload 4] (pc1 := 38) (ls1 := [some (.ref o0), some (.int x1), some (.int x2), some (.int x3), some (.int (f_Shapes_leastOf x3)), some (.int (f_Shapes_leastOf (x3 &&& ((jshl 1 (f_Shapes_leastOf x3)) ^^^ (-1)))))]) (st1 := [.int (f_Shapes_leastOf x3), .ref o0]) (h1 := h) (P := True) (by decide +kernel) rfl trivial ?_
      refine q_callV ok_Cloud_has (as := [.int (f_Shapes_leastOf x3)]) (st := []) ⟨wd_401, wd_173, wd_174, wd_14, ds_Cloud_has, Nat.le_of_ble_eq_true rfl, Nat.le_of_ble_eq_true rfl⟩ (s_Cloud_has ho0) rfl ho0 (ci := 0) rfl (fun v hv => by cases hv; rfl) (Nat.le_of_ble_eq_true rfl) (by decide +kernel) rfl ?_
      refine q_if_eq (off := 12) (tgt := 53) (by decide +kernel) (by decide) (fun c_3 => ?_) (fun c_3 => ?_)
      · have e := it_t c_3 e
        refine sl_ok ok_Shapes_meet [.iconst 0] (pc1 := 54) (ls1 := [some (.ref o0), some (.int x1), some (.int x2), some (.int x3), some (.int (f_Shapes_leastOf x3)), some (.int (f_Shapes_leastOf (x3 &&& ((jshl 1 (f_Shapes_leastOf x3)) ^^^ (-1)))))]) (st1 := [.int 0]) (h1 := h) (P := True) (by decide +kernel) rfl trivial ?_
        cases e
        exact q_zret rfl (Or.inl rfl) k.1 k.2 (by decide +kernel)
      · have e := it_f c_3 e
        refine sl_ok ok_Shapes_meet [.aload_n 0, .iload 5] (pc1 := 47) (ls1 := [some (.ref o0), some (.int x1), some (.int x2), some (.int x3), some (.int (f_Shapes_leastOf x3)), some (.int (f_Shapes_leastOf (x3 &&& ((jshl 1 (f_Shapes_leastOf x3)) ^^^ (-1)))))]) (st1 := [.int (f_Shapes_leastOf (x3 &&& ((jshl 1 (f_Shapes_leastOf x3)) ^^^ (-1)))), .ref o0]) (h1 := h) (P := True) (by decide +kernel) rfl trivial ?_
        refine q_callV ok_Cloud_has (as := [.int (f_Shapes_leastOf (x3 &&& ((jshl 1 (f_Shapes_leastOf x3)) ^^^ (-1))))]) (st := []) ⟨wd_401, wd_173, wd_174, wd_14, ds_Cloud_has, Nat.le_of_ble_eq_true rfl, Nat.le_of_ble_eq_true rfl⟩ (s_Cloud_has ho0) rfl ho0 (ci := 0) rfl (fun v hv => by cases hv; rfl) (Nat.le_of_ble_eq_true rfl) (by decide +kernel) rfl ?_
        refine q_if_ne (off := 5) (tgt := 55) (by decide +kernel) (by decide) (fun c_4 => ?_) (fun c_4 => ?_)
        · have e := it_f c_4 e
          refine sl_ok ok_Shapes_meet [.aload_n 0, .iload_n 1, .iload_n 2, .iload 4] (pc1 := 60) (ls1 := [some (.ref o0), some (.int x1), some (.int x2), some (.int x3), some (.int (f_Shapes_leastOf x3)), some (.int (f_Shapes_leastOf (x3 &&& ((jshl 1 (f_Shapes_leastOf x3)) ^^^ (-1)))))]) (st1 := [.int (f_Shapes_leastOf x3), .int x2, .int x1, .ref o0]) (h1 := h) (P := True) (by decide +kernel) rfl trivial ?_
          obtain ⟨v_5, e_6, e⟩ := bi_s e
          refine q_callV ok_Cloud_turnOf (as := [.int x1, .int x2, .int (f_Shapes_leastOf x3)]) (st := []) ⟨wd_403, wd_222, wd_223, wd_14, ds_Cloud_turnOf, Nat.le_of_ble_eq_true rfl, Nat.le_of_ble_eq_true rfl⟩ (s_Cloud_turnOf ho0 e_6) rfl ho0 (ci := 0) rfl (fun v hv => by cases hv; rfl) (Nat.le_of_ble_eq_true rfl) (by decide +kernel) rfl ?_
          refine q_callSN ok_C_signOf (as := [.int v_5]) (st := []) ⟨(List.mem_of_getElem? (i := 17) rfl), wd_200, wd_48, ds_C_signOf, Nat.le_of_ble_eq_true rfl, Nat.le_of_ble_eq_true rfl⟩ (s_C_signOf ) rfl (fun v hv => by cases hv; rfl) (Nat.le_of_ble_eq_true rfl) (by decide +kernel) rfl ?_
          refine sl_ok ok_Shapes_meet [.aload_n 0, .iload_n 1, .iload_n 2, .iload 5] (pc1 := 71) (ls1 := [some (.ref o0), some (.int x1), some (.int x2), some (.int x3), some (.int (f_Shapes_leastOf x3)), some (.int (f_Shapes_leastOf (x3 &&& ((jshl 1 (f_Shapes_leastOf x3)) ^^^ (-1)))))]) (st1 := [.int (f_Shapes_leastOf (x3 &&& ((jshl 1 (f_Shapes_leastOf x3)) ^^^ (-1)))), .int x2, .int x1, .ref o0, .int (f_C_signOf v_5)]) (h1 := h) (P := True) (by decide +kernel) rfl trivial ?_
          obtain ⟨v_7, e_8, e⟩ := bi_s e
          refine q_callV ok_Cloud_turnOf (as := [.int x1, .int x2, .int (f_Shapes_leastOf (x3 &&& ((jshl 1 (f_Shapes_leastOf x3)) ^^^ (-1))))]) (st := [.int (f_C_signOf v_5)]) ⟨wd_403, wd_222, wd_223, wd_14, ds_Cloud_turnOf, Nat.le_of_ble_eq_true rfl, Nat.le_of_ble_eq_true rfl⟩ (s_Cloud_turnOf ho0 e_8) rfl ho0 (ci := 0) rfl (fun v hv => by cases hv; rfl) (Nat.le_of_ble_eq_true rfl) (by decide +kernel) rfl ?_
          refine q_callSN ok_C_signOf (as := [.int v_7]) (st := [.int (f_C_signOf v_5)]) ⟨(List.mem_of_getElem? (i := 17) rfl), wd_200, wd_48, ds_C_signOf, Nat.le_of_ble_eq_true rfl, Nat.le_of_ble_eq_true rfl⟩ (s_C_signOf ) rfl (fun v hv => by cases hv; rfl) (Nat.le_of_ble_eq_true rfl) (by decide +kernel) rfl ?_
          refine sl_ok ok_Shapes_meet [.imul] (pc1 := 78) (ls1 := [some (.ref o0), some (.int x1), some (.int x2), some (.int x3), some (.int (f_Shapes_leastOf x3)), some (.int (f_Shapes_leastOf (x3 &&& ((jshl 1 (f_Shapes_leastOf x3)) ^^^ (-1)))))]) (st1 := [.int ((f_C_signOf v_5) * (f_C_signOf v_7))]) (h1 := h) (P := True) (by decide +kernel) rfl trivial ?_
          refine q_if_ge (off := 35) (tgt := 113) (by decide +kernel) (by decide) (fun c_9 => ?_) (fun c_9 => ?_)
          · have e := it_t c_9 e
            refine sl_ok ok_Shapes_meet [.iconst 0] (pc1 := 114) (ls1 := [some (.ref o0), some (.int x1), some (.int x2), some (.int x3), some (.int (f_Shapes_leastOf x3)), some (.int (f_Shapes_leastOf (x3 &&& ((jshl 1 (f_Shapes_leastOf x3)) ^^^ (-1)))))]) (st1 := [.int 0]) (h1 := h) (P := True) (by decide +kernel) rfl trivial ?_
            cases e
            exact q_zret rfl (Or.inl rfl) k.1 k.2 (by decide +kernel)
          · have e := it_f c_9 e
            refine sl_ok ok_Shapes_meet [.aload_n 0, .iload 4, .iload 5, .iload_n 1] (pc1 := 87) (ls1 := [some (.ref o0), some (.int x1), some (.int x2), some (.int x3), some (.int (f_Shapes_leastOf x3)), some (.int (f_Shapes_leastOf (x3 &&& ((jshl 1 (f_Shapes_leastOf x3)) ^^^ (-1)))))]) (st1 := [.int x1, .int (f_Shapes_leastOf (x3 &&& ((jshl 1 (f_Shapes_leastOf x3)) ^^^ (-1)))), .int (f_Shapes_leastOf x3), .ref o0]) (h1 := h) (P := True) (by decide +kernel) rfl trivial ?_
            obtain ⟨v_10, e_11, e⟩ := bi_s e
            refine q_callV ok_Cloud_turnOf (as := [.int (f_Shapes_leastOf x3), .int (f_Shapes_leastOf (x3 &&& ((jshl 1 (f_Shapes_leastOf x3)) ^^^ (-1)))), .int x1]) (st := []) ⟨wd_403, wd_222, wd_223, wd_14, ds_Cloud_turnOf, Nat.le_of_ble_eq_true rfl, Nat.le_of_ble_eq_true rfl⟩ (s_Cloud_turnOf ho0 e_11) rfl ho0 (ci := 0) rfl (fun v hv => by cases hv; rfl) (Nat.le_of_ble_eq_true rfl) (by decide +kernel) rfl ?_
            refine q_callSN ok_C_signOf (as := [.int v_10]) (st := []) ⟨(List.mem_of_getElem? (i := 17) rfl), wd_200, wd_48, ds_C_signOf, Nat.le_of_ble_eq_true rfl, Nat.le_of_ble_eq_true rfl⟩ (s_C_signOf ) rfl (fun v hv => by cases hv; rfl) (Nat.le_of_ble_eq_true rfl) (by decide +kernel) rfl ?_
            refine sl_ok ok_Shapes_meet [.aload_n 0, .iload 4, .iload 5, .iload_n 2] (pc1 := 99) (ls1 := [some (.ref o0), some (.int x1), some (.int x2), some (.int x3), some (.int (f_Shapes_leastOf x3)), some (.int (f_Shapes_leastOf (x3 &&& ((jshl 1 (f_Shapes_leastOf x3)) ^^^ (-1)))))]) (st1 := [.int x2, .int (f_Shapes_leastOf (x3 &&& ((jshl 1 (f_Shapes_leastOf x3)) ^^^ (-1)))), .int (f_Shapes_leastOf x3), .ref o0, .int (f_C_signOf v_10)]) (h1 := h) (P := True) (by decide +kernel) rfl trivial ?_
            obtain ⟨v_12, e_13, e⟩ := bi_s e
            refine q_callV ok_Cloud_turnOf (as := [.int (f_Shapes_leastOf x3), .int (f_Shapes_leastOf (x3 &&& ((jshl 1 (f_Shapes_leastOf x3)) ^^^ (-1)))), .int x2]) (st := [.int (f_C_signOf v_10)]) ⟨wd_403, wd_222, wd_223, wd_14, ds_Cloud_turnOf, Nat.le_of_ble_eq_true rfl, Nat.le_of_ble_eq_true rfl⟩ (s_Cloud_turnOf ho0 e_13) rfl ho0 (ci := 0) rfl (fun v hv => by cases hv; rfl) (Nat.le_of_ble_eq_true rfl) (by decide +kernel) rfl ?_
            refine q_callSN ok_C_signOf (as := [.int v_12]) (st := [.int (f_C_signOf v_10)]) ⟨(List.mem_of_getElem? (i := 17) rfl), wd_200, wd_48, ds_C_signOf, Nat.le_of_ble_eq_true rfl, Nat.le_of_ble_eq_true rfl⟩ (s_C_signOf ) rfl (fun v hv => by cases hv; rfl) (Nat.le_of_ble_eq_true rfl) (by decide +kernel) rfl ?_
            refine sl_ok ok_Shapes_meet [.imul] (pc1 := 106) (ls1 := [some (.ref o0), some (.int x1), some (.int x2), some (.int x3), some (.int (f_Shapes_leastOf x3)), some (.int (f_Shapes_leastOf (x3 &&& ((jshl 1 (f_Shapes_leastOf x3)) ^^^ (-1)))))]) (st1 := [.int ((f_C_signOf v_10) * (f_C_signOf v_12))]) (h1 := h) (P := True) (by decide +kernel) rfl trivial ?_
            refine q_if_ge (off := 7) (tgt := 113) (by decide +kernel) (by decide) (fun c_14 => ?_) (fun c_14 => ?_)
            · have e := it_t c_14 e
              refine sl_ok ok_Shapes_meet [.iconst 0] (pc1 := 114) (ls1 := [some (.ref o0), some (.int x1), some (.int x2), some (.int x3), some (.int (f_Shapes_leastOf x3)), some (.int (f_Shapes_leastOf (x3 &&& ((jshl 1 (f_Shapes_leastOf x3)) ^^^ (-1)))))]) (st1 := [.int 0]) (h1 := h) (P := True) (by decide +kernel) rfl trivial ?_
              cases e
              exact q_zret rfl (Or.inl rfl) k.1 k.2 (by decide +kernel)
            · have e := it_f c_14 e
              refine sl_ok ok_Shapes_meet [.iconst 1] (pc1 := 110) (ls1 := [some (.ref o0), some (.int x1), some (.int x2), some (.int x3), some (.int (f_Shapes_leastOf x3)), some (.int (f_Shapes_leastOf (x3 &&& ((jshl 1 (f_Shapes_leastOf x3)) ^^^ (-1)))))]) (st1 := [.int 1]) (h1 := h) (P := True) (by decide +kernel) rfl trivial ?_
              refine q_goto (off := 4) (tgt := 114) (by decide) (by decide +kernel) ?_
              cases e
              exact q_zret rfl (Or.inr rfl) k.1 k.2 (by decide +kernel)
        · have e := it_t c_4 e
          refine sl_ok ok_Shapes_meet [.iconst 0] (pc1 := 54) (ls1 := [some (.ref o0), some (.int x1), some (.int x2), some (.int x3), some (.int (f_Shapes_leastOf x3)), some (.int (f_Shapes_leastOf (x3 &&& ((jshl 1 (f_Shapes_leastOf x3)) ^^^ (-1)))))]) (st1 := [.int 0]) (h1 := h) (P := True) (by decide +kernel) rfl trivial ?_
          cases e
          exact q_zret rfl (Or.inl rfl) k.1 k.2 (by decide +kernel)
theorem s_Shapes_meet {E : pE} {o0 : Nat} {x1 : Int32} {x2 : Int32} {x3 : Int32} {h : pH} (ho0 : ak o0 = 0 ∧ cx o0 = 0) {v : Int32} (e : f_Shapes_meet o0 x1 x2 x3 h = some v) : Ct E M_Shapes_meet [.ref o0, .int x1, .int x2, .int x3] h (some (.int v)) h :=
  Ct_of ok_Shapes_meet [some (.ref o0), some (.int x1), some (.int x2), some (.int x3), none, none] (Nat.le_of_ble_eq_true rfl) rfl (b_Shapes_meet ho0 e ⟨rfl, rfl⟩)
def f_Shapes_partWithLeast_L1 (o1 : Nat) (x2 : Int32) (x3 : Int32) (h : pH) (x5 : Int32) : Option (Int32 ⊕ Int32) :=
  if (hI h o1 2) ≤ x5 then
    some (.inr (-1))
  else
    if (f_C_bit x2 x5) = 1 then
      (f_Shapes_meet o1 x3 x5 ((x2 &&& ((jshl 1 x3) ^^^ (-1))) &&& ((jshl 1 x5) ^^^ (-1))) h).bind fun v_3 =>
      if v_3 = 0 then
        some (.inl (x5 + 1))
      else
        some (.inr ((jshl 1 x3) ||| (jshl 1 x5)))
    else
      some (.inl (x5 + 1))
set_option maxHeartbeats 4000000 in
theorem b_Shapes_partWithLeast_L1 {E : pE} {r : Option Value} {hr : pH} {o1 : Nat} {x2 : Int32} {x3 : Int32} {h : pH} {x5 : Int32} (ho1 : ak o1 = 0 ∧ cx o1 = 0) {b : (Int32 ⊕ Int32)} (e : f_Shapes_partWithLeast_L1 o1 x2 x3 h x5 = some b) (k : (Sum.elim (fun s : Int32 => Go E M_Shapes_partWithLeast 56 [some (.ref 28), some (.ref o1), some (.int x2), some (.int x3), none, some (.int s), none] [] h r hr) (fun v : Int32 => r = some (.int v) ∧ hr = h)) b) : Go E M_Shapes_partWithLeast 56 [some (.ref 28), some (.ref o1), some (.int x2), some (.int x3), none, some (.int x5), none] [] h r hr := by
  unfold f_Shapes_partWithLeast_L1 at e
  refine sl_ok ok_Shapes_partWithLeast [.iload 5, .aload_n 1, .getfield 18] (pc1 := 62) (ls1 := [some (.ref 28), some (.ref o1), some (.int x2), some (.int x3), none, some (.int x5), none]) (st1 := [.int (hI h o1 2), .int x5]) (h1 := h) (P := (ak o1 = 0 ∧ cx o1 = 0) ∧ True) (by decide +kernel) rfl ⟨ho1, trivial⟩ ?_
  refine q_icmp_ge (off := 56) (tgt := 118) (by decide +kernel) (by decide) (fun c_1 => ?_) (fun c_1 => ?_)
  · have e := it_t c_1 e
    refine sl_ok ok_Shapes_partWithLeast [.iconst (-1)] (pc1 := 119) (ls1 := [some (.ref 28), some (.ref o1), some (.int x2), some (.int x3), none, some (.int x5), none]) (st1 := [.int (-1)]) (h1 := h) (P := True) (by decide +kernel) rfl trivial ?_
    cases e
    exact q_iret rfl k.1 k.2 (by decide +kernel)
  · have e := it_f c_1 e
    refine sl_ok ok_Shapes_partWithLeast [.iload_n 2, .iconst 1, .iload_n 3, .ishl, .iconst (-1), .ixor, .iand, .iconst 1, .iload 5, .ishl, .iconst (-1), .ixor, .iand, .istore 6, .iload_n 2, .iload 5] (pc1 := 84) (ls1 := [some (.ref 28), some (.ref o1), some (.int x2), some (.int x3), none, some (.int x5), some (.int ((x2 &&& ((jshl 1 x3) ^^^ (-1))) &&& ((jshl 1 x5) ^^^ (-1))))]) (st1 := [.int x5, .int x2]) (h1 := h) (P := True) (by decide +kernel) rfl trivial ?_
    refine q_callSN ok_C_bit (as := [.int x2, .int x5]) (st := []) ⟨(List.mem_of_getElem? (i := 16) rfl), wd_201, wd_48, ds_C_bit, Nat.le_of_ble_eq_true rfl, Nat.le_of_ble_eq_true rfl⟩ (s_C_bit ) rfl (fun v hv => by cases hv; rfl) (Nat.le_of_ble_eq_true rfl) (by decide +kernel) rfl ?_
    refine sl_ok ok_Shapes_partWithLeast [.iconst 1] (pc1 := 88) (ls1 := [some (.ref 28), some (.ref o1), some (.int x2), some (.int x3), none, some (.int x5), some (.int ((x2 &&& ((jshl 1 x3) ^^^ (-1))) &&& ((jshl 1 x5) ^^^ (-1))))]) (st1 := [.int 1, .int (f_C_bit x2 x5)]) (h1 := h) (P := True) (by decide +kernel) rfl trivial ?_
    refine q_icmp_ne (off := 24) (tgt := 112) (by decide +kernel) (by decide) (fun c_2 => ?_) (fun c_2 => ?_)
    · have e := it_f c_2 e
      refine sl_ok ok_Shapes_partWithLeast [.iinc 5 1] (pc1 := 115) (ls1 := [some (.ref 28), some (.ref o1), some (.int x2), some (.int x3), none, some (.int (x5 + 1)), some (.int ((x2 &&& ((jshl 1 x3) ^^^ (-1))) &&& ((jshl 1 x5) ^^^ (-1))))]) (st1 := []) (h1 := h) (P := True) (by decide +kernel) rfl trivial ?_
      refine q_goto (off := -59) (tgt := 56) (by decide) (by decide +kernel) ?_
      cases e
      refine Go.sb [some (.ref 28), some (.ref o1), some (.int x2), some (.int x3), none, some (.int (x5 + 1)), none] (And.intro rfl (And.intro rfl (And.intro rfl (And.intro rfl (And.intro rfl trivial))))) ?_
      exact k
    · have e := it_t c_2 e
      refine sl_ok ok_Shapes_partWithLeast [.aload_n 1, .iload_n 3, .iload 5, .iload 6] (pc1 := 97) (ls1 := [some (.ref 28), some (.ref o1), some (.int x2), some (.int x3), none, some (.int x5), some (.int ((x2 &&& ((jshl 1 x3) ^^^ (-1))) &&& ((jshl 1 x5) ^^^ (-1))))]) (st1 := [.int ((x2 &&& ((jshl 1 x3) ^^^ (-1))) &&& ((jshl 1 x5) ^^^ (-1))), .int x5, .int x3, .ref o1]) (h1 := h) (P := True) (by decide +kernel) rfl trivial ?_
      obtain ⟨v_3, e_4, e⟩ := bi_s e
      refine q_callS ok_Shapes_meet (as := [.ref o1, .int x3, .int x5, .int ((x2 &&& ((jshl 1 x3) ^^^ (-1))) &&& ((jshl 1 x5) ^^^ (-1)))]) (st := []) ⟨wd_490, wd_491, wd_231, ds_Shapes_meet, Nat.le_of_ble_eq_true rfl, Nat.le_of_ble_eq_true rfl⟩ (s_Shapes_meet ho1 e_4) rfl (fun v hv => by cases hv; rfl) (Nat.le_of_ble_eq_true rfl) (by decide +kernel) rfl ?_
      refine q_if_eq (off := 12) (tgt := 112) (by decide +kernel) (by decide) (fun c_5 => ?_) (fun c_5 => ?_)
      · have e := it_t c_5 e
        refine sl_ok ok_Shapes_partWithLeast [.iinc 5 1] (pc1 := 115) (ls1 := [some (.ref 28), some (.ref o1), some (.int x2), some (.int x3), none, some (.int (x5 + 1)), some (.int ((x2 &&& ((jshl 1 x3) ^^^ (-1))) &&& ((jshl 1 x5) ^^^ (-1))))]) (st1 := []) (h1 := h) (P := True) (by decide +kernel) rfl trivial ?_
        refine q_goto (off := -59) (tgt := 56) (by decide) (by decide +kernel) ?_
        cases e
        refine Go.sb [some (.ref 28), some (.ref o1), some (.int x2), some (.int x3), none, some (.int (x5 + 1)), none] (And.intro rfl (And.intro rfl (And.intro rfl (And.intro rfl (And.intro rfl trivial))))) ?_
        exact k
      · have e := it_f c_5 e
        refine sl_ok ok_Shapes_partWithLeast [.iconst 1, .iload_n 3, .ishl, .iconst 1, .iload 5, .ishl, .ior] (pc1 := 111) (ls1 := [some (.ref 28), some (.ref o1), some (.int x2), some (.int x3), none, some (.int x5), some (.int ((x2 &&& ((jshl 1 x3) ^^^ (-1))) &&& ((jshl 1 x5) ^^^ (-1))))]) (st1 := [.int ((jshl 1 x3) ||| (jshl 1 x5))]) (h1 := h) (P := True) (by decide +kernel) rfl trivial ?_
        cases e
        exact q_iret rfl k.1 k.2 (by decide +kernel)
def f_Shapes_partWithLeast (o1 : Nat) (x2 : Int32) (h : pH) : Option Int32 :=
  (f_Shapes_hasThreeOnOneLine o1 x2 h).bind fun v_1 =>
  if v_1 = 0 then
    (f_Shapes_innerOf o1 x2 h).bind fun v_4 =>
    if v_4 = (-1) then
      lp (fun s => f_Shapes_partWithLeast_L1 o1 x2 (f_Shapes_leastOf x2) h s) lpN ((f_Shapes_leastOf x2) + 1)
    else
      if v_4 = (f_Shapes_leastOf x2) then
        some (jshl 1 v_4)
      else
        some (x2 &&& ((jshl 1 v_4) ^^^ (-1)))
  else
    some (-2)
set_option maxHeartbeats 4000000 in
theorem b_Shapes_partWithLeast {E : pE} {r : Option Value} {hr : pH} {o1 : Nat} {x2 : Int32} {h : pH} (ho1 : ak o1 = 0 ∧ cx o1 = 0) {b : Int32} (e : f_Shapes_partWithLeast o1 x2 h = some b) (k : (fun v : Int32 => r = some (.int v) ∧ hr = h) b) : Go E M_Shapes_partWithLeast 0 [some (.ref 28), some (.ref o1), some (.int x2), none, none, none, none] [] h r hr := by
  unfold f_Shapes_partWithLeast at e
  refine sl_ok ok_Shapes_partWithLeast [.aload_n 1, .iload_n 2] (pc1 := 2) (ls1 := [some (.ref 28), some (.ref o1), some (.int x2), none, none, none, none]) (st1 := [.int x2, .ref o1]) (h1 := h) (P := True) (by decide +kernel) rfl trivial ?_
  obtain ⟨v_1, e_2, e⟩ := bi_s e
  refine q_callS ok_Shapes_hasThreeOnOneLine (as := [.ref o1, .int x2]) (st := []) ⟨wd_486, wd_487, wd_231, ds_Shapes_hasThreeOnOneLine, Nat.le_of_ble_eq_true rfl, Nat.le_of_ble_eq_true rfl⟩ (s_Shapes_hasThreeOnOneLine ho1 e_2) rfl (fun v hv => by cases hv; rfl) (Nat.le_of_ble_eq_true rfl) (by decide +kernel) rfl ?_
  refine q_if_eq (off := 6) (tgt := 11) (by decide +kernel) (by decide) (fun c_3 => ?_) (fun c_3 => ?_)
  · have e := it_t c_3 e
    refine sl_ok ok_Shapes_partWithLeast [.iload_n 2] (pc1 := 12) (ls1 := [some (.ref 28), some (.ref o1), some (.int x2), none, none, none, none]) (st1 := [.int x2]) (h1 := h) (P := True) (by decide +kernel) rfl trivial ?_
    refine q_callS ok_Shapes_leastOf (as := [.int x2]) (st := []) ⟨wd_399, wd_400, wd_231, ds_Shapes_leastOf, Nat.le_of_ble_eq_true rfl, Nat.le_of_ble_eq_true rfl⟩ (s_Shapes_leastOf ) rfl (fun v hv => by cases hv; rfl) (Nat.le_of_ble_eq_true rfl) (by decide +kernel) rfl ?_
    refine sl_ok ok_Shapes_partWithLeast [.istore_n 3, .aload_n 1, .iload_n 2] (pc1 := 18) (ls1 := [some (.ref 28), some (.ref o1), some (.int x2), some (.int (f_Shapes_leastOf x2)), none, none, none]) (st1 := [.int x2, .ref o1]) (h1 := h) (P := True) (by decide +kernel) rfl trivial ?_
    obtain ⟨v_4, e_5, e⟩ := bi_s e
    refine q_callS ok_Shapes_innerOf (as := [.ref o1, .int x2]) (st := []) ⟨wd_488, wd_489, wd_231, ds_Shapes_innerOf, Nat.le_of_ble_eq_true rfl, Nat.le_of_ble_eq_true rfl⟩ (s_Shapes_innerOf ho1 e_5) rfl (fun v hv => by cases hv; rfl) (Nat.le_of_ble_eq_true rfl) (by decide +kernel) rfl ?_
    refine sl_ok ok_Shapes_partWithLeast [.istore 4, .iload 4, .iconst (-1)] (pc1 := 26) (ls1 := [some (.ref 28), some (.ref o1), some (.int x2), some (.int (f_Shapes_leastOf x2)), some (.int v_4), none, none]) (st1 := [.int (-1), .int v_4]) (h1 := h) (P := True) (by decide +kernel) rfl trivial ?_
    refine q_icmp_eq (off := 25) (tgt := 51) (by decide +kernel) (by decide) (fun c_6 => ?_) (fun c_6 => ?_)
    · have e := it_t c_6 e
      refine sl_ok ok_Shapes_partWithLeast [.iload_n 3, .iconst 1, .iadd, .istore 5] (pc1 := 56) (ls1 := [some (.ref 28), some (.ref o1), some (.int x2), some (.int (f_Shapes_leastOf x2)), some (.int v_4), some (.int ((f_Shapes_leastOf x2) + 1)), none]) (st1 := []) (h1 := h) (P := True) (by decide +kernel) rfl trivial ?_
      refine Go.sb [some (.ref 28), some (.ref o1), some (.int x2), some (.int (f_Shapes_leastOf x2)), none, some (.int ((f_Shapes_leastOf x2) + 1)), none] (And.intro rfl (And.intro rfl (And.intro rfl (And.intro rfl (And.intro rfl trivial))))) ?_
      exact lp_in e (fun s => Go E M_Shapes_partWithLeast 56 [some (.ref 28), some (.ref o1), some (.int x2), some (.int (f_Shapes_leastOf x2)), none, some (.int s), none] [] h r hr) (fun v : Int32 => r = some (.int v) ∧ hr = h) (fun _ _ e k => b_Shapes_partWithLeast_L1 ho1 e k) k
    · have e := it_f c_6 e
      refine sl_ok ok_Shapes_partWithLeast [.iload 4, .iload_n 3] (pc1 := 32) (ls1 := [some (.ref 28), some (.ref o1), some (.int x2), some (.int (f_Shapes_leastOf x2)), some (.int v_4), none, none]) (st1 := [.int (f_Shapes_leastOf x2), .int v_4]) (h1 := h) (P := True) (by decide +kernel) rfl trivial ?_
      refine q_icmp_ne (off := 10) (tgt := 42) (by decide +kernel) (by decide) (fun c_7 => ?_) (fun c_7 => ?_)
      · have e := it_f c_7 e
        refine sl_ok ok_Shapes_partWithLeast [.iload_n 2, .iconst 1, .iload 4, .ishl, .iconst (-1), .ixor, .iand] (pc1 := 50) (ls1 := [some (.ref 28), some (.ref o1), some (.int x2), some (.int (f_Shapes_leastOf x2)), some (.int v_4), none, none]) (st1 := [.int (x2 &&& ((jshl 1 v_4) ^^^ (-1)))]) (h1 := h) (P := True) (by decide +kernel) rfl trivial ?_
        cases e
        exact q_iret rfl k.1 k.2 (by decide +kernel)
      · have e := it_t c_7 e
        refine sl_ok ok_Shapes_partWithLeast [.iconst 1, .iload 4, .ishl] (pc1 := 39) (ls1 := [some (.ref 28), some (.ref o1), some (.int x2), some (.int (f_Shapes_leastOf x2)), some (.int v_4), none, none]) (st1 := [.int (jshl 1 v_4)]) (h1 := h) (P := True) (by decide +kernel) rfl trivial ?_
        refine q_goto (off := 11) (tgt := 50) (by decide) (by decide +kernel) ?_
        cases e
        exact q_iret rfl k.1 k.2 (by decide +kernel)
  · have e := it_f c_3 e
    refine sl_ok ok_Shapes_partWithLeast [.bipush (-2)] (pc1 := 10) (ls1 := [some (.ref 28), some (.ref o1), some (.int x2), none, none, none, none]) (st1 := [.int (-2)]) (h1 := h) (P := True) (by decide +kernel) rfl trivial ?_
    cases e
    exact q_iret rfl k.1 k.2 (by decide +kernel)
theorem s_Shapes_partWithLeast {E : pE} {o1 : Nat} {x2 : Int32} {h : pH} (ho1 : ak o1 = 0 ∧ cx o1 = 0) {v : Int32} (e : f_Shapes_partWithLeast o1 x2 h = some v) : Ct E M_Shapes_partWithLeast [.ref 28, .ref o1, .int x2] h (some (.int v)) h :=
  Ct_of ok_Shapes_partWithLeast [some (.ref 28), some (.ref o1), some (.int x2), none, none, none, none] (Nat.le_of_ble_eq_true rfl) rfl (b_Shapes_partWithLeast ho1 e ⟨rfl, rfl⟩)
def f_C_four (x1 : Int32) (x2 : Int32) (x3 : Int32) (x4 : Int32) (h : pH) : Option Int32 :=
  if (f_Cloud_has 8 x1 h) = 0 then
    some (-1)
  else
    if (f_Cloud_has 8 x2 h) = 0 then
      some (-1)
    else
      if (f_Cloud_has 8 x3 h) = 0 then
        some (-1)
      else
        if (f_Cloud_has 8 x4 h) = 0 then
          some (-1)
        else
          if (f_J_bitCount ((((jshl 1 x1) ||| (jshl 1 x2)) ||| (jshl 1 x3)) ||| (jshl 1 x4))) = 4 then
            (f_Shapes_partWithLeast 8 ((((jshl 1 x1) ||| (jshl 1 x2)) ||| (jshl 1 x3)) ||| (jshl 1 x4)) h).bind fun v_6 =>
            some v_6
          else
            some (-1)
set_option maxHeartbeats 4000000 in
theorem b_C_four {E : pE} {r : Option Value} {hr : pH} {x1 : Int32} {x2 : Int32} {x3 : Int32} {x4 : Int32} {h : pH}  {b : Int32} (e : f_C_four x1 x2 x3 x4 h = some b) (k : (fun v : Int32 => r = some (.int v) ∧ hr = h) b) : Go E M_C_four 0 [some (.ref 0), some (.int x1), some (.int x2), some (.int x3), some (.int x4), none] [] h r hr := by
  unfold f_C_four at e
  refine sl_ok ok_C_four [.aload_n 0, .getfield 28, .iload_n 1] (pc1 := 5) (ls1 := [some (.ref 0), some (.int x1), some (.int x2), some (.int x3), some (.int x4), none]) (st1 := [.int x1, .ref 8]) (h1 := h) (P := (ak 0 = 0 ∧ cx 0 = 11) ∧ True) (by decide +kernel) rfl ⟨⟨rfl, rfl⟩, trivial⟩ ?_
  refine q_callV ok_Cloud_has (as := [.int x1]) (st := []) ⟨wd_175, wd_173, wd_174, wd_14, ds_Cloud_has, Nat.le_of_ble_eq_true rfl, Nat.le_of_ble_eq_true rfl⟩ (s_Cloud_has ⟨rfl, rfl⟩) rfl ⟨rfl, rfl⟩ (ci := 0) rfl (fun v hv => by cases hv; rfl) (Nat.le_of_ble_eq_true rfl) (by decide +kernel) rfl ?_
  refine q_if_eq (off := 37) (tgt := 45) (by decide +kernel) (by decide) (fun c_1 => ?_) (fun c_1 => ?_)
  · have e := it_t c_1 e
    refine sl_ok ok_C_four [.iconst (-1)] (pc1 := 46) (ls1 := [some (.ref 0), some (.int x1), some (.int x2), some (.int x3), some (.int x4), none]) (st1 := [.int (-1)]) (h1 := h) (P := True) (by decide +kernel) rfl trivial ?_
    cases e
    exact q_iret rfl k.1 k.2 (by decide +kernel)
  · have e := it_f c_1 e
    refine sl_ok ok_C_four [.aload_n 0, .getfield 28, .iload_n 2] (pc1 := 16) (ls1 := [some (.ref 0), some (.int x1), some (.int x2), some (.int x3), some (.int x4), none]) (st1 := [.int x2, .ref 8]) (h1 := h) (P := (ak 0 = 0 ∧ cx 0 = 11) ∧ True) (by decide +kernel) rfl ⟨⟨rfl, rfl⟩, trivial⟩ ?_
    refine q_callV ok_Cloud_has (as := [.int x2]) (st := []) ⟨wd_175, wd_173, wd_174, wd_14, ds_Cloud_has, Nat.le_of_ble_eq_true rfl, Nat.le_of_ble_eq_true rfl⟩ (s_Cloud_has ⟨rfl, rfl⟩) rfl ⟨rfl, rfl⟩ (ci := 0) rfl (fun v hv => by cases hv; rfl) (Nat.le_of_ble_eq_true rfl) (by decide +kernel) rfl ?_
    refine q_if_eq (off := 26) (tgt := 45) (by decide +kernel) (by decide) (fun c_2 => ?_) (fun c_2 => ?_)
    · have e := it_t c_2 e
      refine sl_ok ok_C_four [.iconst (-1)] (pc1 := 46) (ls1 := [some (.ref 0), some (.int x1), some (.int x2), some (.int x3), some (.int x4), none]) (st1 := [.int (-1)]) (h1 := h) (P := True) (by decide +kernel) rfl trivial ?_
      cases e
      exact q_iret rfl k.1 k.2 (by decide +kernel)
    · have e := it_f c_2 e
      refine sl_ok ok_C_four [.aload_n 0, .getfield 28, .iload_n 3] (pc1 := 27) (ls1 := [some (.ref 0), some (.int x1), some (.int x2), some (.int x3), some (.int x4), none]) (st1 := [.int x3, .ref 8]) (h1 := h) (P := (ak 0 = 0 ∧ cx 0 = 11) ∧ True) (by decide +kernel) rfl ⟨⟨rfl, rfl⟩, trivial⟩ ?_
      refine q_callV ok_Cloud_has (as := [.int x3]) (st := []) ⟨wd_175, wd_173, wd_174, wd_14, ds_Cloud_has, Nat.le_of_ble_eq_true rfl, Nat.le_of_ble_eq_true rfl⟩ (s_Cloud_has ⟨rfl, rfl⟩) rfl ⟨rfl, rfl⟩ (ci := 0) rfl (fun v hv => by cases hv; rfl) (Nat.le_of_ble_eq_true rfl) (by decide +kernel) rfl ?_
      refine q_if_eq (off := 15) (tgt := 45) (by decide +kernel) (by decide) (fun c_3 => ?_) (fun c_3 => ?_)
      · have e := it_t c_3 e
        refine sl_ok ok_C_four [.iconst (-1)] (pc1 := 46) (ls1 := [some (.ref 0), some (.int x1), some (.int x2), some (.int x3), some (.int x4), none]) (st1 := [.int (-1)]) (h1 := h) (P := True) (by decide +kernel) rfl trivial ?_
        cases e
        exact q_iret rfl k.1 k.2 (by decide +kernel)
      · have e := it_f c_3 e
        refine sl_ok ok_C_four [.aload_n 0, .getfield 28, .iload 4] (pc1 := 39) (ls1 := [some (.ref 0), some (.int x1), some (.int x2), some (.int x3), some (.int x4), none]) (st1 := [.int x4, .ref 8]) (h1 := h) (P := (ak 0 = 0 ∧ cx 0 = 11) ∧ True) (by decide +kernel) rfl ⟨⟨rfl, rfl⟩, trivial⟩ ?_
        refine q_callV ok_Cloud_has (as := [.int x4]) (st := []) ⟨wd_175, wd_173, wd_174, wd_14, ds_Cloud_has, Nat.le_of_ble_eq_true rfl, Nat.le_of_ble_eq_true rfl⟩ (s_Cloud_has ⟨rfl, rfl⟩) rfl ⟨rfl, rfl⟩ (ci := 0) rfl (fun v hv => by cases hv; rfl) (Nat.le_of_ble_eq_true rfl) (by decide +kernel) rfl ?_
        refine q_if_ne (off := 5) (tgt := 47) (by decide +kernel) (by decide) (fun c_4 => ?_) (fun c_4 => ?_)
        · have e := it_f c_4 e
          refine sl_ok ok_C_four [.iconst 1, .iload_n 1, .ishl, .iconst 1, .iload_n 2, .ishl, .ior, .iconst 1, .iload_n 3, .ishl, .ior, .iconst 1, .iload 4, .ishl, .ior, .istore 5, .iload 5] (pc1 := 67) (ls1 := [some (.ref 0), some (.int x1), some (.int x2), some (.int x3), some (.int x4), some (.int ((((jshl 1 x1) ||| (jshl 1 x2)) ||| (jshl 1 x3)) ||| (jshl 1 x4)))]) (st1 := [.int ((((jshl 1 x1) ||| (jshl 1 x2)) ||| (jshl 1 x3)) ||| (jshl 1 x4))]) (h1 := h) (P := True) (by decide +kernel) rfl trivial ?_
          refine q_callS ok_J_bitCount (as := [.int ((((jshl 1 x1) ||| (jshl 1 x2)) ||| (jshl 1 x3)) ||| (jshl 1 x4))]) (st := []) ⟨wd_301, wd_302, wd_303, ds_J_bitCount, Nat.le_of_ble_eq_true rfl, Nat.le_of_ble_eq_true rfl⟩ (s_J_bitCount ) rfl (fun v hv => by cases hv; rfl) (Nat.le_of_ble_eq_true rfl) (by decide +kernel) rfl ?_
          refine sl_ok ok_C_four [.iconst 4] (pc1 := 71) (ls1 := [some (.ref 0), some (.int x1), some (.int x2), some (.int x3), some (.int x4), some (.int ((((jshl 1 x1) ||| (jshl 1 x2)) ||| (jshl 1 x3)) ||| (jshl 1 x4)))]) (st1 := [.int 4, .int (f_J_bitCount ((((jshl 1 x1) ||| (jshl 1 x2)) ||| (jshl 1 x3)) ||| (jshl 1 x4)))]) (h1 := h) (P := True) (by decide +kernel) rfl trivial ?_
          refine q_icmp_ne (off := 19) (tgt := 90) (by decide +kernel) (by decide) (fun c_5 => ?_) (fun c_5 => ?_)
          · have e := it_f c_5 e
            refine sl_ok ok_C_four [.iconst (-1)] (pc1 := 91) (ls1 := [some (.ref 0), some (.int x1), some (.int x2), some (.int x3), some (.int x4), some (.int ((((jshl 1 x1) ||| (jshl 1 x2)) ||| (jshl 1 x3)) ||| (jshl 1 x4)))]) (st1 := [.int (-1)]) (h1 := h) (P := True) (by decide +kernel) rfl trivial ?_
            cases e
            exact q_iret rfl k.1 k.2 (by decide +kernel)
          · have e := it_t c_5 e
            refine sl_ok ok_C_four [.aload_n 0, .getfield 73, .aload_n 0, .getfield 28, .iload 5] (pc1 := 84) (ls1 := [some (.ref 0), some (.int x1), some (.int x2), some (.int x3), some (.int x4), some (.int ((((jshl 1 x1) ||| (jshl 1 x2)) ||| (jshl 1 x3)) ||| (jshl 1 x4)))]) (st1 := [.int ((((jshl 1 x1) ||| (jshl 1 x2)) ||| (jshl 1 x3)) ||| (jshl 1 x4)), .ref 8, .ref 28]) (h1 := h) (P := (ak 0 = 0 ∧ cx 0 = 11) ∧ (ak 0 = 0 ∧ cx 0 = 11) ∧ True) (by decide +kernel) rfl ⟨⟨rfl, rfl⟩, ⟨rfl, rfl⟩, trivial⟩ ?_
            obtain ⟨v_6, e_7, e⟩ := bi_s e
            refine q_callV ok_Shapes_partWithLeast (as := [.ref 8, .int ((((jshl 1 x1) ||| (jshl 1 x2)) ||| (jshl 1 x3)) ||| (jshl 1 x4))]) (st := []) ⟨wd_492, wd_493, wd_494, wd_231, ds_Shapes_partWithLeast, Nat.le_of_ble_eq_true rfl, Nat.le_of_ble_eq_true rfl⟩ (s_Shapes_partWithLeast ⟨rfl, rfl⟩ e_7) rfl ⟨rfl, rfl⟩ (ci := 7) rfl (fun v hv => by cases hv; rfl) (Nat.le_of_ble_eq_true rfl) (by decide +kernel) rfl ?_
            refine q_goto (off := 4) (tgt := 91) (by decide) (by decide +kernel) ?_
            cases e
            exact q_iret rfl k.1 k.2 (by decide +kernel)
        · have e := it_t c_4 e
          refine sl_ok ok_C_four [.iconst (-1)] (pc1 := 46) (ls1 := [some (.ref 0), some (.int x1), some (.int x2), some (.int x3), some (.int x4), none]) (st1 := [.int (-1)]) (h1 := h) (P := True) (by decide +kernel) rfl trivial ?_
          cases e
          exact q_iret rfl k.1 k.2 (by decide +kernel)
theorem s_C_four {E : pE} {x1 : Int32} {x2 : Int32} {x3 : Int32} {x4 : Int32} {h : pH}  {v : Int32} (e : f_C_four x1 x2 x3 x4 h = some v) : Ct E M_C_four [.ref 0, .int x1, .int x2, .int x3, .int x4] h (some (.int v)) h :=
  Ct_of ok_C_four [some (.ref 0), some (.int x1), some (.int x2), some (.int x3), some (.int x4), none] (Nat.le_of_ble_eq_true rfl) rfl (b_C_four  e ⟨rfl, rfl⟩)
def f_R_topmost_L1 (x0 : Int32) (x1 : Int32) : Option (Int32 ⊕ Int32) :=
  if (jshr x0 x1) ≤ 1 then
    some (.inr x1)
  else
    some (.inl (x1 + 1))
set_option maxHeartbeats 4000000 in
theorem b_R_topmost_L1 {E : pE} {r : Option Value} {hr : pH} {x0 : Int32} {x1 : Int32} {h : pH}  {b : (Int32 ⊕ Int32)} (e : f_R_topmost_L1 x0 x1 = some b) (k : (Sum.elim (fun s : Int32 => Go E M_R_topmost 2 [some (.int x0), some (.int s)] [] h r hr) (fun v : Int32 => r = some (.int v) ∧ hr = h)) b) : Go E M_R_topmost 2 [some (.int x0), some (.int x1)] [] h r hr := by
  unfold f_R_topmost_L1 at e
  refine sl_ok ok_R_topmost [.iload_n 0, .iload_n 1, .ishr, .iconst 1] (pc1 := 6) (ls1 := [some (.int x0), some (.int x1)]) (st1 := [.int 1, .int (jshr x0 x1)]) (h1 := h) (P := True) (by decide +kernel) rfl trivial ?_
  refine q_icmp_le (off := 9) (tgt := 15) (by decide +kernel) (by decide) (fun c_1 => ?_) (fun c_1 => ?_)
  · have e := it_t c_1 e
    refine sl_ok ok_R_topmost [.iload_n 1] (pc1 := 16) (ls1 := [some (.int x0), some (.int x1)]) (st1 := [.int x1]) (h1 := h) (P := True) (by decide +kernel) rfl trivial ?_
    cases e
    exact q_iret rfl k.1 k.2 (by decide +kernel)
  · have e := it_f c_1 e
    refine sl_ok ok_R_topmost [.iinc 1 1] (pc1 := 12) (ls1 := [some (.int x0), some (.int (x1 + 1))]) (st1 := []) (h1 := h) (P := True) (by decide +kernel) rfl trivial ?_
    refine q_goto (off := -10) (tgt := 2) (by decide) (by decide +kernel) ?_
    cases e
    exact k
def f_R_topmost (x0 : Int32) : Option Int32 :=
  lp (fun s => f_R_topmost_L1 x0 s) lpN 0
set_option maxHeartbeats 4000000 in
theorem b_R_topmost {E : pE} {r : Option Value} {hr : pH} {x0 : Int32} {h : pH}  {b : Int32} (e : f_R_topmost x0 = some b) (k : (fun v : Int32 => r = some (.int v) ∧ hr = h) b) : Go E M_R_topmost 0 [some (.int x0), none] [] h r hr := by
  unfold f_R_topmost at e
  refine sl_ok ok_R_topmost [.iconst 0, .istore_n 1] (pc1 := 2) (ls1 := [some (.int x0), some (.int 0)]) (st1 := []) (h1 := h) (P := True) (by decide +kernel) rfl trivial ?_
  exact lp_in e (fun s => Go E M_R_topmost 2 [some (.int x0), some (.int s)] [] h r hr) (fun v : Int32 => r = some (.int v) ∧ hr = h) (fun _ _ e k => b_R_topmost_L1  e k) k
theorem s_R_topmost {E : pE} {x0 : Int32} {h : pH}  {v : Int32} (e : f_R_topmost x0 = some v) : Ct E M_R_topmost [.int x0] h (some (.int v)) h :=
  Ct_of ok_R_topmost [some (.int x0), none] (Nat.le_of_ble_eq_true rfl) rfl (b_R_topmost  e ⟨rfl, rfl⟩)
