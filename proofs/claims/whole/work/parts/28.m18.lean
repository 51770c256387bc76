def f_R_isEmpty_L1 (x1 : Int32) (x2 : Int32) (x3 : Int32) (h : pH) (x4 : Int32) : Option (Int32 ⊕ Int32) :=
  if (f_R_all h) ≤ x4 then
    some (.inr 1)
  else
    if x4 = x1 then
      some (.inl (x4 + 1))
    else
      if x4 = x2 then
        some (.inl (x4 + 1))
      else
        if x4 = x3 then
          some (.inl (x4 + 1))
        else
          (f_R_x x4 h).bind fun v_5 =>
          (f_R_y x4 h).bind fun v_7 =>
          (f_R_isInside v_5 v_7 x1 x2 x3 h).bind fun v_9 =>
          if v_9 = 0 then
            some (.inl (x4 + 1))
          else
            some (.inr 0)
set_option maxHeartbeats 4000000 in
theorem b_R_isEmpty_L1 {E : pE} {r : Option Value} {hr : pH} {x1 : Int32} {x2 : Int32} {x3 : Int32} {h : pH} {x4 : Int32}  {b : (Int32 ⊕ Int32)} (e : f_R_isEmpty_L1 x1 x2 x3 h x4 = some b) (k : (Sum.elim (fun s : Int32 => Go E M_R_isEmpty 3 [some (.ref 79), some (.int x1), some (.int x2), some (.int x3), some (.int s)] [] h r hr) (fun v : Int32 => r = some (.int v) ∧ hr = h)) b) : Go E M_R_isEmpty 3 [some (.ref 79), some (.int x1), some (.int x2), some (.int x3), some (.int x4)] [] h r hr := by
  unfold f_R_isEmpty_L1 at e
  refine sl_ok ok_R_isEmpty [.iload 4, .aload_n 0] (pc1 := 6) (ls1 := [some (.ref 79), some (.int x1), some (.int x2), some (.int x3), some (.int x4)]) (st1 := [.ref 79, .int x4]) (h1 := h) (P := True) (by decide +kernel) rfl trivial ?_
  refine q_callV ok_R_all (as := []) (st := [.int x4]) ⟨wd_151, wd_152, wd_153, wd_7, ds_R_all, Nat.le_of_ble_eq_true rfl, Nat.le_of_ble_eq_true rfl⟩ (s_R_all ) rfl ⟨rfl, rfl⟩ (ci := 12) rfl (fun v hv => by cases hv; rfl) (Nat.le_of_ble_eq_true rfl) (by decide +kernel) rfl ?_
  refine q_icmp_ge (off := 51) (tgt := 60) (by decide +kernel) (by decide) (fun c_1 => ?_) (fun c_1 => ?_)
  · have e := it_t c_1 e
    refine sl_ok ok_R_isEmpty [.iconst 1] (pc1 := 61) (ls1 := [some (.ref 79), some (.int x1), some (.int x2), some (.int x3), some (.int x4)]) (st1 := [.int 1]) (h1 := h) (P := True) (by decide +kernel) rfl trivial ?_
    cases e
    exact q_zret rfl (Or.inr rfl) k.1 k.2 (by decide +kernel)
  · have e := it_f c_1 e
    refine sl_ok ok_R_isEmpty [.iload 4, .iload_n 1] (pc1 := 15) (ls1 := [some (.ref 79), some (.int x1), some (.int x2), some (.int x3), some (.int x4)]) (st1 := [.int x1, .int x4]) (h1 := h) (P := True) (by decide +kernel) rfl trivial ?_
    refine q_icmp_eq (off := 39) (tgt := 54) (by decide +kernel) (by decide) (fun c_2 => ?_) (fun c_2 => ?_)
    · have e := it_t c_2 e
      refine sl_ok ok_R_isEmpty [.iinc 4 1] (pc1 := 57) (ls1 := [some (.ref 79), some (.int x1), some (.int x2), some (.int x3), some (.int (x4 + 1))]) (st1 := []) (h1 := h) (P := True) (by decide +kernel) rfl trivial ?_
      refine q_goto (off := -54) (tgt := 3) (by decide) (by decide +kernel) ?_
      cases e
      exact k
    · have e := it_f c_2 e
      refine sl_ok ok_R_isEmpty [.iload 4, .iload_n 2] (pc1 := 21) (ls1 := [some (.ref 79), some (.int x1), some (.int x2), some (.int x3), some (.int x4)]) (st1 := [.int x2, .int x4]) (h1 := h) (P := True) (by decide +kernel) rfl trivial ?_
      refine q_icmp_eq (off := 33) (tgt := 54) (by decide +kernel) (by decide) (fun c_3 => ?_) (fun c_3 => ?_)
      · have e := it_t c_3 e
        refine sl_ok ok_R_isEmpty [.iinc 4 1] (pc1 := 57) (ls1 := [some (.ref 79), some (.int x1), some (.int x2), some (.int x3), some (.int (x4 + 1))]) (st1 := []) (h1 := h) (P := True) (by decide +kernel) rfl trivial ?_
        refine q_goto (off := -54) (tgt := 3) (by decide) (by decide +kernel) ?_
        cases e
        exact k
      · have e := it_f c_3 e
        refine sl_ok ok_R_isEmpty [.iload 4, .iload_n 3] (pc1 := 27) (ls1 := [some (.ref 79), some (.int x1), some (.int x2), some (.int x3), some (.int x4)]) (st1 := [.int x3, .int x4]) (h1 := h) (P := True) (by decide +kernel) rfl trivial ?_
        refine q_icmp_eq (off := 27) (tgt := 54) (by decide +kernel) (by decide) (fun c_4 => ?_) (fun c_4 => ?_)
        · have e := it_t c_4 e
          refine sl_ok ok_R_isEmpty [.iinc 4 1] (pc1 := 57) (ls1 := [some (.ref 79), some (.int x1), some (.int x2), some (.int x3), some (.int (x4 + 1))]) (st1 := []) (h1 := h) (P := True) (by decide +kernel) rfl trivial ?_
          refine q_goto (off := -54) (tgt := 3) (by decide) (by decide +kernel) ?_
          cases e
          exact k
        · have e := it_f c_4 e
          refine sl_ok ok_R_isEmpty [.aload_n 0, .aload_n 0, .iload 4] (pc1 := 34) (ls1 := [some (.ref 79), some (.int x1), some (.int x2), some (.int x3), some (.int x4)]) (st1 := [.int x4, .ref 79, .ref 79]) (h1 := h) (P := True) (by decide +kernel) rfl trivial ?_
          obtain ⟨v_5, e_6, e⟩ := bi_s e
          refine q_callV ok_R_x (as := [.int x4]) (st := [.ref 79]) ⟨wd_154, wd_155, wd_156, wd_7, ds_R_x, Nat.le_of_ble_eq_true rfl, Nat.le_of_ble_eq_true rfl⟩ (s_R_x  e_6) rfl ⟨rfl, rfl⟩ (ci := 12) rfl (fun v hv => by cases hv; rfl) (Nat.le_of_ble_eq_true rfl) (by decide +kernel) rfl ?_
          refine sl_ok ok_R_isEmpty [.aload_n 0, .iload 4] (pc1 := 40) (ls1 := [some (.ref 79), some (.int x1), some (.int x2), some (.int x3), some (.int x4)]) (st1 := [.int x4, .ref 79, .int v_5, .ref 79]) (h1 := h) (P := True) (by decide +kernel) rfl trivial ?_
          obtain ⟨v_7, e_8, e⟩ := bi_s e
          refine q_callV ok_R_y (as := [.int x4]) (st := [.int v_5, .ref 79]) ⟨wd_157, wd_158, wd_159, wd_7, ds_R_y, Nat.le_of_ble_eq_true rfl, Nat.le_of_ble_eq_true rfl⟩ (s_R_y  e_8) rfl ⟨rfl, rfl⟩ (ci := 12) rfl (fun v hv => by cases hv; rfl) (Nat.le_of_ble_eq_true rfl) (by decide +kernel) rfl ?_
          refine sl_ok ok_R_isEmpty [.iload_n 1, .iload_n 2, .iload_n 3] (pc1 := 46) (ls1 := [some (.ref 79), some (.int x1), some (.int x2), some (.int x3), some (.int x4)]) (st1 := [.int x3, .int x2, .int x1, .int v_7, .int v_5, .ref 79]) (h1 := h) (P := True) (by decide +kernel) rfl trivial ?_
          obtain ⟨v_9, e_10, e⟩ := bi_s e
          refine q_callV ok_R_isInside (as := [.int v_5, .int v_7, .int x1, .int x2, .int x3]) (st := []) ⟨wd_409, wd_410, wd_411, wd_7, ds_R_isInside, Nat.le_of_ble_eq_true rfl, Nat.le_of_ble_eq_true rfl⟩ (s_R_isInside  e_10) rfl ⟨rfl, rfl⟩ (ci := 12) rfl (fun v hv => by cases hv; rfl) (Nat.le_of_ble_eq_true rfl) (by decide +kernel) rfl ?_
          refine q_if_eq (off := 5) (tgt := 54) (by decide +kernel) (by decide) (fun c_11 => ?_) (fun c_11 => ?_)
          · have e := it_t c_11 e
            refine sl_ok ok_R_isEmpty [.iinc 4 1] (pc1 := 57) (ls1 := [some (.ref 79), some (.int x1), some (.int x2), some (.int x3), some (.int (x4 + 1))]) (st1 := []) (h1 := h) (P := True) (by decide +kernel) rfl trivial ?_
            refine q_goto (off := -54) (tgt := 3) (by decide) (by decide +kernel) ?_
            cases e
            exact k
          · have e := it_f c_11 e
            refine sl_ok ok_R_isEmpty [.iconst 0] (pc1 := 53) (ls1 := [some (.ref 79), some (.int x1), some (.int x2), some (.int x3), some (.int x4)]) (st1 := [.int 0]) (h1 := h) (P := True) (by decide +kernel) rfl trivial ?_
            cases e
            exact q_zret rfl (Or.inl rfl) k.1 k.2 (by decide +kernel)
def f_R_isEmpty (x1 : Int32) (x2 : Int32) (x3 : Int32) (h : pH) : Option Int32 :=
  lp (fun s => f_R_isEmpty_L1 x1 x2 x3 h s) lpN 0
set_option maxHeartbeats 4000000 in
theorem b_R_isEmpty {E : pE} {r : Option Value} {hr : pH} {x1 : Int32} {x2 : Int32} {x3 : Int32} {h : pH}  {b : Int32} (e : f_R_isEmpty x1 x2 x3 h = some b) (k : (fun v : Int32 => r = some (.int v) ∧ hr = h) b) : Go E M_R_isEmpty 0 [some (.ref 79), some (.int x1), some (.int x2), some (.int x3), none] [] h r hr := by
  unfold f_R_isEmpty at e
  refine sl_ok ok_R_isEmpty [.iconst 0, .istore 4] (pc1 := 3) (ls1 := [some (.ref 79), some (.int x1), some (.int x2), some (.int x3), some (.int 0)]) (st1 := []) (h1 := h) (P := True) (by decide +kernel) rfl trivial ?_
  exact lp_in e (fun s => Go E M_R_isEmpty 3 [some (.ref 79), some (.int x1), some (.int x2), some (.int x3), some (.int s)] [] h r hr) (fun v : Int32 => r = some (.int v) ∧ hr = h) (fun _ _ e k => b_R_isEmpty_L1  e k) k
theorem s_R_isEmpty {E : pE} {x1 : Int32} {x2 : Int32} {x3 : Int32} {h : pH}  {v : Int32} (e : f_R_isEmpty x1 x2 x3 h = some v) : Ct E M_R_isEmpty [.ref 79, .int x1, .int x2, .int x3] h (some (.int v)) h :=
  Ct_of ok_R_isEmpty [some (.ref 79), some (.int x1), some (.int x2), some (.int x3), none] (Nat.le_of_ble_eq_true rfl) rfl (b_R_isEmpty  e ⟨rfl, rfl⟩)
def f_R_emptyOnes_L3 (x2 : Int32) (x3 : Int32) (h : pH) (x1 : Int32) (x4 : Int32) : Option ((Int32 × Int32) ⊕ ((Int32 × Int32) ⊕ ((Int32 × Int32) ⊕ Int32))) :=
  if x3 ≤ x4 then
    some (.inr (.inl (x1, (x3 + 1))))
  else
    (f_R_sideOf x2 x3 x4 h).bind fun v_2 =>
    if v_2 = 0 then
      some (.inl (x1, (x4 + 1)))
    else
      (f_R_isEmpty x2 x3 x4 h).bind fun v_5 =>
      if v_5 = 0 then
        some (.inl (x1, (x4 + 1)))
      else
        some (.inl ((x1 + 1), (x4 + 1)))
set_option maxHeartbeats 4000000 in
theorem b_R_emptyOnes_L3 {E : pE} {r : Option Value} {hr : pH} {x2 : Int32} {x3 : Int32} {h : pH} {x1 : Int32} {x4 : Int32}  {b : ((Int32 × Int32) ⊕ ((Int32 × Int32) ⊕ ((Int32 × Int32) ⊕ Int32)))} (e : f_R_emptyOnes_L3 x2 x3 h x1 x4 = some b) (k : (Sum.elim (fun s : (Int32 × Int32) => Go E M_R_emptyOnes 22 [some (.ref 79), some (.int s.1), some (.int x2), some (.int x3), some (.int s.2)] [] h r hr) (Sum.elim (fun s : (Int32 × Int32) => Go E M_R_emptyOnes 14 [some (.ref 79), some (.int s.1), some (.int x2), some (.int s.2), none] [] h r hr) (Sum.elim (fun s : (Int32 × Int32) => Go E M_R_emptyOnes 4 [some (.ref 79), some (.int s.1), some (.int s.2), none, none] [] h r hr) (fun v : Int32 => r = some (.int v) ∧ hr = h)))) b) : Go E M_R_emptyOnes 22 [some (.ref 79), some (.int x1), some (.int x2), some (.int x3), some (.int x4)] [] h r hr := by
  unfold f_R_emptyOnes_L3 at e
  refine sl_ok ok_R_emptyOnes [.iload 4, .iload_n 3] (pc1 := 25) (ls1 := [some (.ref 79), some (.int x1), some (.int x2), some (.int x3), some (.int x4)]) (st1 := [.int x3, .int x4]) (h1 := h) (P := True) (by decide +kernel) rfl trivial ?_
  refine q_icmp_ge (off := 34) (tgt := 59) (by decide +kernel) (by decide) (fun c_1 => ?_) (fun c_1 => ?_)
  · have e := it_t c_1 e
    refine sl_ok ok_R_emptyOnes [.iinc 3 1] (pc1 := 62) (ls1 := [some (.ref 79), some (.int x1), some (.int x2), some (.int (x3 + 1)), some (.int x4)]) (st1 := []) (h1 := h) (P := True) (by decide +kernel) rfl trivial ?_
    refine q_goto (off := -48) (tgt := 14) (by decide) (by decide +kernel) ?_
    cases e
    refine Go.sb [some (.ref 79), some (.int x1), some (.int x2), some (.int (x3 + 1)), none] (And.intro rfl (And.intro rfl (And.intro rfl (And.intro rfl trivial)))) ?_
    exact k
  · have e := it_f c_1 e
    refine sl_ok ok_R_emptyOnes [.aload_n 0, .iload_n 2, .iload_n 3, .iload 4] (pc1 := 33) (ls1 := [some (.ref 79), some (.int x1), some (.int x2), some (.int x3), some (.int x4)]) (st1 := [.int x4, .int x3, .int x2, .ref 79]) (h1 := h) (P := True) (by decide +kernel) rfl trivial ?_
    obtain ⟨v_2, e_3, e⟩ := bi_s e
    refine q_callV ok_R_sideOf (as := [.int x2, .int x3, .int x4]) (st := []) ⟨wd_257, wd_258, wd_259, wd_7, ds_R_sideOf, Nat.le_of_ble_eq_true rfl, Nat.le_of_ble_eq_true rfl⟩ (s_R_sideOf  e_3) rfl ⟨rfl, rfl⟩ (ci := 12) rfl (fun v hv => by cases hv; rfl) (Nat.le_of_ble_eq_true rfl) (by decide +kernel) rfl ?_
    refine q_if_eq (off := 17) (tgt := 53) (by decide +kernel) (by decide) (fun c_4 => ?_) (fun c_4 => ?_)
    · have e := it_t c_4 e
      refine sl_ok ok_R_emptyOnes [.iinc 4 1] (pc1 := 56) (ls1 := [some (.ref 79), some (.int x1), some (.int x2), some (.int x3), some (.int (x4 + 1))]) (st1 := []) (h1 := h) (P := True) (by decide +kernel) rfl trivial ?_
      refine q_goto (off := -34) (tgt := 22) (by decide) (by decide +kernel) ?_
      cases e
      exact k
    · have e := it_f c_4 e
      refine sl_ok ok_R_emptyOnes [.aload_n 0, .iload_n 2, .iload_n 3, .iload 4] (pc1 := 44) (ls1 := [some (.ref 79), some (.int x1), some (.int x2), some (.int x3), some (.int x4)]) (st1 := [.int x4, .int x3, .int x2, .ref 79]) (h1 := h) (P := True) (by decide +kernel) rfl trivial ?_
      obtain ⟨v_5, e_6, e⟩ := bi_s e
      refine q_callV ok_R_isEmpty (as := [.int x2, .int x3, .int x4]) (st := []) ⟨wd_552, wd_553, wd_554, wd_7, ds_R_isEmpty, Nat.le_of_ble_eq_true rfl, Nat.le_of_ble_eq_true rfl⟩ (s_R_isEmpty  e_6) rfl ⟨rfl, rfl⟩ (ci := 12) rfl (fun v hv => by cases hv; rfl) (Nat.le_of_ble_eq_true rfl) (by decide +kernel) rfl ?_
      refine q_if_eq (off := 6) (tgt := 53) (by decide +kernel) (by decide) (fun c_7 => ?_) (fun c_7 => ?_)
      · have e := it_t c_7 e
        refine sl_ok ok_R_emptyOnes [.iinc 4 1] (pc1 := 56) (ls1 := [some (.ref 79), some (.int x1), some (.int x2), some (.int x3), some (.int (x4 + 1))]) (st1 := []) (h1 := h) (P := True) (by decide +kernel) rfl trivial ?_
        refine q_goto (off := -34) (tgt := 22) (by decide) (by decide +kernel) ?_
        cases e
        exact k
      · have e := it_f c_7 e
        refine sl_ok ok_R_emptyOnes [.iinc 1 1, .iinc 4 1] (pc1 := 56) (ls1 := [some (.ref 79), some (.int (x1 + 1)), some (.int x2), some (.int x3), some (.int (x4 + 1))]) (st1 := []) (h1 := h) (P := True) (by decide +kernel) rfl trivial ?_
        refine q_goto (off := -34) (tgt := 22) (by decide) (by decide +kernel) ?_
        cases e
        exact k
def f_R_emptyOnes_L2 (x2 : Int32) (h : pH) (x1 : Int32) (x3 : Int32) : Option ((Int32 × Int32) ⊕ ((Int32 × Int32) ⊕ Int32)) :=
  if x2 ≤ x3 then
    some (.inr (.inl (x1, (x2 + 1))))
  else
    lp (fun s => f_R_emptyOnes_L3 x2 x3 h s.1 s.2) lpN (x1, 0)
set_option maxHeartbeats 4000000 in
theorem b_R_emptyOnes_L2 {E : pE} {r : Option Value} {hr : pH} {x2 : Int32} {h : pH} {x1 : Int32} {x3 : Int32}  {b : ((Int32 × Int32) ⊕ ((Int32 × Int32) ⊕ Int32))} (e : f_R_emptyOnes_L2 x2 h x1 x3 = some b) (k : (Sum.elim (fun s : (Int32 × Int32) => Go E M_R_emptyOnes 14 [some (.ref 79), some (.int s.1), some (.int x2), some (.int s.2), none] [] h r hr) (Sum.elim (fun s : (Int32 × Int32) => Go E M_R_emptyOnes 4 [some (.ref 79), some (.int s.1), some (.int s.2), none, none] [] h r hr) (fun v : Int32 => r = some (.int v) ∧ hr = h))) b) : Go E M_R_emptyOnes 14 [some (.ref 79), some (.int x1), some (.int x2), some (.int x3), none] [] h r hr := by
  unfold f_R_emptyOnes_L2 at e
  refine sl_ok ok_R_emptyOnes [.iload_n 3, .iload_n 2] (pc1 := 16) (ls1 := [some (.ref 79), some (.int x1), some (.int x2), some (.int x3), none]) (st1 := [.int x2, .int x3]) (h1 := h) (P := True) (by decide +kernel) rfl trivial ?_
  refine q_icmp_ge (off := 49) (tgt := 65) (by decide +kernel) (by decide) (fun c_1 => ?_) (fun c_1 => ?_)
  · have e := it_t c_1 e
    refine sl_ok ok_R_emptyOnes [.iinc 2 1] (pc1 := 68) (ls1 := [some (.ref 79), some (.int x1), some (.int (x2 + 1)), some (.int x3), none]) (st1 := []) (h1 := h) (P := True) (by decide +kernel) rfl trivial ?_
    refine q_goto (off := -64) (tgt := 4) (by decide) (by decide +kernel) ?_
    cases e
    refine Go.sb [some (.ref 79), some (.int x1), some (.int (x2 + 1)), none, none] (And.intro rfl (And.intro rfl (And.intro rfl trivial))) ?_
    exact k
  · have e := it_f c_1 e
    refine sl_ok ok_R_emptyOnes [.iconst 0, .istore 4] (pc1 := 22) (ls1 := [some (.ref 79), some (.int x1), some (.int x2), some (.int x3), some (.int 0)]) (st1 := []) (h1 := h) (P := True) (by decide +kernel) rfl trivial ?_
    exact lp_in e (fun s => Go E M_R_emptyOnes 22 [some (.ref 79), some (.int s.1), some (.int x2), some (.int x3), some (.int s.2)] [] h r hr) (Sum.elim (fun s : (Int32 × Int32) => Go E M_R_emptyOnes 14 [some (.ref 79), some (.int s.1), some (.int x2), some (.int s.2), none] [] h r hr) (Sum.elim (fun s : (Int32 × Int32) => Go E M_R_emptyOnes 4 [some (.ref 79), some (.int s.1), some (.int s.2), none, none] [] h r hr) (fun v : Int32 => r = some (.int v) ∧ hr = h))) (fun _ _ e k => b_R_emptyOnes_L3  e k) k
def f_R_emptyOnes_L1 (h : pH) (x1 : Int32) (x2 : Int32) : Option ((Int32 × Int32) ⊕ Int32) :=
  if (f_R_all h) ≤ x2 then
    some (.inr x1)
  else
    lp (fun s => f_R_emptyOnes_L2 x2 h s.1 s.2) lpN (x1, 0)
set_option maxHeartbeats 4000000 in
theorem b_R_emptyOnes_L1 {E : pE} {r : Option Value} {hr : pH} {h : pH} {x1 : Int32} {x2 : Int32}  {b : ((Int32 × Int32) ⊕ Int32)} (e : f_R_emptyOnes_L1 h x1 x2 = some b) (k : (Sum.elim (fun s : (Int32 × Int32) => Go E M_R_emptyOnes 4 [some (.ref 79), some (.int s.1), some (.int s.2), none, none] [] h r hr) (fun v : Int32 => r = some (.int v) ∧ hr = h)) b) : Go E M_R_emptyOnes 4 [some (.ref 79), some (.int x1), some (.int x2), none, none] [] h r hr := by
  unfold f_R_emptyOnes_L1 at e
  refine sl_ok ok_R_emptyOnes [.iload_n 2, .aload_n 0] (pc1 := 6) (ls1 := [some (.ref 79), some (.int x1), some (.int x2), none, none]) (st1 := [.ref 79, .int x2]) (h1 := h) (P := True) (by decide +kernel) rfl trivial ?_
  refine q_callV ok_R_all (as := []) (st := [.int x2]) ⟨wd_151, wd_152, wd_153, wd_7, ds_R_all, Nat.le_of_ble_eq_true rfl, Nat.le_of_ble_eq_true rfl⟩ (s_R_all ) rfl ⟨rfl, rfl⟩ (ci := 12) rfl (fun v hv => by cases hv; rfl) (Nat.le_of_ble_eq_true rfl) (by decide +kernel) rfl ?_
  refine q_icmp_ge (off := 62) (tgt := 71) (by decide +kernel) (by decide) (fun c_1 => ?_) (fun c_1 => ?_)
  · have e := it_t c_1 e
    refine sl_ok ok_R_emptyOnes [.iload_n 1] (pc1 := 72) (ls1 := [some (.ref 79), some (.int x1), some (.int x2), none, none]) (st1 := [.int x1]) (h1 := h) (P := True) (by decide +kernel) rfl trivial ?_
    cases e
    exact q_iret rfl k.1 k.2 (by decide +kernel)
  · have e := it_f c_1 e
    refine sl_ok ok_R_emptyOnes [.iconst 0, .istore_n 3] (pc1 := 14) (ls1 := [some (.ref 79), some (.int x1), some (.int x2), some (.int 0), none]) (st1 := []) (h1 := h) (P := True) (by decide +kernel) rfl trivial ?_
    exact lp_in e (fun s => Go E M_R_emptyOnes 14 [some (.ref 79), some (.int s.1), some (.int x2), some (.int s.2), none] [] h r hr) (Sum.elim (fun s : (Int32 × Int32) => Go E M_R_emptyOnes 4 [some (.ref 79), some (.int s.1), some (.int s.2), none, none] [] h r hr) (fun v : Int32 => r = some (.int v) ∧ hr = h)) (fun _ _ e k => b_R_emptyOnes_L2  e k) k
def f_R_emptyOnes (h : pH) : Option Int32 :=
  lp (fun s => f_R_emptyOnes_L1 h s.1 s.2) lpN (0, 0)
set_option maxHeartbeats 4000000 in
theorem b_R_emptyOnes {E : pE} {r : Option Value} {hr : pH} {h : pH}  {b : Int32} (e : f_R_emptyOnes h = some b) (k : (fun v : Int32 => r = some (.int v) ∧ hr = h) b) : Go E M_R_emptyOnes 0 [some (.ref 79), none, none, none, none] [] h r hr := by
  unfold f_R_emptyOnes at e
  refine sl_ok ok_R_emptyOnes [.iconst 0, .istore_n 1, .iconst 0, .istore_n 2] (pc1 := 4) (ls1 := [some (.ref 79), some (.int 0), some (.int 0), none, none]) (st1 := []) (h1 := h) (P := True) (by decide +kernel) rfl trivial ?_
  exact lp_in e (fun s => Go E M_R_emptyOnes 4 [some (.ref 79), some (.int s.1), some (.int s.2), none, none] [] h r hr) (fun v : Int32 => r = some (.int v) ∧ hr = h) (fun _ _ e k => b_R_emptyOnes_L1  e k) k
theorem s_R_emptyOnes {E : pE} {h : pH}  {v : Int32} (e : f_R_emptyOnes h = some v) : Ct E M_R_emptyOnes [.ref 79] h (some (.int v)) h :=
  Ct_of ok_R_emptyOnes [some (.ref 79), none, none, none, none] (Nat.le_of_ble_eq_true rfl) rfl (b_R_emptyOnes  e ⟨rfl, rfl⟩)
def f_R_crossingWays_L1 (h : pH) (x1 : Int32) (x2 : Int32) : Option ((Int32 × Int32) ⊕ (Int32 × pH)) :=
  if (hI h 79 31) ≤ x2 then
    some (.inr (x1, h))
  else
    if x2 < 0 ∨ 900 ≤ x2.toNatClampNeg then none else
    (f_R_bitsOf (hI h 96 x2.toNatClampNeg)).bind fun v_3 =>
    if v_3 = 2 then
      some (.inl ((x1 + 1), (x2 + 1)))
    else
      some (.inl (x1, (x2 + 1)))
set_option maxHeartbeats 4000000 in
theorem b_R_crossingWays_L1 {E : pE} {r : Option Value} {hr : pH} {h : pH} {x1 : Int32} {x2 : Int32}  {b : ((Int32 × Int32) ⊕ (Int32 × pH))} (e : f_R_crossingWays_L1 h x1 x2 = some b) (k : (Sum.elim (fun s : (Int32 × Int32) => Go E M_R_crossingWays 8 [some (.ref 79), some (.int s.1), some (.int s.2)] [] h r hr) (fun v : (Int32 × pH) => r = some (.int v.1) ∧ hr = v.2)) b) : Go E M_R_crossingWays 8 [some (.ref 79), some (.int x1), some (.int x2)] [] h r hr := by
  unfold f_R_crossingWays_L1 at e
  refine sl_ok ok_R_crossingWays [.iload_n 2, .aload_n 0, .getfield 258] (pc1 := 13) (ls1 := [some (.ref 79), some (.int x1), some (.int x2)]) (st1 := [.int (hI h 79 31), .int x2]) (h1 := h) (P := (ak 79 = 0 ∧ cx 79 = 12) ∧ True) (by decide +kernel) rfl ⟨⟨rfl, rfl⟩, trivial⟩ ?_
  refine q_icmp_ge (off := 25) (tgt := 38) (by decide +kernel) (by decide) (fun c_1 => ?_) (fun c_1 => ?_)
  · have e := it_t c_1 e
    refine sl_ok ok_R_crossingWays [.iload_n 1] (pc1 := 39) (ls1 := [some (.ref 79), some (.int x1), some (.int x2)]) (st1 := [.int x1]) (h1 := h) (P := True) (by decide +kernel) rfl trivial ?_
    cases e
    exact q_iret rfl k.1 k.2 (by decide +kernel)
  · have e := it_f c_1 e
    obtain ⟨g_2, e⟩ := it_g e
    refine sl_ok ok_R_crossingWays [.aload_n 0, .getfield 68, .iload_n 2, .iaload] (pc1 := 22) (ls1 := [some (.ref 79), some (.int x1), some (.int x2)]) (st1 := [.int (hI h 96 x2.toNatClampNeg)]) (h1 := h) (P := (ak 79 = 0 ∧ cx 79 = 12) ∧ (ak 96 = 1 ∧ ¬ (x2 < 0 ∨ cx 96 ≤ x2.toNatClampNeg)) ∧ True) (by decide +kernel) rfl ⟨⟨rfl, rfl⟩, ⟨rfl, g_2⟩, trivial⟩ ?_
    obtain ⟨v_3, e_4, e⟩ := bi_s e
    refine q_callS ok_R_bitsOf (as := [.int (hI h 96 x2.toNatClampNeg)]) (st := []) ⟨wd_304, wd_305, wd_7, ds_R_bitsOf, Nat.le_of_ble_eq_true rfl, Nat.le_of_ble_eq_true rfl⟩ (s_R_bitsOf  e_4) rfl (fun v hv => by cases hv; rfl) (Nat.le_of_ble_eq_true rfl) (by decide +kernel) rfl ?_
    refine sl_ok ok_R_crossingWays [.iconst 2] (pc1 := 26) (ls1 := [some (.ref 79), some (.int x1), some (.int x2)]) (st1 := [.int 2, .int v_3]) (h1 := h) (P := True) (by decide +kernel) rfl trivial ?_
    refine q_icmp_ne (off := 6) (tgt := 32) (by decide +kernel) (by decide) (fun c_5 => ?_) (fun c_5 => ?_)
    · have e := it_f c_5 e
      refine sl_ok ok_R_crossingWays [.iinc 2 1] (pc1 := 35) (ls1 := [some (.ref 79), some (.int x1), some (.int (x2 + 1))]) (st1 := []) (h1 := h) (P := True) (by decide +kernel) rfl trivial ?_
      refine q_goto (off := -27) (tgt := 8) (by decide) (by decide +kernel) ?_
      cases e
      exact k
    · have e := it_t c_5 e
      refine sl_ok ok_R_crossingWays [.iinc 1 1, .iinc 2 1] (pc1 := 35) (ls1 := [some (.ref 79), some (.int (x1 + 1)), some (.int (x2 + 1))]) (st1 := []) (h1 := h) (P := True) (by decide +kernel) rfl trivial ?_
      refine q_goto (off := -27) (tgt := 8) (by decide) (by decide +kernel) ?_
      cases e
      exact k
def f_R_crossingWays (h : pH) : Option (Int32 × pH) :=
  (f_R_laysMeetings h).bind fun v_1 =>
  lp (fun s => f_R_crossingWays_L1 v_1 s.1 s.2) lpN (0, 0)
set_option maxHeartbeats 4000000 in
theorem b_R_crossingWays {E : pE} {r : Option Value} {hr : pH} {h : pH}  {b : (Int32 × pH)} (e : f_R_crossingWays h = some b) (k : (fun v : (Int32 × pH) => r = some (.int v.1) ∧ hr = v.2) b) : Go E M_R_crossingWays 0 [some (.ref 79), none, none] [] h r hr := by
  unfold f_R_crossingWays at e
  refine sl_ok ok_R_crossingWays [.aload_n 0] (pc1 := 1) (ls1 := [some (.ref 79), none, none]) (st1 := [.ref 79]) (h1 := h) (P := True) (by decide +kernel) rfl trivial ?_
  obtain ⟨v_1, e_2, e⟩ := bi_s e
  refine q_callV ok_R_laysMeetings (as := []) (st := []) ⟨wd_371, wd_372, wd_373, wd_7, ds_R_laysMeetings, Nat.le_of_ble_eq_true rfl, Nat.le_of_ble_eq_true rfl⟩ (s_R_laysMeetings  e_2) rfl ⟨rfl, rfl⟩ (ci := 12) rfl (fun v hv => by cases hv) (Nat.le_of_ble_eq_true rfl) (by decide +kernel) rfl ?_
  refine sl_ok ok_R_crossingWays [.iconst 0, .istore_n 1, .iconst 0, .istore_n 2] (pc1 := 8) (ls1 := [some (.ref 79), some (.int 0), some (.int 0)]) (st1 := []) (h1 := v_1) (P := True) (by decide +kernel) rfl trivial ?_
  exact lp_in e (fun s => Go E M_R_crossingWays 8 [some (.ref 79), some (.int s.1), some (.int s.2)] [] v_1 r hr) (fun v : (Int32 × pH) => r = some (.int v.1) ∧ hr = v.2) (fun _ _ e k => b_R_crossingWays_L1  e k) k
theorem s_R_crossingWays {E : pE} {h : pH}  {v : (Int32 × pH)} (e : f_R_crossingWays h = some v) : Ct E M_R_crossingWays [.ref 79] h (some (.int v.1)) v.2 :=
  Ct_of ok_R_crossingWays [some (.ref 79), none, none] (Nat.le_of_ble_eq_true rfl) rfl (b_R_crossingWays  e ⟨rfl, rfl⟩)
def f_R_count_J2 (t0 : Int32) (t1 : Int32) (h : pH) : Option (Int32 × pH) :=
  if (hI h 93 2) = 0 then
    some (((t1 + t0) + 0), h)
  else
    some (((t1 + t0) + 1), h)
set_option maxHeartbeats 4000000 in
theorem b_R_count_J2 {E : pE} {r : Option Value} {hr : pH} {t0 : Int32} {t1 : Int32} {h : pH}  {b : (Int32 × pH)} (e : f_R_count_J2 t0 t1 h = some b) (k : (fun v : (Int32 × pH) => r = some (.int v.1) ∧ hr = v.2) b) : Go E M_R_count 157 [some (.ref 79), none] [.int t0, .int t1] h r hr := by
  unfold f_R_count_J2 at e
  refine sl_ok ok_R_count [.iadd, .aload_n 0, .getfield 59, .iconst 2, .baload] (pc1 := 164) (ls1 := [some (.ref 79), none]) (st1 := [.int (hI h 93 2), .int (t1 + t0)]) (h1 := h) (P := (ak 79 = 0 ∧ cx 79 = 12) ∧ ((ak 93 = 2 ∨ ak 93 = 3) ∧ ¬ ((2 : Int32) < 0 ∨ cx 93 ≤ (2 : Int32).toNatClampNeg)) ∧ True) (by decide +kernel) rfl ⟨⟨rfl, rfl⟩, ⟨Or.inr rfl, (by decide)⟩, trivial⟩ ?_
  refine q_if_eq (off := 7) (tgt := 171) (by decide +kernel) (by decide) (fun c_1 => ?_) (fun c_1 => ?_)
  · have e := it_t c_1 e
    refine sl_ok ok_R_count [.iconst 0, .iadd] (pc1 := 173) (ls1 := [some (.ref 79), none]) (st1 := [.int ((t1 + t0) + 0)]) (h1 := h) (P := True) (by decide +kernel) rfl trivial ?_
    cases e
    exact q_iret rfl k.1 k.2 (by decide +kernel)
  · have e := it_f c_1 e
    refine sl_ok ok_R_count [.iconst 1] (pc1 := 168) (ls1 := [some (.ref 79), none]) (st1 := [.int 1, .int (t1 + t0)]) (h1 := h) (P := True) (by decide +kernel) rfl trivial ?_
    refine q_goto (off := 4) (tgt := 172) (by decide) (by decide +kernel) ?_
    refine sl_ok ok_R_count [.iadd] (pc1 := 173) (ls1 := [some (.ref 79), none]) (st1 := [.int ((t1 + t0) + 1)]) (h1 := h) (P := True) (by decide +kernel) rfl trivial ?_
    cases e
    exact q_iret rfl k.1 k.2 (by decide +kernel)
def f_R_count_J1 (t0 : Int32) (h : pH) : Option (Int32 × pH) :=
  if (hI h 93 1) = 0 then
    f_R_count_J2 0 t0 h
  else
    f_R_count_J2 1 t0 h
set_option maxHeartbeats 4000000 in
theorem b_R_count_J1 {E : pE} {r : Option Value} {hr : pH} {t0 : Int32} {h : pH}  {b : (Int32 × pH)} (e : f_R_count_J1 t0 h = some b) (k : (fun v : (Int32 × pH) => r = some (.int v.1) ∧ hr = v.2) b) : Go E M_R_count 143 [some (.ref 79), none] [.int t0] h r hr := by
  unfold f_R_count_J1 at e
  refine sl_ok ok_R_count [.aload_n 0, .getfield 59, .iconst 1, .baload] (pc1 := 149) (ls1 := [some (.ref 79), none]) (st1 := [.int (hI h 93 1), .int t0]) (h1 := h) (P := (ak 79 = 0 ∧ cx 79 = 12) ∧ ((ak 93 = 2 ∨ ak 93 = 3) ∧ ¬ ((1 : Int32) < 0 ∨ cx 93 ≤ (1 : Int32).toNatClampNeg)) ∧ True) (by decide +kernel) rfl ⟨⟨rfl, rfl⟩, ⟨Or.inr rfl, (by decide)⟩, trivial⟩ ?_
  refine q_if_eq (off := 7) (tgt := 156) (by decide +kernel) (by decide) (fun c_1 => ?_) (fun c_1 => ?_)
  · have e := it_t c_1 e
    refine sl_ok ok_R_count [.iconst 0] (pc1 := 157) (ls1 := [some (.ref 79), none]) (st1 := [.int 0, .int t0]) (h1 := h) (P := True) (by decide +kernel) rfl trivial ?_
    exact b_R_count_J2  e k
  · have e := it_f c_1 e
    refine sl_ok ok_R_count [.iconst 1] (pc1 := 153) (ls1 := [some (.ref 79), none]) (st1 := [.int 1, .int t0]) (h1 := h) (P := True) (by decide +kernel) rfl trivial ?_
    refine q_goto (off := 4) (tgt := 157) (by decide) (by decide +kernel) ?_
    exact b_R_count_J2  e k
def f_R_count (x1 : Int32) (h : pH) : Option (Int32 × pH) :=
  if x1 = 0 then
    some ((f_R_all h), h)
  else
    if x1 = 1 then
      some ((hI h 87 1), h)
    else
      if x1 = 2 then
        (f_R_area h).bind fun v_34 =>
        some (v_34.1, v_34.2)
      else
        if x1 = 3 then
          (f_R_cornersOf (f_R_full h) h).bind fun v_32 =>
          some (v_32, h)
        else
          if x1 = 4 then
            (f_R_onLine h).bind fun v_30 =>
            some (v_30, h)
          else
            if x1 = 5 then
              (f_R_deepestPoint (0 : Int32) h).bind fun v_28 =>
              some (v_28, h)
            else
              if x1 = 6 then
                (f_R_deepestPoint (1 : Int32) h).bind fun v_26 =>
                some (v_26, h)
              else
                if x1 = 7 then
                  some ((hI h 79 2), h)
                else
                  if x1 = 8 then
                    some ((hI h 79 24), h)
                  else
                    if x1 = 9 then
                      if (hI h 93 0) = 0 then
                        f_R_count_J1 0 h
                      else
                        f_R_count_J1 1 h
                    else
                      if x1 = 10 then
                        some ((f_R_third h), h)
                      else
                        if x1 = 11 then
                          (f_R_deepestOf h).bind fun v_22 =>
                          if v_22.1 < (f_R_third v_22.2) then
                            some (0, (v_22.2))
                          else
                            some (1, (v_22.2))
                        else
                          if x1 = 12 then
                            (f_R_convexMost h).bind fun v_20 =>
                            some (v_20.1, v_20.2)
                          else
                            if x1 = 13 then
                              (f_R_emptyOnes h).bind fun v_18 =>
                              some (v_18, h)
                            else
                              if x1 = 14 then
                                (f_R_crossingWays h).bind fun v_16 =>
                                some (v_16.1, v_16.2)
                              else
                                some ((-1), h)
set_option maxHeartbeats 4000000 in
theorem b_R_count {E : pE} {r : Option Value} {hr : pH} {x1 : Int32} {h : pH}  {b : (Int32 × pH)} (e : f_R_count x1 h = some b) (k : (fun v : (Int32 × pH) => r = some (.int v.1) ∧ hr = v.2) b) : Go E M_R_count 0 [some (.ref 79), some (.int x1)] [] h r hr := by
  unfold f_R_count at e
  refine sl_ok ok_R_count [.iload_n 1] (pc1 := 1) (ls1 := [some (.ref 79), some (.int x1)]) (st1 := [.int x1]) (h1 := h) (P := True) (by decide +kernel) rfl trivial ?_
  by_cases c_1 : x1 = 0
  · have e := it_t c_1 e
    refine q_tableIn (off := 75) (tgt := 76) (by decide +kernel : decode (mB M_R_count) 1 = .ok (.tableswitch 210 0 14 #[75, 80, 87, 92, 101, 106, 112, 118, 123, 128, 173, 178, 195, 200, 205], 75)) (by rw [c_1]; decide) (by rw [c_1]; decide) (by rw [c_1]; decide) (by decide) ?_
    refine sl_ok ok_R_count [.aload_n 0] (pc1 := 77) (ls1 := [some (.ref 79), some (.int x1)]) (st1 := [.ref 79]) (h1 := h) (P := True) (by decide +kernel) rfl trivial ?_
    refine q_callV ok_R_all (as := []) (st := []) ⟨wd_151, wd_152, wd_153, wd_7, ds_R_all, Nat.le_of_ble_eq_true rfl, Nat.le_of_ble_eq_true rfl⟩ (s_R_all ) rfl ⟨rfl, rfl⟩ (ci := 12) rfl (fun v hv => by cases hv; rfl) (Nat.le_of_ble_eq_true rfl) (by decide +kernel) rfl ?_
    cases e
    exact q_iret rfl k.1 k.2 (by decide +kernel)
  · have e := it_f c_1 e
    by_cases c_2 : x1 = 1
    · have e := it_t c_2 e
      refine q_tableIn (off := 80) (tgt := 81) (by decide +kernel : decode (mB M_R_count) 1 = .ok (.tableswitch 210 0 14 #[75, 80, 87, 92, 101, 106, 112, 118, 123, 128, 173, 178, 195, 200, 205], 75)) (by rw [c_2]; decide) (by rw [c_2]; decide) (by rw [c_2]; decide) (by decide) ?_
      refine sl_ok ok_R_count [.aload_n 0, .getfield 40, .iconst 1, .iaload] (pc1 := 87) (ls1 := [some (.ref 79), some (.int x1)]) (st1 := [.int (hI h 87 1)]) (h1 := h) (P := (ak 79 = 0 ∧ cx 79 = 12) ∧ (ak 87 = 1 ∧ ¬ ((1 : Int32) < 0 ∨ cx 87 ≤ (1 : Int32).toNatClampNeg)) ∧ True) (by decide +kernel) rfl ⟨⟨rfl, rfl⟩, ⟨rfl, (by decide)⟩, trivial⟩ ?_
      cases e
      exact q_iret rfl k.1 k.2 (by decide +kernel)
    · have e := it_f c_2 e
      by_cases c_3 : x1 = 2
      · have e := it_t c_3 e
        refine q_tableIn (off := 87) (tgt := 88) (by decide +kernel : decode (mB M_R_count) 1 = .ok (.tableswitch 210 0 14 #[75, 80, 87, 92, 101, 106, 112, 118, 123, 128, 173, 178, 195, 200, 205], 75)) (by rw [c_3]; decide) (by rw [c_3]; decide) (by rw [c_3]; decide) (by decide) ?_
        refine sl_ok ok_R_count [.aload_n 0] (pc1 := 89) (ls1 := [some (.ref 79), some (.int x1)]) (st1 := [.ref 79]) (h1 := h) (P := True) (by decide +kernel) rfl trivial ?_
        obtain ⟨v_34, e_35, e⟩ := bi_s e
        refine q_callV ok_R_area (as := []) (st := []) ⟨wd_573, wd_574, wd_575, wd_7, ds_R_area, Nat.le_of_ble_eq_true rfl, Nat.le_of_ble_eq_true rfl⟩ (s_R_area  e_35) rfl ⟨rfl, rfl⟩ (ci := 12) rfl (fun v hv => by cases hv; rfl) (Nat.le_of_ble_eq_true rfl) (by decide +kernel) rfl ?_
        cases e
        exact q_iret rfl k.1 k.2 (by decide +kernel)
      · have e := it_f c_3 e
        by_cases c_4 : x1 = 3
        · have e := it_t c_4 e
          refine q_tableIn (off := 92) (tgt := 93) (by decide +kernel : decode (mB M_R_count) 1 = .ok (.tableswitch 210 0 14 #[75, 80, 87, 92, 101, 106, 112, 118, 123, 128, 173, 178, 195, 200, 205], 75)) (by rw [c_4]; decide) (by rw [c_4]; decide) (by rw [c_4]; decide) (by decide) ?_
          refine sl_ok ok_R_count [.aload_n 0, .aload_n 0] (pc1 := 95) (ls1 := [some (.ref 79), some (.int x1)]) (st1 := [.ref 79, .ref 79]) (h1 := h) (P := True) (by decide +kernel) rfl trivial ?_
          refine q_callV ok_R_full (as := []) (st := [.ref 79]) ⟨wd_266, wd_267, wd_268, wd_7, ds_R_full, Nat.le_of_ble_eq_true rfl, Nat.le_of_ble_eq_true rfl⟩ (s_R_full ) rfl ⟨rfl, rfl⟩ (ci := 12) rfl (fun v hv => by cases hv; rfl) (Nat.le_of_ble_eq_true rfl) (by decide +kernel) rfl ?_
          obtain ⟨v_32, e_33, e⟩ := bi_s e
          refine q_callV ok_R_cornersOf (as := [.int (f_R_full h)]) (st := []) ⟨wd_283, wd_284, wd_285, wd_7, ds_R_cornersOf, Nat.le_of_ble_eq_true rfl, Nat.le_of_ble_eq_true rfl⟩ (s_R_cornersOf  e_33) rfl ⟨rfl, rfl⟩ (ci := 12) rfl (fun v hv => by cases hv; rfl) (Nat.le_of_ble_eq_true rfl) (by decide +kernel) rfl ?_
          cases e
          exact q_iret rfl k.1 k.2 (by decide +kernel)
        · have e := it_f c_4 e
          by_cases c_5 : x1 = 4
          · have e := it_t c_5 e
            refine q_tableIn (off := 101) (tgt := 102) (by decide +kernel : decode (mB M_R_count) 1 = .ok (.tableswitch 210 0 14 #[75, 80, 87, 92, 101, 106, 112, 118, 123, 128, 173, 178, 195, 200, 205], 75)) (by rw [c_5]; decide) (by rw [c_5]; decide) (by rw [c_5]; decide) (by decide) ?_
            refine sl_ok ok_R_count [.aload_n 0] (pc1 := 103) (ls1 := [some (.ref 79), some (.int x1)]) (st1 := [.ref 79]) (h1 := h) (P := True) (by decide +kernel) rfl trivial ?_
            obtain ⟨v_30, e_31, e⟩ := bi_s e
            refine q_callV ok_R_onLine (as := []) (st := []) ⟨wd_570, wd_571, wd_572, wd_7, ds_R_onLine, Nat.le_of_ble_eq_true rfl, Nat.le_of_ble_eq_true rfl⟩ (s_R_onLine  e_31) rfl ⟨rfl, rfl⟩ (ci := 12) rfl (fun v hv => by cases hv; rfl) (Nat.le_of_ble_eq_true rfl) (by decide +kernel) rfl ?_
            cases e
            exact q_iret rfl k.1 k.2 (by decide +kernel)
          · have e := it_f c_5 e
            by_cases c_6 : x1 = 5
            · have e := it_t c_6 e
              refine q_tableIn (off := 106) (tgt := 107) (by decide +kernel : decode (mB M_R_count) 1 = .ok (.tableswitch 210 0 14 #[75, 80, 87, 92, 101, 106, 112, 118, 123, 128, 173, 178, 195, 200, 205], 75)) (by rw [c_6]; decide) (by rw [c_6]; decide) (by rw [c_6]; decide) (by decide) ?_
              refine sl_ok ok_R_count [.aload_n 0, .iconst 0] (pc1 := 109) (ls1 := [some (.ref 79), some (.int x1)]) (st1 := [.int 0, .ref 79]) (h1 := h) (P := True) (by decide +kernel) rfl trivial ?_
              obtain ⟨v_28, e_29, e⟩ := bi_s e
              refine q_callV ok_R_deepestPoint (as := [.int 0]) (st := []) ⟨wd_567, wd_568, wd_569, wd_7, ds_R_deepestPoint, Nat.le_of_ble_eq_true rfl, Nat.le_of_ble_eq_true rfl⟩ (s_R_deepestPoint  e_29) rfl ⟨rfl, rfl⟩ (ci := 12) rfl (fun v hv => by cases hv; rfl) (Nat.le_of_ble_eq_true rfl) (by decide +kernel) rfl ?_
              cases e
              exact q_iret rfl k.1 k.2 (by decide +kernel)
            · have e := it_f c_6 e
              by_cases c_7 : x1 = 6
              · have e := it_t c_7 e
                refine q_tableIn (off := 112) (tgt := 113) (by decide +kernel : decode (mB M_R_count) 1 = .ok (.tableswitch 210 0 14 #[75, 80, 87, 92, 101, 106, 112, 118, 123, 128, 173, 178, 195, 200, 205], 75)) (by rw [c_7]; decide) (by rw [c_7]; decide) (by rw [c_7]; decide) (by decide) ?_
                refine sl_ok ok_R_count [.aload_n 0, .iconst 1] (pc1 := 115) (ls1 := [some (.ref 79), some (.int x1)]) (st1 := [.int 1, .ref 79]) (h1 := h) (P := True) (by decide +kernel) rfl trivial ?_
                obtain ⟨v_26, e_27, e⟩ := bi_s e
                refine q_callV ok_R_deepestPoint (as := [.int 1]) (st := []) ⟨wd_567, wd_568, wd_569, wd_7, ds_R_deepestPoint, Nat.le_of_ble_eq_true rfl, Nat.le_of_ble_eq_true rfl⟩ (s_R_deepestPoint  e_27) rfl ⟨rfl, rfl⟩ (ci := 12) rfl (fun v hv => by cases hv; rfl) (Nat.le_of_ble_eq_true rfl) (by decide +kernel) rfl ?_
                cases e
                exact q_iret rfl k.1 k.2 (by decide +kernel)
              · have e := it_f c_7 e
                by_cases c_8 : x1 = 7
                · have e := it_t c_8 e
                  refine q_tableIn (off := 118) (tgt := 119) (by decide +kernel : decode (mB M_R_count) 1 = .ok (.tableswitch 210 0 14 #[75, 80, 87, 92, 101, 106, 112, 118, 123, 128, 173, 178, 195, 200, 205], 75)) (by rw [c_8]; decide) (by rw [c_8]; decide) (by rw [c_8]; decide) (by decide) ?_
                  refine sl_ok ok_R_count [.aload_n 0, .getfield 93] (pc1 := 123) (ls1 := [some (.ref 79), some (.int x1)]) (st1 := [.int (hI h 79 2)]) (h1 := h) (P := (ak 79 = 0 ∧ cx 79 = 12) ∧ True) (by decide +kernel) rfl ⟨⟨rfl, rfl⟩, trivial⟩ ?_
                  cases e
                  exact q_iret rfl k.1 k.2 (by decide +kernel)
                · have e := it_f c_8 e
                  by_cases c_9 : x1 = 8
                  · have e := it_t c_9 e
                    refine q_tableIn (off := 123) (tgt := 124) (by decide +kernel : decode (mB M_R_count) 1 = .ok (.tableswitch 210 0 14 #[75, 80, 87, 92, 101, 106, 112, 118, 123, 128, 173, 178, 195, 200, 205], 75)) (by rw [c_9]; decide) (by rw [c_9]; decide) (by rw [c_9]; decide) (by decide) ?_
                    refine sl_ok ok_R_count [.aload_n 0, .getfield 167] (pc1 := 128) (ls1 := [some (.ref 79), some (.int x1)]) (st1 := [.int (hI h 79 24)]) (h1 := h) (P := (ak 79 = 0 ∧ cx 79 = 12) ∧ True) (by decide +kernel) rfl ⟨⟨rfl, rfl⟩, trivial⟩ ?_
                    cases e
                    exact q_iret rfl k.1 k.2 (by decide +kernel)
                  · have e := it_f c_9 e
                    by_cases c_10 : x1 = 9
                    · have e := it_t c_10 e
                      refine q_tableIn (off := 128) (tgt := 129) (by decide +kernel : decode (mB M_R_count) 1 = .ok (.tableswitch 210 0 14 #[75, 80, 87, 92, 101, 106, 112, 118, 123, 128, 173, 178, 195, 200, 205], 75)) (by rw [c_10]; decide) (by rw [c_10]; decide) (by rw [c_10]; decide) (by decide) ?_
                      refine sl_ok ok_R_count [.aload_n 0, .getfield 59, .iconst 0, .baload] (pc1 := 135) (ls1 := [some (.ref 79), some (.int x1)]) (st1 := [.int (hI h 93 0)]) (h1 := h) (P := (ak 79 = 0 ∧ cx 79 = 12) ∧ ((ak 93 = 2 ∨ ak 93 = 3) ∧ ¬ ((0 : Int32) < 0 ∨ cx 93 ≤ (0 : Int32).toNatClampNeg)) ∧ True) (by decide +kernel) rfl ⟨⟨rfl, rfl⟩, ⟨Or.inr rfl, (by decide)⟩, trivial⟩ ?_
                      refine q_if_eq (off := 7) (tgt := 142) (by decide +kernel) (by decide) (fun c_25 => ?_) (fun c_25 => ?_)
                      · have e := it_t c_25 e
                        refine sl_ok ok_R_count [.iconst 0] (pc1 := 143) (ls1 := [some (.ref 79), some (.int x1)]) (st1 := [.int 0]) (h1 := h) (P := True) (by decide +kernel) rfl trivial ?_
                        refine Go.sb [some (.ref 79), none] (And.intro rfl trivial) ?_
                        exact b_R_count_J1  e k
                      · have e := it_f c_25 e
                        refine sl_ok ok_R_count [.iconst 1] (pc1 := 139) (ls1 := [some (.ref 79), some (.int x1)]) (st1 := [.int 1]) (h1 := h) (P := True) (by decide +kernel) rfl trivial ?_
                        refine q_goto (off := 4) (tgt := 143) (by decide) (by decide +kernel) ?_
                        refine Go.sb [some (.ref 79), none] (And.intro rfl trivial) ?_
                        exact b_R_count_J1  e k
                    · have e := it_f c_10 e
                      by_cases c_11 : x1 = 10
                      · have e := it_t c_11 e
                        refine q_tableIn (off := 173) (tgt := 174) (by decide +kernel : decode (mB M_R_count) 1 = .ok (.tableswitch 210 0 14 #[75, 80, 87, 92, 101, 106, 112, 118, 123, 128, 173, 178, 195, 200, 205], 75)) (by rw [c_11]; decide) (by rw [c_11]; decide) (by rw [c_11]; decide) (by decide) ?_
                        refine sl_ok ok_R_count [.aload_n 0] (pc1 := 175) (ls1 := [some (.ref 79), some (.int x1)]) (st1 := [.ref 79]) (h1 := h) (P := True) (by decide +kernel) rfl trivial ?_
                        refine q_callV ok_R_third (as := []) (st := []) ⟨wd_564, wd_565, wd_566, wd_7, ds_R_third, Nat.le_of_ble_eq_true rfl, Nat.le_of_ble_eq_true rfl⟩ (s_R_third ) rfl ⟨rfl, rfl⟩ (ci := 12) rfl (fun v hv => by cases hv; rfl) (Nat.le_of_ble_eq_true rfl) (by decide +kernel) rfl ?_
                        cases e
                        exact q_iret rfl k.1 k.2 (by decide +kernel)
                      · have e := it_f c_11 e
                        by_cases c_12 : x1 = 11
                        · have e := it_t c_12 e
                          refine q_tableIn (off := 178) (tgt := 179) (by decide +kernel : decode (mB M_R_count) 1 = .ok (.tableswitch 210 0 14 #[75, 80, 87, 92, 101, 106, 112, 118, 123, 128, 173, 178, 195, 200, 205], 75)) (by rw [c_12]; decide) (by rw [c_12]; decide) (by rw [c_12]; decide) (by decide) ?_
                          refine sl_ok ok_R_count [.aload_n 0] (pc1 := 180) (ls1 := [some (.ref 79), some (.int x1)]) (st1 := [.ref 79]) (h1 := h) (P := True) (by decide +kernel) rfl trivial ?_
                          obtain ⟨v_22, e_23, e⟩ := bi_s e
                          refine q_callV ok_R_deepestOf (as := []) (st := []) ⟨wd_391, wd_392, wd_393, wd_7, ds_R_deepestOf, Nat.le_of_ble_eq_true rfl, Nat.le_of_ble_eq_true rfl⟩ (s_R_deepestOf  e_23) rfl ⟨rfl, rfl⟩ (ci := 12) rfl (fun v hv => by cases hv; rfl) (Nat.le_of_ble_eq_true rfl) (by decide +kernel) rfl ?_
                          refine sl_ok ok_R_count [.aload_n 0] (pc1 := 184) (ls1 := [some (.ref 79), some (.int x1)]) (st1 := [.ref 79, .int v_22.1]) (h1 := v_22.2) (P := True) (by decide +kernel) rfl trivial ?_
                          refine q_callV ok_R_third (as := []) (st := [.int v_22.1]) ⟨wd_564, wd_565, wd_566, wd_7, ds_R_third, Nat.le_of_ble_eq_true rfl, Nat.le_of_ble_eq_true rfl⟩ (s_R_third ) rfl ⟨rfl, rfl⟩ (ci := 12) rfl (fun v hv => by cases hv; rfl) (Nat.le_of_ble_eq_true rfl) (by decide +kernel) rfl ?_
                          refine q_icmp_lt (off := 7) (tgt := 194) (by decide +kernel) (by decide) (fun c_24 => ?_) (fun c_24 => ?_)
                          · have e := it_t c_24 e
                            refine sl_ok ok_R_count [.iconst 0] (pc1 := 195) (ls1 := [some (.ref 79), some (.int x1)]) (st1 := [.int 0]) (h1 := (v_22.2)) (P := True) (by decide +kernel) rfl trivial ?_
                            cases e
                            exact q_iret rfl k.1 k.2 (by decide +kernel)
                          · have e := it_f c_24 e
                            refine sl_ok ok_R_count [.iconst 1] (pc1 := 191) (ls1 := [some (.ref 79), some (.int x1)]) (st1 := [.int 1]) (h1 := (v_22.2)) (P := True) (by decide +kernel) rfl trivial ?_
                            refine q_goto (off := 4) (tgt := 195) (by decide) (by decide +kernel) ?_
                            cases e
                            exact q_iret rfl k.1 k.2 (by decide +kernel)
                        · have e := it_f c_12 e
                          by_cases c_13 : x1 = 12
                          · have e := it_t c_13 e
                            refine q_tableIn (off := 195) (tgt := 196) (by decide +kernel : decode (mB M_R_count) 1 = .ok (.tableswitch 210 0 14 #[75, 80, 87, 92, 101, 106, 112, 118, 123, 128, 173, 178, 195, 200, 205], 75)) (by rw [c_13]; decide) (by rw [c_13]; decide) (by rw [c_13]; decide) (by decide) ?_
                            refine sl_ok ok_R_count [.aload_n 0] (pc1 := 197) (ls1 := [some (.ref 79), some (.int x1)]) (st1 := [.ref 79]) (h1 := h) (P := True) (by decide +kernel) rfl trivial ?_
                            obtain ⟨v_20, e_21, e⟩ := bi_s e
                            refine q_callV ok_R_convexMost (as := []) (st := []) ⟨wd_561, wd_562, wd_563, wd_7, ds_R_convexMost, Nat.le_of_ble_eq_true rfl, Nat.le_of_ble_eq_true rfl⟩ (s_R_convexMost  e_21) rfl ⟨rfl, rfl⟩ (ci := 12) rfl (fun v hv => by cases hv; rfl) (Nat.le_of_ble_eq_true rfl) (by decide +kernel) rfl ?_
                            cases e
                            exact q_iret rfl k.1 k.2 (by decide +kernel)
                          · have e := it_f c_13 e
                            by_cases c_14 : x1 = 13
                            · have e := it_t c_14 e
                              refine q_tableIn (off := 200) (tgt := 201) (by decide +kernel : decode (mB M_R_count) 1 = .ok (.tableswitch 210 0 14 #[75, 80, 87, 92, 101, 106, 112, 118, 123, 128, 173, 178, 195, 200, 205], 75)) (by rw [c_14]; decide) (by rw [c_14]; decide) (by rw [c_14]; decide) (by decide) ?_
                              refine sl_ok ok_R_count [.aload_n 0] (pc1 := 202) (ls1 := [some (.ref 79), some (.int x1)]) (st1 := [.ref 79]) (h1 := h) (P := True) (by decide +kernel) rfl trivial ?_
                              obtain ⟨v_18, e_19, e⟩ := bi_s e
                              refine q_callV ok_R_emptyOnes (as := []) (st := []) ⟨wd_558, wd_559, wd_560, wd_7, ds_R_emptyOnes, Nat.le_of_ble_eq_true rfl, Nat.le_of_ble_eq_true rfl⟩ (s_R_emptyOnes  e_19) rfl ⟨rfl, rfl⟩ (ci := 12) rfl (fun v hv => by cases hv; rfl) (Nat.le_of_ble_eq_true rfl) (by decide +kernel) rfl ?_
                              cases e
                              exact q_iret rfl k.1 k.2 (by decide +kernel)
                            · have e := it_f c_14 e
                              by_cases c_15 : x1 = 14
                              · have e := it_t c_15 e
                                refine q_tableIn (off := 205) (tgt := 206) (by decide +kernel : decode (mB M_R_count) 1 = .ok (.tableswitch 210 0 14 #[75, 80, 87, 92, 101, 106, 112, 118, 123, 128, 173, 178, 195, 200, 205], 75)) (by rw [c_15]; decide) (by rw [c_15]; decide) (by rw [c_15]; decide) (by decide) ?_
                                refine sl_ok ok_R_count [.aload_n 0] (pc1 := 207) (ls1 := [some (.ref 79), some (.int x1)]) (st1 := [.ref 79]) (h1 := h) (P := True) (by decide +kernel) rfl trivial ?_
                                obtain ⟨v_16, e_17, e⟩ := bi_s e
                                refine q_callV ok_R_crossingWays (as := []) (st := []) ⟨wd_555, wd_556, wd_557, wd_7, ds_R_crossingWays, Nat.le_of_ble_eq_true rfl, Nat.le_of_ble_eq_true rfl⟩ (s_R_crossingWays  e_17) rfl ⟨rfl, rfl⟩ (ci := 12) rfl (fun v hv => by cases hv; rfl) (Nat.le_of_ble_eq_true rfl) (by decide +kernel) rfl ?_
                                cases e
                                exact q_iret rfl k.1 k.2 (by decide +kernel)
                              · have e := it_f c_15 e
                                refine q_tableOut (tgt := 211) (by decide +kernel : decode (mB M_R_count) 1 = .ok (.tableswitch 210 0 14 #[75, 80, 87, 92, 101, 106, 112, 118, 123, 128, 173, 178, 195, 200, 205], 75)) (sw_out [0, 1, 2, 3, 4, 5, 6, 7, 8, 9, 10, 11, 12, 13, 14] (by decide) ⟨c_1, c_2, c_3, c_4, c_5, c_6, c_7, c_8, c_9, c_10, c_11, c_12, c_13, c_14, c_15, trivial⟩) (by decide) ?_
                                refine sl_ok ok_R_count [.iconst (-1)] (pc1 := 212) (ls1 := [some (.ref 79), some (.int x1)]) (st1 := [.int (-1)]) (h1 := h) (P := True) (by decide +kernel) rfl trivial ?_
                                cases e
                                exact q_iret rfl k.1 k.2 (by decide +kernel)
theorem s_R_count {E : pE} {x1 : Int32} {h : pH}  {v : (Int32 × pH)} (e : f_R_count x1 h = some v) : Ct E M_R_count [.ref 79, .int x1] h (some (.int v.1)) v.2 :=
  Ct_of ok_R_count [some (.ref 79), some (.int x1)] (Nat.le_of_ble_eq_true rfl) rfl (b_R_count  e ⟨rfl, rfl⟩)
