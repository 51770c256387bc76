def f_Shapes_emptyTriangles_L3 (o1 : Nat) (x3 : Int32) (x4 : Int32) (h : pH) (x2 : Int32) (x5 : Int32) : Option ((Int32 × Int32) ⊕ ((Int32 × Int32) ⊕ ((Int32 × Int32) ⊕ Int32))) :=
  if (hI h o1 2) ≤ x5 then
    some (.inr (.inl (x2, (x4 + 1))))
  else
    (f_Cloud_turnOf o1 x3 x4 x5 h).bind fun v_2 =>
    if v_2 = 0 then
      some (.inl (x2, (x5 + 1)))
    else
      (f_Shapes_isEmpty o1 (((jshl 1 x3) ||| (jshl 1 x4)) ||| (jshl 1 x5)) h).bind fun v_5 =>
      if v_5 = 0 then
        some (.inl (x2, (x5 + 1)))
      else
        some (.inl ((x2 + 1), (x5 + 1)))
set_option maxHeartbeats 4000000 in
theorem b_Shapes_emptyTriangles_L3 {E : pE} {r : Option Value} {hr : pH} {o1 : Nat} {x3 : Int32} {x4 : Int32} {h : pH} {x2 : Int32} {x5 : Int32} (ho1 : ak o1 = 0 ∧ cx o1 = 0) {b : ((Int32 × Int32) ⊕ ((Int32 × Int32) ⊕ ((Int32 × Int32) ⊕ Int32)))} (e : f_Shapes_emptyTriangles_L3 o1 x3 x4 h x2 x5 = some b) (k : (Sum.elim (fun s : (Int32 × Int32) => Go E M_Shapes_emptyTriangles 32 [some (.ref 28), some (.ref o1), some (.int s.1), some (.int x3), some (.int x4), some (.int s.2)] [] h r hr) (Sum.elim (fun s : (Int32 × Int32) => Go E M_Shapes_emptyTriangles 17 [some (.ref 28), some (.ref o1), some (.int s.1), some (.int x3), some (.int s.2), none] [] h r hr) (Sum.elim (fun s : (Int32 × Int32) => Go E M_Shapes_emptyTriangles 4 [some (.ref 28), some (.ref o1), some (.int s.1), some (.int s.2), none, none] [] h r hr) (fun v : Int32 => r = some (.int v) ∧ hr = h)))) b) : Go E M_Shapes_emptyTriangles 32 [some (.ref 28), some (.ref o1), some (.int x2), some (.int x3), some (.int x4), some (.int x5)] [] h r hr := by
  unfold f_Shapes_emptyTriangles_L3 at e
  refine sl_ok ok_Shapes_emptyTriangles [.iload 5, .aload_n 1, .getfield 18] (pc1 := 38) (ls1 := [some (.ref 28), some (.ref o1), some (.int x2), some (.int x3), some (.int x4), some (.int x5)]) (st1 := [.int (hI h o1 2), .int x5]) (h1 := h) (P := (ak o1 = 0 ∧ cx o1 = 0) ∧ True) (by decide +kernel) rfl ⟨ho1, trivial⟩ ?_
  refine q_icmp_ge (off := 44) (tgt := 82) (by decide +kernel) (by decide) (fun c_1 => ?_) (fun c_1 => ?_)
  · have e := it_t c_1 e
    refine sl_ok ok_Shapes_emptyTriangles [.iinc 4 1] (pc1 := 85) (ls1 := [some (.ref 28), some (.ref o1), some (.int x2), some (.int x3), some (.int (x4 + 1)), some (.int x5)]) (st1 := []) (h1 := h) (P := True) (by decide +kernel) rfl trivial ?_
    refine q_goto (off := -68) (tgt := 17) (by decide) (by decide +kernel) ?_
    cases e
    refine Go.sb [some (.ref 28), some (.ref o1), some (.int x2), some (.int x3), some (.int (x4 + 1)), none] (And.intro rfl (And.intro rfl (And.intro rfl (And.intro rfl (And.intro rfl trivial))))) ?_
    exact k
  · have e := it_f c_1 e
    refine sl_ok ok_Shapes_emptyTriangles [.aload_n 1, .iload_n 3, .iload 4, .iload 5] (pc1 := 47) (ls1 := [some (.ref 28), some (.ref o1), some (.int x2), some (.int x3), some (.int x4), some (.int x5)]) (st1 := [.int x5, .int x4, .int x3, .ref o1]) (h1 := h) (P := True) (by decide +kernel) rfl trivial ?_
    obtain ⟨v_2, e_3, e⟩ := bi_s e
    refine q_callV ok_Cloud_turnOf (as := [.int x3, .int x4, .int x5]) (st := []) ⟨wd_403, wd_222, wd_223, wd_14, ds_Cloud_turnOf, Nat.le_of_ble_eq_true rfl, Nat.le_of_ble_eq_true rfl⟩ (s_Cloud_turnOf ho1 e_3) rfl ho1 (ci := 0) rfl (fun v hv => by cases hv; rfl) (Nat.le_of_ble_eq_true rfl) (by decide +kernel) rfl ?_
    refine q_if_eq (off := 26) (tgt := 76) (by decide +kernel) (by decide) (fun c_4 => ?_) (fun c_4 => ?_)
    · have e := it_t c_4 e
      refine sl_ok ok_Shapes_emptyTriangles [.iinc 5 1] (pc1 := 79) (ls1 := [some (.ref 28), some (.ref o1), some (.int x2), some (.int x3), some (.int x4), some (.int (x5 + 1))]) (st1 := []) (h1 := h) (P := True) (by decide +kernel) rfl trivial ?_
      refine q_goto (off := -47) (tgt := 32) (by decide) (by decide +kernel) ?_
      cases e
      exact k
    · have e := it_f c_4 e
      refine sl_ok ok_Shapes_emptyTriangles [.aload_n 1, .iconst 1, .iload_n 3, .ishl, .iconst 1, .iload 4, .ishl, .ior, .iconst 1, .iload 5, .ishl, .ior] (pc1 := 67) (ls1 := [some (.ref 28), some (.ref o1), some (.int x2), some (.int x3), some (.int x4), some (.int x5)]) (st1 := [.int (((jshl 1 x3) ||| (jshl 1 x4)) ||| (jshl 1 x5)), .ref o1]) (h1 := h) (P := True) (by decide +kernel) rfl trivial ?_
      obtain ⟨v_5, e_6, e⟩ := bi_s e
      refine q_callS ok_Shapes_isEmpty (as := [.ref o1, .int (((jshl 1 x3) ||| (jshl 1 x4)) ||| (jshl 1 x5))]) (st := []) ⟨wd_521, wd_522, wd_231, ds_Shapes_isEmpty, Nat.le_of_ble_eq_true rfl, Nat.le_of_ble_eq_true rfl⟩ (s_Shapes_isEmpty ho1 e_6) rfl (fun v hv => by cases hv; rfl) (Nat.le_of_ble_eq_true rfl) (by decide +kernel) rfl ?_
      refine q_if_eq (off := 6) (tgt := 76) (by decide +kernel) (by decide) (fun c_7 => ?_) (fun c_7 => ?_)
      · have e := it_t c_7 e
        refine sl_ok ok_Shapes_emptyTriangles [.iinc 5 1] (pc1 := 79) (ls1 := [some (.ref 28), some (.ref o1), some (.int x2), some (.int x3), some (.int x4), some (.int (x5 + 1))]) (st1 := []) (h1 := h) (P := True) (by decide +kernel) rfl trivial ?_
        refine q_goto (off := -47) (tgt := 32) (by decide) (by decide +kernel) ?_
        cases e
        exact k
      · have e := it_f c_7 e
        refine sl_ok ok_Shapes_emptyTriangles [.iinc 2 1, .iinc 5 1] (pc1 := 79) (ls1 := [some (.ref 28), some (.ref o1), some (.int (x2 + 1)), some (.int x3), some (.int x4), some (.int (x5 + 1))]) (st1 := []) (h1 := h) (P := True) (by decide +kernel) rfl trivial ?_
        refine q_goto (off := -47) (tgt := 32) (by decide) (by decide +kernel) ?_
        cases e
        exact k
def f_Shapes_emptyTriangles_L2 (o1 : Nat) (x3 : Int32) (h : pH) (x2 : Int32) (x4 : Int32) : Option ((Int32 × Int32) ⊕ ((Int32 × Int32) ⊕ Int32)) :=
  if (hI h o1 2) ≤ x4 then
    some (.inr (.inl (x2, (x3 + 1))))
  else
    lp (fun s => f_Shapes_emptyTriangles_L3 o1 x3 x4 h s.1 s.2) lpN (x2, (x4 + 1))
set_option maxHeartbeats 4000000 in
theorem b_Shapes_emptyTriangles_L2 {E : pE} {r : Option Value} {hr : pH} {o1 : Nat} {x3 : Int32} {h : pH} {x2 : Int32} {x4 : Int32} (ho1 : ak o1 = 0 ∧ cx o1 = 0) {b : ((Int32 × Int32) ⊕ ((Int32 × Int32) ⊕ Int32))} (e : f_Shapes_emptyTriangles_L2 o1 x3 h x2 x4 = some b) (k : (Sum.elim (fun s : (Int32 × Int32) => Go E M_Shapes_emptyTriangles 17 [some (.ref 28), some (.ref o1), some (.int s.1), some (.int x3), some (.int s.2), none] [] h r hr) (Sum.elim (fun s : (Int32 × Int32) => Go E M_Shapes_emptyTriangles 4 [some (.ref 28), some (.ref o1), some (.int s.1), some (.int s.2), none, none] [] h r hr) (fun v : Int32 => r = some (.int v) ∧ hr = h))) b) : Go E M_Shapes_emptyTriangles 17 [some (.ref 28), some (.ref o1), some (.int x2), some (.int x3), some (.int x4), none] [] h r hr := by
  unfold f_Shapes_emptyTriangles_L2 at e
  refine sl_ok ok_Shapes_emptyTriangles [.iload 4, .aload_n 1, .getfield 18] (pc1 := 23) (ls1 := [some (.ref 28), some (.ref o1), some (.int x2), some (.int x3), some (.int x4), none]) (st1 := [.int (hI h o1 2), .int x4]) (h1 := h) (P := (ak o1 = 0 ∧ cx o1 = 0) ∧ True) (by decide +kernel) rfl ⟨ho1, trivial⟩ ?_
  refine q_icmp_ge (off := 65) (tgt := 88) (by decide +kernel) (by decide) (fun c_1 => ?_) (fun c_1 => ?_)
  · have e := it_t c_1 e
    refine sl_ok ok_Shapes_emptyTriangles [.iinc 3 1] (pc1 := 91) (ls1 := [some (.ref 28), some (.ref o1), some (.int x2), some (.int (x3 + 1)), some (.int x4), none]) (st1 := []) (h1 := h) (P := True) (by decide +kernel) rfl trivial ?_
    refine q_goto (off := -87) (tgt := 4) (by decide) (by decide +kernel) ?_
    cases e
    refine Go.sb [some (.ref 28), some (.ref o1), some (.int x2), some (.int (x3 + 1)), none, none] (And.intro rfl (And.intro rfl (And.intro rfl (And.intro rfl trivial)))) ?_
    exact k
  · have e := it_f c_1 e
    refine sl_ok ok_Shapes_emptyTriangles [.iload 4, .iconst 1, .iadd, .istore 5] (pc1 := 32) (ls1 := [some (.ref 28), some (.ref o1), some (.int x2), some (.int x3), some (.int x4), some (.int (x4 + 1))]) (st1 := []) (h1 := h) (P := True) (by decide +kernel) rfl trivial ?_
    exact lp_in e (fun s => Go E M_Shapes_emptyTriangles 32 [some (.ref 28), some (.ref o1), some (.int s.1), some (.int x3), some (.int x4), some (.int s.2)] [] h r hr) (Sum.elim (fun s : (Int32 × Int32) => Go E M_Shapes_emptyTriangles 17 [some (.ref 28), some (.ref o1), some (.int s.1), some (.int x3), some (.int s.2), none] [] h r hr) (Sum.elim (fun s : (Int32 × Int32) => Go E M_Shapes_emptyTriangles 4 [some (.ref 28), some (.ref o1), some (.int s.1), some (.int s.2), none, none] [] h r hr) (fun v : Int32 => r = some (.int v) ∧ hr = h))) (fun _ _ e k => b_Shapes_emptyTriangles_L3 ho1 e k) k
def f_Shapes_emptyTriangles_L1 (o1 : Nat) (h : pH) (x2 : Int32) (x3 : Int32) : Option ((Int32 × Int32) ⊕ Int32) :=
  if (hI h o1 2) ≤ x3 then
    some (.inr x2)
  else
    lp (fun s => f_Shapes_emptyTriangles_L2 o1 x3 h s.1 s.2) lpN (x2, (x3 + 1))
set_option maxHeartbeats 4000000 in
theorem b_Shapes_emptyTriangles_L1 {E : pE} {r : Option Value} {hr : pH} {o1 : Nat} {h : pH} {x2 : Int32} {x3 : Int32} (ho1 : ak o1 = 0 ∧ cx o1 = 0) {b : ((Int32 × Int32) ⊕ Int32)} (e : f_Shapes_emptyTriangles_L1 o1 h x2 x3 = some b) (k : (Sum.elim (fun s : (Int32 × Int32) => Go E M_Shapes_emptyTriangles 4 [some (.ref 28), some (.ref o1), some (.int s.1), some (.int s.2), none, none] [] h r hr) (fun v : Int32 => r = some (.int v) ∧ hr = h)) b) : Go E M_Shapes_emptyTriangles 4 [some (.ref 28), some (.ref o1), some (.int x2), some (.int x3), none, none] [] h r hr := by
  unfold f_Shapes_emptyTriangles_L1 at e
  refine sl_ok ok_Shapes_emptyTriangles [.iload_n 3, .aload_n 1, .getfield 18] (pc1 := 9) (ls1 := [some (.ref 28), some (.ref o1), some (.int x2), some (.int x3), none, none]) (st1 := [.int (hI h o1 2), .int x3]) (h1 := h) (P := (ak o1 = 0 ∧ cx o1 = 0) ∧ True) (by decide +kernel) rfl ⟨ho1, trivial⟩ ?_
  refine q_icmp_ge (off := 85) (tgt := 94) (by decide +kernel) (by decide) (fun c_1 => ?_) (fun c_1 => ?_)
  · have e := it_t c_1 e
    refine sl_ok ok_Shapes_emptyTriangles [.iload_n 2] (pc1 := 95) (ls1 := [some (.ref 28), some (.ref o1), some (.int x2), some (.int x3), none, none]) (st1 := [.int x2]) (h1 := h) (P := True) (by decide +kernel) rfl trivial ?_
    cases e
    exact q_iret rfl k.1 k.2 (by decide +kernel)
  · have e := it_f c_1 e
    refine sl_ok ok_Shapes_emptyTriangles [.iload_n 3, .iconst 1, .iadd, .istore 4] (pc1 := 17) (ls1 := [some (.ref 28), some (.ref o1), some (.int x2), some (.int x3), some (.int (x3 + 1)), none]) (st1 := []) (h1 := h) (P := True) (by decide +kernel) rfl trivial ?_
    exact lp_in e (fun s => Go E M_Shapes_emptyTriangles 17 [some (.ref 28), some (.ref o1), some (.int s.1), some (.int x3), some (.int s.2), none] [] h r hr) (Sum.elim (fun s : (Int32 × Int32) => Go E M_Shapes_emptyTriangles 4 [some (.ref 28), some (.ref o1), some (.int s.1), some (.int s.2), none, none] [] h r hr) (fun v : Int32 => r = some (.int v) ∧ hr = h)) (fun _ _ e k => b_Shapes_emptyTriangles_L2 ho1 e k) k
def f_Shapes_emptyTriangles (o1 : Nat) (h : pH) : Option Int32 :=
  lp (fun s => f_Shapes_emptyTriangles_L1 o1 h s.1 s.2) lpN (0, 0)
set_option maxHeartbeats 4000000 in
theorem b_Shapes_emptyTriangles {E : pE} {r : Option Value} {hr : pH} {o1 : Nat} {h : pH} (ho1 : ak o1 = 0 ∧ cx o1 = 0) {b : Int32} (e : f_Shapes_emptyTriangles o1 h = some b) (k : (fun v : Int32 => r = some (.int v) ∧ hr = h) b) : Go E M_Shapes_emptyTriangles 0 [some (.ref 28), some (.ref o1), none, none, none, none] [] h r hr := by
  unfold f_Shapes_emptyTriangles at e
  refine sl_ok ok_Shapes_emptyTriangles [.iconst 0, .istore_n 2, .iconst 0, .istore_n 3] (pc1 := 4) (ls1 := [some (.ref 28), some (.ref o1), some (.int 0), some (.int 0), none, none]) (st1 := []) (h1 := h) (P := True) (by decide +kernel) rfl trivial ?_
  exact lp_in e (fun s => Go E M_Shapes_emptyTriangles 4 [some (.ref 28), some (.ref o1), some (.int s.1), some (.int s.2), none, none] [] h r hr) (fun v : Int32 => r = some (.int v) ∧ hr = h) (fun _ _ e k => b_Shapes_emptyTriangles_L1 ho1 e k) k
theorem s_Shapes_emptyTriangles {E : pE} {o1 : Nat} {h : pH} (ho1 : ak o1 = 0 ∧ cx o1 = 0) {v : Int32} (e : f_Shapes_emptyTriangles o1 h = some v) : Ct E M_Shapes_emptyTriangles [.ref 28, .ref o1] h (some (.int v)) h :=
  Ct_of ok_Shapes_emptyTriangles [some (.ref 28), some (.ref o1), none, none, none, none] (Nat.le_of_ble_eq_true rfl) rfl (b_Shapes_emptyTriangles ho1 e ⟨rfl, rfl⟩)
def f_Shapes_meetingBehind_L2 (o0 : Nat) (x1 : Int32) (x2 : Int32) (x4 : Int32) (h : pH) (x3 : Int32) (x5 : Int32) : Option ((Int32 × Int32) ⊕ ((Int32 × Int32) ⊕ Int32)) :=
  if (hI h o0 2) ≤ x5 then
    some (.inr (.inl (x3, (x4 + 1))))
  else
    if x4 = x2 then
      some (.inl (x3, (x5 + 1)))
    else
      if x5 = x2 then
        some (.inl (x3, (x5 + 1)))
      else
        (f_Shapes_meet o0 x1 x2 ((jshl 1 x4) ||| (jshl 1 x5)) h).bind fun v_4 =>
        if v_4 = 0 then
          some (.inl (x3, (x5 + 1)))
        else
          some (.inl ((x3 + 1), (x5 + 1)))
set_option maxHeartbeats 4000000 in
theorem b_Shapes_meetingBehind_L2 {E : pE} {r : Option Value} {hr : pH} {o0 : Nat} {x1 : Int32} {x2 : Int32} {x4 : Int32} {h : pH} {x3 : Int32} {x5 : Int32} (ho0 : ak o0 = 0 ∧ cx o0 = 0) {b : ((Int32 × Int32) ⊕ ((Int32 × Int32) ⊕ Int32))} (e : f_Shapes_meetingBehind_L2 o0 x1 x2 x4 h x3 x5 = some b) (k : (Sum.elim (fun s : (Int32 × Int32) => Go E M_Shapes_meetingBehind 22 [some (.ref o0), some (.int x1), some (.int x2), some (.int s.1), some (.int x4), some (.int s.2)] [] h r hr) (Sum.elim (fun s : (Int32 × Int32) => Go E M_Shapes_meetingBehind 7 [some (.ref o0), some (.int x1), some (.int x2), some (.int s.1), some (.int s.2), none] [] h r hr) (fun v : Int32 => r = some (.int v) ∧ hr = h))) b) : Go E M_Shapes_meetingBehind 22 [some (.ref o0), some (.int x1), some (.int x2), some (.int x3), some (.int x4), some (.int x5)] [] h r hr := by
  unfold f_Shapes_meetingBehind_L2 at e
  refine sl_ok ok_Shapes_meetingBehind [.iload 5, .aload_n 0, .getfield 18] (pc1 := 28) (ls1 := [some (.ref o0), some (.int x1), some (.int x2), some (.int x3), some (.int x4), some (.int x5)]) (st1 := [.int (hI h o0 2), .int x5]) (h1 := h) (P := (ak o0 = 0 ∧ cx o0 = 0) ∧ True) (by decide +kernel) rfl ⟨ho0, trivial⟩ ?_
  refine q_icmp_ge (off := 42) (tgt := 70) (by decide +kernel) (by decide) (fun c_1 => ?_) (fun c_1 => ?_)
  · have e := it_t c_1 e
    refine sl_ok ok_Shapes_meetingBehind [.iinc 4 1] (pc1 := 73) (ls1 := [some (.ref o0), some (.int x1), some (.int x2), some (.int x3), some (.int (x4 + 1)), some (.int x5)]) (st1 := []) (h1 := h) (P := True) (by decide +kernel) rfl trivial ?_
    refine q_goto (off := -66) (tgt := 7) (by decide) (by decide +kernel) ?_
    cases e
    refine Go.sb [some (.ref o0), some (.int x1), some (.int x2), some (.int x3), some (.int (x4 + 1)), none] (And.intro rfl (And.intro rfl (And.intro rfl (And.intro rfl (And.intro rfl trivial))))) ?_
    exact k
  · have e := it_f c_1 e
    refine sl_ok ok_Shapes_meetingBehind [.iload 4, .iload_n 2] (pc1 := 34) (ls1 := [some (.ref o0), some (.int x1), some (.int x2), some (.int x3), some (.int x4), some (.int x5)]) (st1 := [.int x2, .int x4]) (h1 := h) (P := True) (by decide +kernel) rfl trivial ?_
    refine q_icmp_eq (off := 30) (tgt := 64) (by decide +kernel) (by decide) (fun c_2 => ?_) (fun c_2 => ?_)
    · have e := it_t c_2 e
      refine sl_ok ok_Shapes_meetingBehind [.iinc 5 1] (pc1 := 67) (ls1 := [some (.ref o0), some (.int x1), some (.int x2), some (.int x3), some (.int x4), some (.int (x5 + 1))]) (st1 := []) (h1 := h) (P := True) (by decide +kernel) rfl trivial ?_
      refine q_goto (off := -45) (tgt := 22) (by decide) (by decide +kernel) ?_
      cases e
      exact k
    · have e := it_f c_2 e
      refine sl_ok ok_Shapes_meetingBehind [.iload 5, .iload_n 2] (pc1 := 40) (ls1 := [some (.ref o0), some (.int x1), some (.int x2), some (.int x3), some (.int x4), some (.int x5)]) (st1 := [.int x2, .int x5]) (h1 := h) (P := True) (by decide +kernel) rfl trivial ?_
      refine q_icmp_eq (off := 24) (tgt := 64) (by decide +kernel) (by decide) (fun c_3 => ?_) (fun c_3 => ?_)
      · have e := it_t c_3 e
        refine sl_ok ok_Shapes_meetingBehind [.iinc 5 1] (pc1 := 67) (ls1 := [some (.ref o0), some (.int x1), some (.int x2), some (.int x3), some (.int x4), some (.int (x5 + 1))]) (st1 := []) (h1 := h) (P := True) (by decide +kernel) rfl trivial ?_
        refine q_goto (off := -45) (tgt := 22) (by decide) (by decide +kernel) ?_
        cases e
        exact k
      · have e := it_f c_3 e
        refine sl_ok ok_Shapes_meetingBehind [.aload_n 0, .iload_n 1, .iload_n 2, .iconst 1, .iload 4, .ishl, .iconst 1, .iload 5, .ishl, .ior] (pc1 := 55) (ls1 := [some (.ref o0), some (.int x1), some (.int x2), some (.int x3), some (.int x4), some (.int x5)]) (st1 := [.int ((jshl 1 x4) ||| (jshl 1 x5)), .int x2, .int x1, .ref o0]) (h1 := h) (P := True) (by decide +kernel) rfl trivial ?_
        obtain ⟨v_4, e_5, e⟩ := bi_s e
        refine q_callS ok_Shapes_meet (as := [.ref o0, .int x1, .int x2, .int ((jshl 1 x4) ||| (jshl 1 x5))]) (st := []) ⟨wd_490, wd_491, wd_231, ds_Shapes_meet, Nat.le_of_ble_eq_true rfl, Nat.le_of_ble_eq_true rfl⟩ (s_Shapes_meet ho0 e_5) rfl (fun v hv => by cases hv; rfl) (Nat.le_of_ble_eq_true rfl) (by decide +kernel) rfl ?_
        refine q_if_eq (off := 6) (tgt := 64) (by decide +kernel) (by decide) (fun c_6 => ?_) (fun c_6 => ?_)
        · have e := it_t c_6 e
          refine sl_ok ok_Shapes_meetingBehind [.iinc 5 1] (pc1 := 67) (ls1 := [some (.ref o0), some (.int x1), some (.int x2), some (.int x3), some (.int x4), some (.int (x5 + 1))]) (st1 := []) (h1 := h) (P := True) (by decide +kernel) rfl trivial ?_
          refine q_goto (off := -45) (tgt := 22) (by decide) (by decide +kernel) ?_
          cases e
          exact k
        · have e := it_f c_6 e
          refine sl_ok ok_Shapes_meetingBehind [.iinc 3 1, .iinc 5 1] (pc1 := 67) (ls1 := [some (.ref o0), some (.int x1), some (.int x2), some (.int (x3 + 1)), some (.int x4), some (.int (x5 + 1))]) (st1 := []) (h1 := h) (P := True) (by decide +kernel) rfl trivial ?_
          refine q_goto (off := -45) (tgt := 22) (by decide) (by decide +kernel) ?_
          cases e
          exact k
def f_Shapes_meetingBehind_L1 (o0 : Nat) (x1 : Int32) (x2 : Int32) (h : pH) (x3 : Int32) (x4 : Int32) : Option ((Int32 × Int32) ⊕ Int32) :=
  if (hI h o0 2) ≤ x4 then
    some (.inr x3)
  else
    lp (fun s => f_Shapes_meetingBehind_L2 o0 x1 x2 x4 h s.1 s.2) lpN (x3, (x4 + 1))
set_option maxHeartbeats 4000000 in
theorem b_Shapes_meetingBehind_L1 {E : pE} {r : Option Value} {hr : pH} {o0 : Nat} {x1 : Int32} {x2 : Int32} {h : pH} {x3 : Int32} {x4 : Int32} (ho0 : ak o0 = 0 ∧ cx o0 = 0) {b : ((Int32 × Int32) ⊕ Int32)} (e : f_Shapes_meetingBehind_L1 o0 x1 x2 h x3 x4 = some b) (k : (Sum.elim (fun s : (Int32 × Int32) => Go E M_Shapes_meetingBehind 7 [some (.ref o0), some (.int x1), some (.int x2), some (.int s.1), some (.int s.2), none] [] h r hr) (fun v : Int32 => r = some (.int v) ∧ hr = h)) b) : Go E M_Shapes_meetingBehind 7 [some (.ref o0), some (.int x1), some (.int x2), some (.int x3), some (.int x4), none] [] h r hr := by
  unfold f_Shapes_meetingBehind_L1 at e
  refine sl_ok ok_Shapes_meetingBehind [.iload 4, .aload_n 0, .getfield 18] (pc1 := 13) (ls1 := [some (.ref o0), some (.int x1), some (.int x2), some (.int x3), some (.int x4), none]) (st1 := [.int (hI h o0 2), .int x4]) (h1 := h) (P := (ak o0 = 0 ∧ cx o0 = 0) ∧ True) (by decide +kernel) rfl ⟨ho0, trivial⟩ ?_
  refine q_icmp_ge (off := 63) (tgt := 76) (by decide +kernel) (by decide) (fun c_1 => ?_) (fun c_1 => ?_)
  · have e := it_t c_1 e
    refine sl_ok ok_Shapes_meetingBehind [.iload_n 3] (pc1 := 77) (ls1 := [some (.ref o0), some (.int x1), some (.int x2), some (.int x3), some (.int x4), none]) (st1 := [.int x3]) (h1 := h) (P := True) (by decide +kernel) rfl trivial ?_
    cases e
    exact q_iret rfl k.1 k.2 (by decide +kernel)
  · have e := it_f c_1 e
    refine sl_ok ok_Shapes_meetingBehind [.iload 4, .iconst 1, .iadd, .istore 5] (pc1 := 22) (ls1 := [some (.ref o0), some (.int x1), some (.int x2), some (.int x3), some (.int x4), some (.int (x4 + 1))]) (st1 := []) (h1 := h) (P := True) (by decide +kernel) rfl trivial ?_
    exact lp_in e (fun s => Go E M_Shapes_meetingBehind 22 [some (.ref o0), some (.int x1), some (.int x2), some (.int s.1), some (.int x4), some (.int s.2)] [] h r hr) (Sum.elim (fun s : (Int32 × Int32) => Go E M_Shapes_meetingBehind 7 [some (.ref o0), some (.int x1), some (.int x2), some (.int s.1), some (.int s.2), none] [] h r hr) (fun v : Int32 => r = some (.int v) ∧ hr = h)) (fun _ _ e k => b_Shapes_meetingBehind_L2 ho0 e k) k
def f_Shapes_meetingBehind (o0 : Nat) (x1 : Int32) (x2 : Int32) (h : pH) : Option Int32 :=
  lp (fun s => f_Shapes_meetingBehind_L1 o0 x1 x2 h s.1 s.2) lpN (0, (x1 + 1))
set_option maxHeartbeats 4000000 in
theorem b_Shapes_meetingBehind {E : pE} {r : Option Value} {hr : pH} {o0 : Nat} {x1 : Int32} {x2 : Int32} {h : pH} (ho0 : ak o0 = 0 ∧ cx o0 = 0) {b : Int32} (e : f_Shapes_meetingBehind o0 x1 x2 h = some b) (k : (fun v : Int32 => r = some (.int v) ∧ hr = h) b) : Go E M_Shapes_meetingBehind 0 [some (.ref o0), some (.int x1), some (.int x2), none, none, none] [] h r hr := by
  unfold f_Shapes_meetingBehind at e
  refine sl_ok ok_Shapes_meetingBehind [.iconst 0, .istore_n 3, .iload_n 1, .iconst 1, .iadd, .istore 4] (pc1 := 7) (ls1 := [some (.ref o0), some (.int x1), some (.int x2), some (.int 0), some (.int (x1 + 1)), none]) (st1 := []) (h1 := h) (P := True) (by decide +kernel) rfl trivial ?_
  exact lp_in e (fun s => Go E M_Shapes_meetingBehind 7 [some (.ref o0), some (.int x1), some (.int x2), some (.int s.1), some (.int s.2), none] [] h r hr) (fun v : Int32 => r = some (.int v) ∧ hr = h) (fun _ _ e k => b_Shapes_meetingBehind_L1 ho0 e k) k
theorem s_Shapes_meetingBehind {E : pE} {o0 : Nat} {x1 : Int32} {x2 : Int32} {h : pH} (ho0 : ak o0 = 0 ∧ cx o0 = 0) {v : Int32} (e : f_Shapes_meetingBehind o0 x1 x2 h = some v) : Ct E M_Shapes_meetingBehind [.ref o0, .int x1, .int x2] h (some (.int v)) h :=
  Ct_of ok_Shapes_meetingBehind [some (.ref o0), some (.int x1), some (.int x2), none, none, none] (Nat.le_of_ble_eq_true rfl) rfl (b_Shapes_meetingBehind ho0 e ⟨rfl, rfl⟩)
def f_Shapes_meetingPairs_L2 (o1 : Nat) (x3 : Int32) (h : pH) (x2 : Int32) (x4 : Int32) : Option ((Int32 × Int32) ⊕ ((Int32 × Int32) ⊕ Int32)) :=
  if (hI h o1 2) ≤ x4 then
    some (.inr (.inl (x2, (x3 + 1))))
  else
    (f_Shapes_meetingBehind o1 x3 x4 h).bind fun v_2 =>
    some (.inl ((x2 + v_2), (x4 + 1)))
set_option maxHeartbeats 4000000 in
theorem b_Shapes_meetingPairs_L2 {E : pE} {r : Option Value} {hr : pH} {o1 : Nat} {x3 : Int32} {h : pH} {x2 : Int32} {x4 : Int32} (ho1 : ak o1 = 0 ∧ cx o1 = 0) {b : ((Int32 × Int32) ⊕ ((Int32 × Int32) ⊕ Int32))} (e : f_Shapes_meetingPairs_L2 o1 x3 h x2 x4 = some b) (k : (Sum.elim (fun s : (Int32 × Int32) => Go E M_Shapes_meetingPairs 17 [some (.ref 28), some (.ref o1), some (.int s.1), some (.int x3), some (.int s.2)] [] h r hr) (Sum.elim (fun s : (Int32 × Int32) => Go E M_Shapes_meetingPairs 4 [some (.ref 28), some (.ref o1), some (.int s.1), some (.int s.2), none] [] h r hr) (fun v : Int32 => r = some (.int v) ∧ hr = h))) b) : Go E M_Shapes_meetingPairs 17 [some (.ref 28), some (.ref o1), some (.int x2), some (.int x3), some (.int x4)] [] h r hr := by
  unfold f_Shapes_meetingPairs_L2 at e
  refine sl_ok ok_Shapes_meetingPairs [.iload 4, .aload_n 1, .getfield 18] (pc1 := 23) (ls1 := [some (.ref 28), some (.ref o1), some (.int x2), some (.int x3), some (.int x4)]) (st1 := [.int (hI h o1 2), .int x4]) (h1 := h) (P := (ak o1 = 0 ∧ cx o1 = 0) ∧ True) (by decide +kernel) rfl ⟨ho1, trivial⟩ ?_
  refine q_icmp_ge (off := 19) (tgt := 42) (by decide +kernel) (by decide) (fun c_1 => ?_) (fun c_1 => ?_)
  · have e := it_t c_1 e
    refine sl_ok ok_Shapes_meetingPairs [.iinc 3 1] (pc1 := 45) (ls1 := [some (.ref 28), some (.ref o1), some (.int x2), some (.int (x3 + 1)), some (.int x4)]) (st1 := []) (h1 := h) (P := True) (by decide +kernel) rfl trivial ?_
    refine q_goto (off := -41) (tgt := 4) (by decide) (by decide +kernel) ?_
    cases e
    refine Go.sb [some (.ref 28), some (.ref o1), some (.int x2), some (.int (x3 + 1)), none] (And.intro rfl (And.intro rfl (And.intro rfl (And.intro rfl trivial)))) ?_
    exact k
  · have e := it_f c_1 e
    refine sl_ok ok_Shapes_meetingPairs [.iload_n 2, .aload_n 1, .iload_n 3, .iload 4] (pc1 := 31) (ls1 := [some (.ref 28), some (.ref o1), some (.int x2), some (.int x3), some (.int x4)]) (st1 := [.int x4, .int x3, .ref o1, .int x2]) (h1 := h) (P := True) (by decide +kernel) rfl trivial ?_
    obtain ⟨v_2, e_3, e⟩ := bi_s e
    refine q_callS ok_Shapes_meetingBehind (as := [.ref o1, .int x3, .int x4]) (st := [.int x2]) ⟨wd_523, wd_524, wd_231, ds_Shapes_meetingBehind, Nat.le_of_ble_eq_true rfl, Nat.le_of_ble_eq_true rfl⟩ (s_Shapes_meetingBehind ho1 e_3) rfl (fun v hv => by cases hv; rfl) (Nat.le_of_ble_eq_true rfl) (by decide +kernel) rfl ?_
    refine sl_ok ok_Shapes_meetingPairs [.iadd, .istore_n 2, .iinc 4 1] (pc1 := 39) (ls1 := [some (.ref 28), some (.ref o1), some (.int (x2 + v_2)), some (.int x3), some (.int (x4 + 1))]) (st1 := []) (h1 := h) (P := True) (by decide +kernel) rfl trivial ?_
    refine q_goto (off := -22) (tgt := 17) (by decide) (by decide +kernel) ?_
    cases e
    exact k
def f_Shapes_meetingPairs_L1 (o1 : Nat) (h : pH) (x2 : Int32) (x3 : Int32) : Option ((Int32 × Int32) ⊕ Int32) :=
  if (hI h o1 2) ≤ x3 then
    some (.inr x2)
  else
    lp (fun s => f_Shapes_meetingPairs_L2 o1 x3 h s.1 s.2) lpN (x2, (x3 + 1))
set_option maxHeartbeats 4000000 in
theorem b_Shapes_meetingPairs_L1 {E : pE} {r : Option Value} {hr : pH} {o1 : Nat} {h : pH} {x2 : Int32} {x3 : Int32} (ho1 : ak o1 = 0 ∧ cx o1 = 0) {b : ((Int32 × Int32) ⊕ Int32)} (e : f_Shapes_meetingPairs_L1 o1 h x2 x3 = some b) (k : (Sum.elim (fun s : (Int32 × Int32) => Go E M_Shapes_meetingPairs 4 [some (.ref 28), some (.ref o1), some (.int s.1), some (.int s.2), none] [] h r hr) (fun v : Int32 => r = some (.int v) ∧ hr = h)) b) : Go E M_Shapes_meetingPairs 4 [some (.ref 28), some (.ref o1), some (.int x2), some (.int x3), none] [] h r hr := by
  unfold f_Shapes_meetingPairs_L1 at e
  refine sl_ok ok_Shapes_meetingPairs [.iload_n 3, .aload_n 1, .getfield 18] (pc1 := 9) (ls1 := [some (.ref 28), some (.ref o1), some (.int x2), some (.int x3), none]) (st1 := [.int (hI h o1 2), .int x3]) (h1 := h) (P := (ak o1 = 0 ∧ cx o1 = 0) ∧ True) (by decide +kernel) rfl ⟨ho1, trivial⟩ ?_
  refine q_icmp_ge (off := 39) (tgt := 48) (by decide +kernel) (by decide) (fun c_1 => ?_) (fun c_1 => ?_)
  · have e := it_t c_1 e
    refine sl_ok ok_Shapes_meetingPairs [.iload_n 2] (pc1 := 49) (ls1 := [some (.ref 28), some (.ref o1), some (.int x2), some (.int x3), none]) (st1 := [.int x2]) (h1 := h) (P := True) (by decide +kernel) rfl trivial ?_
    cases e
    exact q_iret rfl k.1 k.2 (by decide +kernel)
  · have e := it_f c_1 e
    refine sl_ok ok_Shapes_meetingPairs [.iload_n 3, .iconst 1, .iadd, .istore 4] (pc1 := 17) (ls1 := [some (.ref 28), some (.ref o1), some (.int x2), some (.int x3), some (.int (x3 + 1))]) (st1 := []) (h1 := h) (P := True) (by decide +kernel) rfl trivial ?_
    exact lp_in e (fun s => Go E M_Shapes_meetingPairs 17 [some (.ref 28), some (.ref o1), some (.int s.1), some (.int x3), some (.int s.2)] [] h r hr) (Sum.elim (fun s : (Int32 × Int32) => Go E M_Shapes_meetingPairs 4 [some (.ref 28), some (.ref o1), some (.int s.1), some (.int s.2), none] [] h r hr) (fun v : Int32 => r = some (.int v) ∧ hr = h)) (fun _ _ e k => b_Shapes_meetingPairs_L2 ho1 e k) k
def f_Shapes_meetingPairs (o1 : Nat) (h : pH) : Option Int32 :=
  lp (fun s => f_Shapes_meetingPairs_L1 o1 h s.1 s.2) lpN (0, 0)
set_option maxHeartbeats 4000000 in
theorem b_Shapes_meetingPairs {E : pE} {r : Option Value} {hr : pH} {o1 : Nat} {h : pH} (ho1 : ak o1 = 0 ∧ cx o1 = 0) {b : Int32} (e : f_Shapes_meetingPairs o1 h = some b) (k : (fun v : Int32 => r = some (.int v) ∧ hr = h) b) : Go E M_Shapes_meetingPairs 0 [some (.ref 28), some (.ref o1), none, none, none] [] h r hr := by
  unfold f_Shapes_meetingPairs at e
  refine sl_ok ok_Shapes_meetingPairs [.iconst 0, .istore_n 2, .iconst 0, .istore_n 3] (pc1 := 4) (ls1 := [some (.ref 28), some (.ref o1), some (.int 0), some (.int 0), none]) (st1 := []) (h1 := h) (P := True) (by decide +kernel) rfl trivial ?_
  exact lp_in e (fun s => Go E M_Shapes_meetingPairs 4 [some (.ref 28), some (.ref o1), some (.int s.1), some (.int s.2), none] [] h r hr) (fun v : Int32 => r = some (.int v) ∧ hr = h) (fun _ _ e k => b_Shapes_meetingPairs_L1 ho1 e k) k
theorem s_Shapes_meetingPairs {E : pE} {o1 : Nat} {h : pH} (ho1 : ak o1 = 0 ∧ cx o1 = 0) {v : Int32} (e : f_Shapes_meetingPairs o1 h = some v) : Ct E M_Shapes_meetingPairs [.ref 28, .ref o1] h (some (.int v)) h :=
  Ct_of ok_Shapes_meetingPairs [some (.ref 28), some (.ref o1), none, none, none] (Nat.le_of_ble_eq_true rfl) rfl (b_Shapes_meetingPairs ho1 e ⟨rfl, rfl⟩)
def f_C_count (x1 : Int32) (h : pH) : Option (Int32 × pH) :=
  if x1 = 0 then
    some ((hI h 8 2), h)
  else
    if x1 = 1 then
      some ((hI h 8 3), h)
    else
      if x1 = 2 then
        (f_Hulls_walk 8 h).bind fun v_37 =>
        (f_Hulls_areaTwice 8 v_37).bind fun v_39 =>
        some (v_39, v_37)
      else
        if x1 = 3 then
          (f_Hulls_cornersOf 8 (f_Cloud_everyone 8 h) h).bind fun v_35 =>
          some (v_35, h)
        else
          if x1 = 4 then
            (f_Shapes_triplesOnOneLine 8 h).bind fun v_33 =>
            some (v_33, h)
          else
            if x1 = 5 then
              (f_C_greatestPointDepth h).bind fun v_31 =>
              some (v_31.1, v_31.2)
            else
              if x1 = 6 then
                (f_C_greatestPointDepth h).bind fun v_27 =>
                (f_C_pointsOfDepth v_27.1 v_27.2).bind fun v_29 =>
                some (v_29.1, v_29.2)
              else
                if x1 = 7 then
                  some ((hI h 1 1), h)
                else
                  if x1 = 8 then
                    some ((hI h 0 13), h)
                  else
                    if x1 = 9 then
                      (f_C_slotsInUse h).bind fun v_25 =>
                      some (v_25, h)
                    else
                      if x1 = 10 then
                        some ((f_C_thirdPart h), h)
                      else
                        if x1 = 11 then
                          (f_Depths_survey 8 h).bind fun v_22 =>
                          if (hI v_22 17 4) < (f_C_thirdPart v_22) then
                            some (0, v_22)
                          else
                            some (1, v_22)
                        else
                          if x1 = 12 then
                            (f_Shapes_greatestConvex 8 h).bind fun v_20 =>
                            some (v_20.1, v_20.2)
                          else
                            if x1 = 13 then
                              (f_Shapes_emptyTriangles 8 h).bind fun v_18 =>
                              some (v_18, h)
                            else
                              if x1 = 14 then
                                (f_Shapes_meetingPairs 8 h).bind fun v_16 =>
                                some (v_16, h)
                              else
                                some ((-1), h)
set_option maxHeartbeats 4000000 in
theorem b_C_count {E : pE} {r : Option Value} {hr : pH} {x1 : Int32} {h : pH}  {b : (Int32 × pH)} (e : f_C_count x1 h = some b) (k : (fun v : (Int32 × pH) => r = some (.int v.1) ∧ hr = v.2) b) : Go E M_C_count 0 [some (.ref 0), some (.int x1)] [] h r hr := by
  unfold f_C_count at e
  refine sl_ok ok_C_count [.iload_n 1] (pc1 := 1) (ls1 := [some (.ref 0), some (.int x1)]) (st1 := [.int x1]) (h1 := h) (P := True) (by decide +kernel) rfl trivial ?_
  by_cases c_1 : x1 = 0
  · have e := it_t c_1 e
    refine q_tableIn (off := 75) (tgt := 76) (by decide +kernel : decode (mB M_C_count) 1 = .ok (.tableswitch 245 0 14 #[75, 83, 91, 114, 129, 141, 146, 155, 163, 168, 173, 178, 209, 221, 233], 75)) (by rw [c_1]; decide) (by rw [c_1]; decide) (by rw [c_1]; decide) (by decide) ?_
    refine sl_ok ok_C_count [.aload_n 0, .getfield 28, .getfield 120] (pc1 := 83) (ls1 := [some (.ref 0), some (.int x1)]) (st1 := [.int (hI h 8 2)]) (h1 := h) (P := (ak 0 = 0 ∧ cx 0 = 11) ∧ (ak 8 = 0 ∧ cx 8 = 0) ∧ True) (by decide +kernel) rfl ⟨⟨rfl, rfl⟩, ⟨rfl, rfl⟩, trivial⟩ ?_
    cases e
    exact q_iret rfl k.1 k.2 (by decide +kernel)
  · have e := it_f c_1 e
    by_cases c_2 : x1 = 1
    · have e := it_t c_2 e
      refine q_tableIn (off := 83) (tgt := 84) (by decide +kernel : decode (mB M_C_count) 1 = .ok (.tableswitch 245 0 14 #[75, 83, 91, 114, 129, 141, 146, 155, 163, 168, 173, 178, 209, 221, 233], 75)) (by rw [c_2]; decide) (by rw [c_2]; decide) (by rw [c_2]; decide) (by decide) ?_
      refine sl_ok ok_C_count [.aload_n 0, .getfield 28, .getfield 352] (pc1 := 91) (ls1 := [some (.ref 0), some (.int x1)]) (st1 := [.int (hI h 8 3)]) (h1 := h) (P := (ak 0 = 0 ∧ cx 0 = 11) ∧ (ak 8 = 0 ∧ cx 8 = 0) ∧ True) (by decide +kernel) rfl ⟨⟨rfl, rfl⟩, ⟨rfl, rfl⟩, trivial⟩ ?_
      cases e
      exact q_iret rfl k.1 k.2 (by decide +kernel)
    · have e := it_f c_2 e
      by_cases c_3 : x1 = 2
      · have e := it_t c_3 e
        refine q_tableIn (off := 91) (tgt := 92) (by decide +kernel : decode (mB M_C_count) 1 = .ok (.tableswitch 245 0 14 #[75, 83, 91, 114, 129, 141, 146, 155, 163, 168, 173, 178, 209, 221, 233], 75)) (by rw [c_3]; decide) (by rw [c_3]; decide) (by rw [c_3]; decide) (by decide) ?_
        refine sl_ok ok_C_count [.aload_n 0, .getfield 38, .aload_n 0, .getfield 28] (pc1 := 100) (ls1 := [some (.ref 0), some (.int x1)]) (st1 := [.ref 8, .ref 14]) (h1 := h) (P := (ak 0 = 0 ∧ cx 0 = 11) ∧ (ak 0 = 0 ∧ cx 0 = 11) ∧ True) (by decide +kernel) rfl ⟨⟨rfl, rfl⟩, ⟨rfl, rfl⟩, trivial⟩ ?_
        obtain ⟨v_37, e_38, e⟩ := bi_s e
        refine q_callV ok_Hulls_walk (as := [.ref 8]) (st := []) ⟨wd_312, wd_313, wd_314, wd_207, ds_Hulls_walk, Nat.le_of_ble_eq_true rfl, Nat.le_of_ble_eq_true rfl⟩ (s_Hulls_walk ⟨rfl, rfl⟩ e_38) rfl ⟨rfl, rfl⟩ (ci := 4) rfl (fun v hv => by cases hv) (Nat.le_of_ble_eq_true rfl) (by decide +kernel) rfl ?_
        refine sl_ok ok_C_count [.aload_n 0, .getfield 38, .aload_n 0, .getfield 28] (pc1 := 111) (ls1 := [some (.ref 0), some (.int x1)]) (st1 := [.ref 8, .ref 14]) (h1 := v_37) (P := (ak 0 = 0 ∧ cx 0 = 11) ∧ (ak 0 = 0 ∧ cx 0 = 11) ∧ True) (by decide +kernel) rfl ⟨⟨rfl, rfl⟩, ⟨rfl, rfl⟩, trivial⟩ ?_
        obtain ⟨v_39, e_40, e⟩ := bi_s e
        refine q_callV ok_Hulls_areaTwice (as := [.ref 8]) (st := []) ⟨wd_549, wd_550, wd_551, wd_207, ds_Hulls_areaTwice, Nat.le_of_ble_eq_true rfl, Nat.le_of_ble_eq_true rfl⟩ (s_Hulls_areaTwice ⟨rfl, rfl⟩ e_40) rfl ⟨rfl, rfl⟩ (ci := 4) rfl (fun v hv => by cases hv; rfl) (Nat.le_of_ble_eq_true rfl) (by decide +kernel) rfl ?_
        cases e
        exact q_iret rfl k.1 k.2 (by decide +kernel)
      · have e := it_f c_3 e
        by_cases c_4 : x1 = 3
        · have e := it_t c_4 e
          refine q_tableIn (off := 114) (tgt := 115) (by decide +kernel : decode (mB M_C_count) 1 = .ok (.tableswitch 245 0 14 #[75, 83, 91, 114, 129, 141, 146, 155, 163, 168, 173, 178, 209, 221, 233], 75)) (by rw [c_4]; decide) (by rw [c_4]; decide) (by rw [c_4]; decide) (by decide) ?_
          refine sl_ok ok_C_count [.aload_n 0, .getfield 28, .aload_n 0, .getfield 28] (pc1 := 123) (ls1 := [some (.ref 0), some (.int x1)]) (st1 := [.ref 8, .ref 8]) (h1 := h) (P := (ak 0 = 0 ∧ cx 0 = 11) ∧ (ak 0 = 0 ∧ cx 0 = 11) ∧ True) (by decide +kernel) rfl ⟨⟨rfl, rfl⟩, ⟨rfl, rfl⟩, trivial⟩ ?_
          refine q_callV ok_Cloud_everyone (as := []) (st := [.ref 8]) ⟨wd_323, wd_209, wd_210, wd_14, ds_Cloud_everyone, Nat.le_of_ble_eq_true rfl, Nat.le_of_ble_eq_true rfl⟩ (s_Cloud_everyone ⟨rfl, rfl⟩) rfl ⟨rfl, rfl⟩ (ci := 0) rfl (fun v hv => by cases hv; rfl) (Nat.le_of_ble_eq_true rfl) (by decide +kernel) rfl ?_
          obtain ⟨v_35, e_36, e⟩ := bi_s e
          refine q_callS ok_Hulls_cornersOf (as := [.ref 8, .int (f_Cloud_everyone 8 h)]) (st := []) ⟨wd_246, wd_247, wd_207, ds_Hulls_cornersOf, Nat.le_of_ble_eq_true rfl, Nat.le_of_ble_eq_true rfl⟩ (s_Hulls_cornersOf ⟨rfl, rfl⟩ e_36) rfl (fun v hv => by cases hv; rfl) (Nat.le_of_ble_eq_true rfl) (by decide +kernel) rfl ?_
          cases e
          exact q_iret rfl k.1 k.2 (by decide +kernel)
        · have e := it_f c_4 e
          by_cases c_5 : x1 = 4
          · have e := it_t c_5 e
            refine q_tableIn (off := 129) (tgt := 130) (by decide +kernel : decode (mB M_C_count) 1 = .ok (.tableswitch 245 0 14 #[75, 83, 91, 114, 129, 141, 146, 155, 163, 168, 173, 178, 209, 221, 233], 75)) (by rw [c_5]; decide) (by rw [c_5]; decide) (by rw [c_5]; decide) (by decide) ?_
            refine sl_ok ok_C_count [.aload_n 0, .getfield 73, .aload_n 0, .getfield 28] (pc1 := 138) (ls1 := [some (.ref 0), some (.int x1)]) (st1 := [.ref 8, .ref 28]) (h1 := h) (P := (ak 0 = 0 ∧ cx 0 = 11) ∧ (ak 0 = 0 ∧ cx 0 = 11) ∧ True) (by decide +kernel) rfl ⟨⟨rfl, rfl⟩, ⟨rfl, rfl⟩, trivial⟩ ?_
            obtain ⟨v_33, e_34, e⟩ := bi_s e
            refine q_callV ok_Shapes_triplesOnOneLine (as := [.ref 8]) (st := []) ⟨wd_546, wd_547, wd_548, wd_231, ds_Shapes_triplesOnOneLine, Nat.le_of_ble_eq_true rfl, Nat.le_of_ble_eq_true rfl⟩ (s_Shapes_triplesOnOneLine ⟨rfl, rfl⟩ e_34) rfl ⟨rfl, rfl⟩ (ci := 7) rfl (fun v hv => by cases hv; rfl) (Nat.le_of_ble_eq_true rfl) (by decide +kernel) rfl ?_
            cases e
            exact q_iret rfl k.1 k.2 (by decide +kernel)
          · have e := it_f c_5 e
            by_cases c_6 : x1 = 5
            · have e := it_t c_6 e
              refine q_tableIn (off := 141) (tgt := 142) (by decide +kernel : decode (mB M_C_count) 1 = .ok (.tableswitch 245 0 14 #[75, 83, 91, 114, 129, 141, 146, 155, 163, 168, 173, 178, 209, 221, 233], 75)) (by rw [c_6]; decide) (by rw [c_6]; decide) (by rw [c_6]; decide) (by decide) ?_
              refine sl_ok ok_C_count [.aload_n 0] (pc1 := 143) (ls1 := [some (.ref 0), some (.int x1)]) (st1 := [.ref 0]) (h1 := h) (P := True) (by decide +kernel) rfl trivial ?_
              obtain ⟨v_31, e_32, e⟩ := bi_s e
              refine q_callV ok_C_greatestPointDepth (as := []) (st := []) ⟨wd_540, wd_541, wd_542, wd_48, ds_C_greatestPointDepth, Nat.le_of_ble_eq_true rfl, Nat.le_of_ble_eq_true rfl⟩ (s_C_greatestPointDepth  e_32) rfl ⟨rfl, rfl⟩ (ci := 11) rfl (fun v hv => by cases hv; rfl) (Nat.le_of_ble_eq_true rfl) (by decide +kernel) rfl ?_
              cases e
              exact q_iret rfl k.1 k.2 (by decide +kernel)
            · have e := it_f c_6 e
              by_cases c_7 : x1 = 6
              · have e := it_t c_7 e
                refine q_tableIn (off := 146) (tgt := 147) (by decide +kernel : decode (mB M_C_count) 1 = .ok (.tableswitch 245 0 14 #[75, 83, 91, 114, 129, 141, 146, 155, 163, 168, 173, 178, 209, 221, 233], 75)) (by rw [c_7]; decide) (by rw [c_7]; decide) (by rw [c_7]; decide) (by decide) ?_
                refine sl_ok ok_C_count [.aload_n 0, .aload_n 0] (pc1 := 149) (ls1 := [some (.ref 0), some (.int x1)]) (st1 := [.ref 0, .ref 0]) (h1 := h) (P := True) (by decide +kernel) rfl trivial ?_
                obtain ⟨v_27, e_28, e⟩ := bi_s e
                refine q_callV ok_C_greatestPointDepth (as := []) (st := [.ref 0]) ⟨wd_540, wd_541, wd_542, wd_48, ds_C_greatestPointDepth, Nat.le_of_ble_eq_true rfl, Nat.le_of_ble_eq_true rfl⟩ (s_C_greatestPointDepth  e_28) rfl ⟨rfl, rfl⟩ (ci := 11) rfl (fun v hv => by cases hv; rfl) (Nat.le_of_ble_eq_true rfl) (by decide +kernel) rfl ?_
                obtain ⟨v_29, e_30, e⟩ := bi_s e
                refine q_callV ok_C_pointsOfDepth (as := [.int v_27.1]) (st := []) ⟨wd_543, wd_544, wd_545, wd_48, ds_C_pointsOfDepth, Nat.le_of_ble_eq_true rfl, Nat.le_of_ble_eq_true rfl⟩ (s_C_pointsOfDepth  e_30) rfl ⟨rfl, rfl⟩ (ci := 11) rfl (fun v hv => by cases hv; rfl) (Nat.le_of_ble_eq_true rfl) (by decide +kernel) rfl ?_
                cases e
                exact q_iret rfl k.1 k.2 (by decide +kernel)
              · have e := it_f c_7 e
                by_cases c_8 : x1 = 7
                · have e := it_t c_8 e
                  refine q_tableIn (off := 155) (tgt := 156) (by decide +kernel : decode (mB M_C_count) 1 = .ok (.tableswitch 245 0 14 #[75, 83, 91, 114, 129, 141, 146, 155, 163, 168, 173, 178, 209, 221, 233], 75)) (by rw [c_8]; decide) (by rw [c_8]; decide) (by rw [c_8]; decide) (by decide) ?_
                  refine sl_ok ok_C_count [.aload_n 0, .getfield 10, .getfield 93] (pc1 := 163) (ls1 := [some (.ref 0), some (.int x1)]) (st1 := [.int (hI h 1 1)]) (h1 := h) (P := (ak 0 = 0 ∧ cx 0 = 11) ∧ (ak 1 = 0 ∧ cx 1 = 9) ∧ True) (by decide +kernel) rfl ⟨⟨rfl, rfl⟩, ⟨rfl, rfl⟩, trivial⟩ ?_
                  cases e
                  exact q_iret rfl k.1 k.2 (by decide +kernel)
                · have e := it_f c_8 e
                  by_cases c_9 : x1 = 8
                  · have e := it_t c_9 e
                    refine q_tableIn (off := 163) (tgt := 164) (by decide +kernel : decode (mB M_C_count) 1 = .ok (.tableswitch 245 0 14 #[75, 83, 91, 114, 129, 141, 146, 155, 163, 168, 173, 178, 209, 221, 233], 75)) (by rw [c_9]; decide) (by rw [c_9]; decide) (by rw [c_9]; decide) (by decide) ?_
                    refine sl_ok ok_C_count [.aload_n 0, .getfield 151] (pc1 := 168) (ls1 := [some (.ref 0), some (.int x1)]) (st1 := [.int (hI h 0 13)]) (h1 := h) (P := (ak 0 = 0 ∧ cx 0 = 11) ∧ True) (by decide +kernel) rfl ⟨⟨rfl, rfl⟩, trivial⟩ ?_
                    cases e
                    exact q_iret rfl k.1 k.2 (by decide +kernel)
                  · have e := it_f c_9 e
                    by_cases c_10 : x1 = 9
                    · have e := it_t c_10 e
                      refine q_tableIn (off := 168) (tgt := 169) (by decide +kernel : decode (mB M_C_count) 1 = .ok (.tableswitch 245 0 14 #[75, 83, 91, 114, 129, 141, 146, 155, 163, 168, 173, 178, 209, 221, 233], 75)) (by rw [c_10]; decide) (by rw [c_10]; decide) (by rw [c_10]; decide) (by decide) ?_
                      refine sl_ok ok_C_count [.aload_n 0] (pc1 := 170) (ls1 := [some (.ref 0), some (.int x1)]) (st1 := [.ref 0]) (h1 := h) (P := True) (by decide +kernel) rfl trivial ?_
                      obtain ⟨v_25, e_26, e⟩ := bi_s e
                      refine q_callV ok_C_slotsInUse (as := []) (st := []) ⟨wd_537, wd_538, wd_539, wd_48, ds_C_slotsInUse, Nat.le_of_ble_eq_true rfl, Nat.le_of_ble_eq_true rfl⟩ (s_C_slotsInUse  e_26) rfl ⟨rfl, rfl⟩ (ci := 11) rfl (fun v hv => by cases hv; rfl) (Nat.le_of_ble_eq_true rfl) (by decide +kernel) rfl ?_
                      cases e
                      exact q_iret rfl k.1 k.2 (by decide +kernel)
                    · have e := it_f c_10 e
                      by_cases c_11 : x1 = 10
                      · have e := it_t c_11 e
                        refine q_tableIn (off := 173) (tgt := 174) (by decide +kernel : decode (mB M_C_count) 1 = .ok (.tableswitch 245 0 14 #[75, 83, 91, 114, 129, 141, 146, 155, 163, 168, 173, 178, 209, 221, 233], 75)) (by rw [c_11]; decide) (by rw [c_11]; decide) (by rw [c_11]; decide) (by decide) ?_
                        refine sl_ok ok_C_count [.aload_n 0] (pc1 := 175) (ls1 := [some (.ref 0), some (.int x1)]) (st1 := [.ref 0]) (h1 := h) (P := True) (by decide +kernel) rfl trivial ?_
                        refine q_callV ok_C_thirdPart (as := []) (st := []) ⟨wd_534, wd_535, wd_536, wd_48, ds_C_thirdPart, Nat.le_of_ble_eq_true rfl, Nat.le_of_ble_eq_true rfl⟩ (s_C_thirdPart ) rfl ⟨rfl, rfl⟩ (ci := 11) rfl (fun v hv => by cases hv; rfl) (Nat.le_of_ble_eq_true rfl) (by decide +kernel) rfl ?_
                        cases e
                        exact q_iret rfl k.1 k.2 (by decide +kernel)
                      · have e := it_f c_11 e
                        by_cases c_12 : x1 = 11
                        · have e := it_t c_12 e
                          refine q_tableIn (off := 178) (tgt := 179) (by decide +kernel : decode (mB M_C_count) 1 = .ok (.tableswitch 245 0 14 #[75, 83, 91, 114, 129, 141, 146, 155, 163, 168, 173, 178, 209, 221, 233], 75)) (by rw [c_12]; decide) (by rw [c_12]; decide) (by rw [c_12]; decide) (by decide) ?_
                          refine sl_ok ok_C_count [.aload_n 0, .getfield 45, .aload_n 0, .getfield 28] (pc1 := 187) (ls1 := [some (.ref 0), some (.int x1)]) (st1 := [.ref 8, .ref 17]) (h1 := h) (P := (ak 0 = 0 ∧ cx 0 = 11) ∧ (ak 0 = 0 ∧ cx 0 = 11) ∧ True) (by decide +kernel) rfl ⟨⟨rfl, rfl⟩, ⟨rfl, rfl⟩, trivial⟩ ?_
                          obtain ⟨v_22, e_23, e⟩ := bi_s e
                          refine q_callV ok_Depths_survey (as := [.ref 8]) (st := []) ⟨wd_388, wd_389, wd_390, wd_217, ds_Depths_survey, Nat.le_of_ble_eq_true rfl, Nat.le_of_ble_eq_true rfl⟩ (s_Depths_survey ⟨rfl, rfl⟩ e_23) rfl ⟨rfl, rfl⟩ (ci := 2) rfl (fun v hv => by cases hv) (Nat.le_of_ble_eq_true rfl) (by decide +kernel) rfl ?_
                          refine sl_ok ok_C_count [.aload_n 0, .getfield 45, .getfield 264, .aload_n 0] (pc1 := 198) (ls1 := [some (.ref 0), some (.int x1)]) (st1 := [.ref 0, .int (hI v_22 17 4)]) (h1 := v_22) (P := (ak 0 = 0 ∧ cx 0 = 11) ∧ (ak 17 = 0 ∧ cx 17 = 2) ∧ True) (by decide +kernel) rfl ⟨⟨rfl, rfl⟩, ⟨rfl, rfl⟩, trivial⟩ ?_
                          refine q_callV ok_C_thirdPart (as := []) (st := [.int (hI v_22 17 4)]) ⟨wd_534, wd_535, wd_536, wd_48, ds_C_thirdPart, Nat.le_of_ble_eq_true rfl, Nat.le_of_ble_eq_true rfl⟩ (s_C_thirdPart ) rfl ⟨rfl, rfl⟩ (ci := 11) rfl (fun v hv => by cases hv; rfl) (Nat.le_of_ble_eq_true rfl) (by decide +kernel) rfl ?_
                          refine q_icmp_lt (off := 7) (tgt := 208) (by decide +kernel) (by decide) (fun c_24 => ?_) (fun c_24 => ?_)
                          · have e := it_t c_24 e
                            refine sl_ok ok_C_count [.iconst 0] (pc1 := 209) (ls1 := [some (.ref 0), some (.int x1)]) (st1 := [.int 0]) (h1 := v_22) (P := True) (by decide +kernel) rfl trivial ?_
                            cases e
                            exact q_iret rfl k.1 k.2 (by decide +kernel)
                          · have e := it_f c_24 e
                            refine sl_ok ok_C_count [.iconst 1] (pc1 := 205) (ls1 := [some (.ref 0), some (.int x1)]) (st1 := [.int 1]) (h1 := v_22) (P := True) (by decide +kernel) rfl trivial ?_
                            refine q_goto (off := 4) (tgt := 209) (by decide) (by decide +kernel) ?_
                            cases e
                            exact q_iret rfl k.1 k.2 (by decide +kernel)
                        · have e := it_f c_12 e
                          by_cases c_13 : x1 = 12
                          · have e := it_t c_13 e
                            refine q_tableIn (off := 209) (tgt := 210) (by decide +kernel : decode (mB M_C_count) 1 = .ok (.tableswitch 245 0 14 #[75, 83, 91, 114, 129, 141, 146, 155, 163, 168, 173, 178, 209, 221, 233], 75)) (by rw [c_13]; decide) (by rw [c_13]; decide) (by rw [c_13]; decide) (by decide) ?_
                            refine sl_ok ok_C_count [.aload_n 0, .getfield 73, .aload_n 0, .getfield 28] (pc1 := 218) (ls1 := [some (.ref 0), some (.int x1)]) (st1 := [.ref 8, .ref 28]) (h1 := h) (P := (ak 0 = 0 ∧ cx 0 = 11) ∧ (ak 0 = 0 ∧ cx 0 = 11) ∧ True) (by decide +kernel) rfl ⟨⟨rfl, rfl⟩, ⟨rfl, rfl⟩, trivial⟩ ?_
                            obtain ⟨v_20, e_21, e⟩ := bi_s e
                            refine q_callV ok_Shapes_greatestConvex (as := [.ref 8]) (st := []) ⟨wd_531, wd_532, wd_533, wd_231, ds_Shapes_greatestConvex, Nat.le_of_ble_eq_true rfl, Nat.le_of_ble_eq_true rfl⟩ (s_Shapes_greatestConvex ⟨rfl, rfl⟩ e_21) rfl ⟨rfl, rfl⟩ (ci := 7) rfl (fun v hv => by cases hv; rfl) (Nat.le_of_ble_eq_true rfl) (by decide +kernel) rfl ?_
                            cases e
                            exact q_iret rfl k.1 k.2 (by decide +kernel)
                          · have e := it_f c_13 e
                            by_cases c_14 : x1 = 13
                            · have e := it_t c_14 e
                              refine q_tableIn (off := 221) (tgt := 222) (by decide +kernel : decode (mB M_C_count) 1 = .ok (.tableswitch 245 0 14 #[75, 83, 91, 114, 129, 141, 146, 155, 163, 168, 173, 178, 209, 221, 233], 75)) (by rw [c_14]; decide) (by rw [c_14]; decide) (by rw [c_14]; decide) (by decide) ?_
                              refine sl_ok ok_C_count [.aload_n 0, .getfield 73, .aload_n 0, .getfield 28] (pc1 := 230) (ls1 := [some (.ref 0), some (.int x1)]) (st1 := [.ref 8, .ref 28]) (h1 := h) (P := (ak 0 = 0 ∧ cx 0 = 11) ∧ (ak 0 = 0 ∧ cx 0 = 11) ∧ True) (by decide +kernel) rfl ⟨⟨rfl, rfl⟩, ⟨rfl, rfl⟩, trivial⟩ ?_
                              obtain ⟨v_18, e_19, e⟩ := bi_s e
                              refine q_callV ok_Shapes_emptyTriangles (as := [.ref 8]) (st := []) ⟨wd_528, wd_529, wd_530, wd_231, ds_Shapes_emptyTriangles, Nat.le_of_ble_eq_true rfl, Nat.le_of_ble_eq_true rfl⟩ (s_Shapes_emptyTriangles ⟨rfl, rfl⟩ e_19) rfl ⟨rfl, rfl⟩ (ci := 7) rfl (fun v hv => by cases hv; rfl) (Nat.le_of_ble_eq_true rfl) (by decide +kernel) rfl ?_
                              cases e
                              exact q_iret rfl k.1 k.2 (by decide +kernel)
                            · have e := it_f c_14 e
                              by_cases c_15 : x1 = 14
                              · have e := it_t c_15 e
                                refine q_tableIn (off := 233) (tgt := 234) (by decide +kernel : decode (mB M_C_count) 1 = .ok (.tableswitch 245 0 14 #[75, 83, 91, 114, 129, 141, 146, 155, 163, 168, 173, 178, 209, 221, 233], 75)) (by rw [c_15]; decide) (by rw [c_15]; decide) (by rw [c_15]; decide) (by decide) ?_
                                refine sl_ok ok_C_count [.aload_n 0, .getfield 73, .aload_n 0, .getfield 28] (pc1 := 242) (ls1 := [some (.ref 0), some (.int x1)]) (st1 := [.ref 8, .ref 28]) (h1 := h) (P := (ak 0 = 0 ∧ cx 0 = 11) ∧ (ak 0 = 0 ∧ cx 0 = 11) ∧ True) (by decide +kernel) rfl ⟨⟨rfl, rfl⟩, ⟨rfl, rfl⟩, trivial⟩ ?_
                                obtain ⟨v_16, e_17, e⟩ := bi_s e
                                refine q_callV ok_Shapes_meetingPairs (as := [.ref 8]) (st := []) ⟨wd_525, wd_526, wd_527, wd_231, ds_Shapes_meetingPairs, Nat.le_of_ble_eq_true rfl, Nat.le_of_ble_eq_true rfl⟩ (s_Shapes_meetingPairs ⟨rfl, rfl⟩ e_17) rfl ⟨rfl, rfl⟩ (ci := 7) rfl (fun v hv => by cases hv; rfl) (Nat.le_of_ble_eq_true rfl) (by decide +kernel) rfl ?_
                                cases e
                                exact q_iret rfl k.1 k.2 (by decide +kernel)
                              · have e := it_f c_15 e
                                refine q_tableOut (tgt := 246) (by decide +kernel : decode (mB M_C_count) 1 = .ok (.tableswitch 245 0 14 #[75, 83, 91, 114, 129, 141, 146, 155, 163, 168, 173, 178, 209, 221, 233], 75)) (sw_out [0, 1, 2, 3, 4, 5, 6, 7, 8, 9, 10, 11, 12, 13, 14] (by decide) ⟨c_1, c_2, c_3, c_4, c_5, c_6, c_7, c_8, c_9, c_10, c_11, c_12, c_13, c_14, c_15, trivial⟩) (by decide) ?_
                                refine sl_ok ok_C_count [.iconst (-1)] (pc1 := 247) (ls1 := [some (.ref 0), some (.int x1)]) (st1 := [.int (-1)]) (h1 := h) (P := True) (by decide +kernel) rfl trivial ?_
                                cases e
                                exact q_iret rfl k.1 k.2 (by decide +kernel)
theorem s_C_count {E : pE} {x1 : Int32} {h : pH}  {v : (Int32 × pH)} (e : f_C_count x1 h = some v) : Ct E M_C_count [.ref 0, .int x1] h (some (.int v.1)) v.2 :=
  Ct_of ok_C_count [some (.ref 0), some (.int x1)] (Nat.le_of_ble_eq_true rfl) rfl (b_C_count  e ⟨rfl, rfl⟩)
def f_R_area_L1 (x1 : Int32) (h : pH) (x2 : Int32) (x3 : Int32) : Option ((Int32 × Int32) ⊕ (Int32 × pH)) :=
  if x1 ≤ x3 then
    some (.inr (x2, h))
  else
    if x3 < 0 ∨ 13 ≤ x3.toNatClampNeg then none else
    if x1 = 0 then none else
    if (jrem (x3 + 1) x1) < 0 ∨ 13 ≤ (jrem (x3 + 1) x1).toNatClampNeg then none else
    (f_R_x (hI h 95 x3.toNatClampNeg) h).bind fun v_5 =>
    (f_R_y (hI h 95 (jrem (x3 + 1) x1).toNatClampNeg) h).bind fun v_7 =>
    (f_R_y (hI h 95 x3.toNatClampNeg) h).bind fun v_9 =>
    (f_R_x (hI h 95 (jrem (x3 + 1) x1).toNatClampNeg) h).bind fun v_11 =>
    some (.inl ((x2 + ((v_5 * v_7) - (v_9 * v_11))), (x3 + 1)))
set_option maxHeartbeats 4000000 in
theorem b_R_area_L1 {E : pE} {r : Option Value} {hr : pH} {x1 : Int32} {h : pH} {x2 : Int32} {x3 : Int32}  {b : ((Int32 × Int32) ⊕ (Int32 × pH))} (e : f_R_area_L1 x1 h x2 x3 = some b) (k : (Sum.elim (fun s : (Int32 × Int32) => Go E M_R_area 9 [some (.ref 79), some (.int x1), some (.int s.1), some (.int s.2), none, none] [] h r hr) (fun v : (Int32 × pH) => r = some (.int v.1) ∧ hr = v.2)) b) : Go E M_R_area 9 [some (.ref 79), some (.int x1), some (.int x2), some (.int x3), none, none] [] h r hr := by
  unfold f_R_area_L1 at e
  refine sl_ok ok_R_area [.iload_n 3, .iload_n 1] (pc1 := 11) (ls1 := [some (.ref 79), some (.int x1), some (.int x2), some (.int x3), none, none]) (st1 := [.int x1, .int x3]) (h1 := h) (P := True) (by decide +kernel) rfl trivial ?_
  refine q_icmp_ge (off := 59) (tgt := 70) (by decide +kernel) (by decide) (fun c_1 => ?_) (fun c_1 => ?_)
  · have e := it_t c_1 e
    refine sl_ok ok_R_area [.iload_n 2] (pc1 := 71) (ls1 := [some (.ref 79), some (.int x1), some (.int x2), some (.int x3), none, none]) (st1 := [.int x2]) (h1 := h) (P := True) (by decide +kernel) rfl trivial ?_
    cases e
    exact q_iret rfl k.1 k.2 (by decide +kernel)
  · have e := it_f c_1 e
    obtain ⟨g_2, e⟩ := it_g e
    obtain ⟨g_3, e⟩ := it_g e
    obtain ⟨g_4, e⟩ := it_g e
    refine sl_ok ok_R_area [.aload_n 0, .getfield 65, .iload_n 3, .iaload, .istore 4, .aload_n 0, .getfield 65, .iload_n 3, .iconst 1, .iadd, .iload_n 1, .irem, .iaload, .istore 5, .iload_n 2, .aload_n 0, .iload 4] (pc1 := 38) (ls1 := [some (.ref 79), some (.int x1), some (.int x2), some (.int x3), some (.int (hI h 95 x3.toNatClampNeg)), some (.int (hI h 95 (jrem (x3 + 1) x1).toNatClampNeg))]) (st1 := [.int (hI h 95 x3.toNatClampNeg), .ref 79, .int x2]) (h1 := h) (P := (ak 79 = 0 ∧ cx 79 = 12) ∧ (ak 95 = 1 ∧ ¬ (x3 < 0 ∨ cx 95 ≤ x3.toNatClampNeg)) ∧ (ak 79 = 0 ∧ cx 79 = 12) ∧ (¬ x1 = 0) ∧ (ak 95 = 1 ∧ ¬ ((jrem (x3 + 1) x1) < 0 ∨ cx 95 ≤ (jrem (x3 + 1) x1).toNatClampNeg)) ∧ True) (by decide +kernel) rfl ⟨⟨rfl, rfl⟩, ⟨rfl, g_2⟩, ⟨rfl, rfl⟩, g_3, ⟨rfl, g_4⟩, trivial⟩ ?_
    obtain ⟨v_5, e_6, e⟩ := bi_s e
    refine q_callV ok_R_x (as := [.int (hI h 95 x3.toNatClampNeg)]) (st := [.int x2]) ⟨wd_154, wd_155, wd_156, wd_7, ds_R_x, Nat.le_of_ble_eq_true rfl, Nat.le_of_ble_eq_true rfl⟩ (s_R_x  e_6) rfl ⟨rfl, rfl⟩ (ci := 12) rfl (fun v hv => by cases hv; rfl) (Nat.le_of_ble_eq_true rfl) (by decide +kernel) rfl ?_
    refine sl_ok ok_R_area [.aload_n 0, .iload 5] (pc1 := 44) (ls1 := [some (.ref 79), some (.int x1), some (.int x2), some (.int x3), some (.int (hI h 95 x3.toNatClampNeg)), some (.int (hI h 95 (jrem (x3 + 1) x1).toNatClampNeg))]) (st1 := [.int (hI h 95 (jrem (x3 + 1) x1).toNatClampNeg), .ref 79, .int v_5, .int x2]) (h1 := h) (P := True) (by decide +kernel) rfl trivial ?_
    obtain ⟨v_7, e_8, e⟩ := bi_s e
    refine q_callV ok_R_y (as := [.int (hI h 95 (jrem (x3 + 1) x1).toNatClampNeg)]) (st := [.int v_5, .int x2]) ⟨wd_157, wd_158, wd_159, wd_7, ds_R_y, Nat.le_of_ble_eq_true rfl, Nat.le_of_ble_eq_true rfl⟩ (s_R_y  e_8) rfl ⟨rfl, rfl⟩ (ci := 12) rfl (fun v hv => by cases hv; rfl) (Nat.le_of_ble_eq_true rfl) (by decide +kernel) rfl ?_
    refine sl_ok ok_R_area [.imul, .aload_n 0, .iload 4] (pc1 := 51) (ls1 := [some (.ref 79), some (.int x1), some (.int x2), some (.int x3), some (.int (hI h 95 x3.toNatClampNeg)), some (.int (hI h 95 (jrem (x3 + 1) x1).toNatClampNeg))]) (st1 := [.int (hI h 95 x3.toNatClampNeg), .ref 79, .int (v_5 * v_7), .int x2]) (h1 := h) (P := True) (by decide +kernel) rfl trivial ?_
    obtain ⟨v_9, e_10, e⟩ := bi_s e
    refine q_callV ok_R_y (as := [.int (hI h 95 x3.toNatClampNeg)]) (st := [.int (v_5 * v_7), .int x2]) ⟨wd_157, wd_158, wd_159, wd_7, ds_R_y, Nat.le_of_ble_eq_true rfl, Nat.le_of_ble_eq_true rfl⟩ (s_R_y  e_10) rfl ⟨rfl, rfl⟩ (ci := 12) rfl (fun v hv => by cases hv; rfl) (Nat.le_of_ble_eq_true rfl) (by decide +kernel) rfl ?_
    refine sl_ok ok_R_area [.aload_n 0, .iload 5] (pc1 := 57) (ls1 := [some (.ref 79), some (.int x1), some (.int x2), some (.int x3), some (.int (hI h 95 x3.toNatClampNeg)), some (.int (hI h 95 (jrem (x3 + 1) x1).toNatClampNeg))]) (st1 := [.int (hI h 95 (jrem (x3 + 1) x1).toNatClampNeg), .ref 79, .int v_9, .int (v_5 * v_7), .int x2]) (h1 := h) (P := True) (by decide +kernel) rfl trivial ?_
    obtain ⟨v_11, e_12, e⟩ := bi_s e
    refine q_callV ok_R_x (as := [.int (hI h 95 (jrem (x3 + 1) x1).toNatClampNeg)]) (st := [.int v_9, .int (v_5 * v_7), .int x2]) ⟨wd_154, wd_155, wd_156, wd_7, ds_R_x, Nat.le_of_ble_eq_true rfl, Nat.le_of_ble_eq_true rfl⟩ (s_R_x  e_12) rfl ⟨rfl, rfl⟩ (ci := 12) rfl (fun v hv => by cases hv; rfl) (Nat.le_of_ble_eq_true rfl) (by decide +kernel) rfl ?_
    refine sl_ok ok_R_area [.imul, .isub, .iadd, .istore_n 2, .iinc 3 1] (pc1 := 67) (ls1 := [some (.ref 79), some (.int x1), some (.int (x2 + ((v_5 * v_7) - (v_9 * v_11)))), some (.int (x3 + 1)), some (.int (hI h 95 x3.toNatClampNeg)), some (.int (hI h 95 (jrem (x3 + 1) x1).toNatClampNeg))]) (st1 := []) (h1 := h) (P := True) (by decide +kernel) rfl trivial ?_
    refine q_goto (off := -58) (tgt := 9) (by decide) (by decide +kernel) ?_
    cases e
    refine Go.sb [some (.ref 79), some (.int x1), some (.int (x2 + ((v_5 * v_7) - (v_9 * v_11)))), some (.int (x3 + 1)), none, none] (And.intro rfl (And.intro rfl (And.intro rfl (And.intro rfl trivial)))) ?_
    exact k
def f_R_area (h : pH) : Option (Int32 × pH) :=
  (f_R_laysCorners h).bind fun v_1 =>
  lp (fun s => f_R_area_L1 v_1.1 v_1.2 s.1 s.2) lpN (0, 0)
set_option maxHeartbeats 4000000 in
theorem b_R_area {E : pE} {r : Option Value} {hr : pH} {h : pH}  {b : (Int32 × pH)} (e : f_R_area h = some b) (k : (fun v : (Int32 × pH) => r = some (.int v.1) ∧ hr = v.2) b) : Go E M_R_area 0 [some (.ref 79), none, none, none, none, none] [] h r hr := by
  unfold f_R_area at e
  refine sl_ok ok_R_area [.aload_n 0] (pc1 := 1) (ls1 := [some (.ref 79), none, none, none, none, none]) (st1 := [.ref 79]) (h1 := h) (P := True) (by decide +kernel) rfl trivial ?_
  obtain ⟨v_1, e_2, e⟩ := bi_s e
  refine q_callV ok_R_laysCorners (as := []) (st := []) ⟨wd_318, wd_319, wd_320, wd_7, ds_R_laysCorners, Nat.le_of_ble_eq_true rfl, Nat.le_of_ble_eq_true rfl⟩ (s_R_laysCorners  e_2) rfl ⟨rfl, rfl⟩ (ci := 12) rfl (fun v hv => by cases hv; rfl) (Nat.le_of_ble_eq_true rfl) (by decide +kernel) rfl ?_
  refine sl_ok ok_R_area [.istore_n 1, .iconst 0, .istore_n 2, .iconst 0, .istore_n 3] (pc1 := 9) (ls1 := [some (.ref 79), some (.int v_1.1), some (.int 0), some (.int 0), none, none]) (st1 := []) (h1 := v_1.2) (P := True) (by decide +kernel) rfl trivial ?_
  exact lp_in e (fun s => Go E M_R_area 9 [some (.ref 79), some (.int v_1.1), some (.int s.1), some (.int s.2), none, none] [] v_1.2 r hr) (fun v : (Int32 × pH) => r = some (.int v.1) ∧ hr = v.2) (fun _ _ e k => b_R_area_L1  e k) k
theorem s_R_area {E : pE} {h : pH}  {v : (Int32 × pH)} (e : f_R_area h = some v) : Ct E M_R_area [.ref 79] h (some (.int v.1)) v.2 :=
  Ct_of ok_R_area [some (.ref 79), none, none, none, none, none] (Nat.le_of_ble_eq_true rfl) rfl (b_R_area  e ⟨rfl, rfl⟩)
def f_R_onLine_L3 (x2 : Int32) (x3 : Int32) (h : pH) (x1 : Int32) (x4 : Int32) : Option ((Int32 × Int32) ⊕ ((Int32 × Int32) ⊕ ((Int32 × Int32) ⊕ Int32))) :=
  if x3 ≤ x4 then
    some (.inr (.inl (x1, (x3 + 1))))
  else
    (f_R_sideOf x2 x3 x4 h).bind fun v_2 =>
    if v_2 = 0 then
      some (.inl ((x1 + 1), (x4 + 1)))
    else
      some (.inl (x1, (x4 + 1)))
set_option maxHeartbeats 4000000 in
theorem b_R_onLine_L3 {E : pE} {r : Option Value} {hr : pH} {x2 : Int32} {x3 : Int32} {h : pH} {x1 : Int32} {x4 : Int32}  {b : ((Int32 × Int32) ⊕ ((Int32 × Int32) ⊕ ((Int32 × Int32) ⊕ Int32)))} (e : f_R_onLine_L3 x2 x3 h x1 x4 = some b) (k : (Sum.elim (fun s : (Int32 × Int32) => Go E M_R_onLine 22 [some (.ref 79), some (.int s.1), some (.int x2), some (.int x3), some (.int s.2)] [] h r hr) (Sum.elim (fun s : (Int32 × Int32) => Go E M_R_onLine 14 [some (.ref 79), some (.int s.1), some (.int x2), some (.int s.2), none] [] h r hr) (Sum.elim (fun s : (Int32 × Int32) => Go E M_R_onLine 4 [some (.ref 79), some (.int s.1), some (.int s.2), none, none] [] h r hr) (fun v : Int32 => r = some (.int v) ∧ hr = h)))) b) : Go E M_R_onLine 22 [some (.ref 79), some (.int x1), some (.int x2), some (.int x3), some (.int x4)] [] h r hr := by
  unfold f_R_onLine_L3 at e
  refine sl_ok ok_R_onLine [.iload 4, .iload_n 3] (pc1 := 25) (ls1 := [some (.ref 79), some (.int x1), some (.int x2), some (.int x3), some (.int x4)]) (st1 := [.int x3, .int x4]) (h1 := h) (P := True) (by decide +kernel) rfl trivial ?_
  refine q_icmp_ge (off := 23) (tgt := 48) (by decide +kernel) (by decide) (fun c_1 => ?_) (fun c_1 => ?_)
  · have e := it_t c_1 e
    refine sl_ok ok_R_onLine [.iinc 3 1] (pc1 := 51) (ls1 := [some (.ref 79), some (.int x1), some (.int x2), some (.int (x3 + 1)), some (.int x4)]) (st1 := []) (h1 := h) (P := True) (by decide +kernel) rfl trivial ?_
    refine q_goto (off := -37) (tgt := 14) (by decide) (by decide +kernel) ?_
    cases e
    refine Go.sb [some (.ref 79), some (.int x1), some (.int x2), some (.int (x3 + 1)), none] (And.intro rfl (And.intro rfl (And.intro rfl (And.intro rfl trivial)))) ?_
    exact k
  · have e := it_f c_1 e
    refine sl_ok ok_R_onLine [.aload_n 0, .iload_n 2, .iload_n 3, .iload 4] (pc1 := 33) (ls1 := [some (.ref 79), some (.int x1), some (.int x2), some (.int x3), some (.int x4)]) (st1 := [.int x4, .int x3, .int x2, .ref 79]) (h1 := h) (P := True) (by decide +kernel) rfl trivial ?_
    obtain ⟨v_2, e_3, e⟩ := bi_s e
    refine q_callV ok_R_sideOf (as := [.int x2, .int x3, .int x4]) (st := []) ⟨wd_257, wd_258, wd_259, wd_7, ds_R_sideOf, Nat.le_of_ble_eq_true rfl, Nat.le_of_ble_eq_true rfl⟩ (s_R_sideOf  e_3) rfl ⟨rfl, rfl⟩ (ci := 12) rfl (fun v hv => by cases hv; rfl) (Nat.le_of_ble_eq_true rfl) (by decide +kernel) rfl ?_
    refine q_if_ne (off := 6) (tgt := 42) (by decide +kernel) (by decide) (fun c_4 => ?_) (fun c_4 => ?_)
    · have e := it_f c_4 e
      refine sl_ok ok_R_onLine [.iinc 4 1] (pc1 := 45) (ls1 := [some (.ref 79), some (.int x1), some (.int x2), some (.int x3), some (.int (x4 + 1))]) (st1 := []) (h1 := h) (P := True) (by decide +kernel) rfl trivial ?_
      refine q_goto (off := -23) (tgt := 22) (by decide) (by decide +kernel) ?_
      cases e
      exact k
    · have e := it_t c_4 e
      refine sl_ok ok_R_onLine [.iinc 1 1, .iinc 4 1] (pc1 := 45) (ls1 := [some (.ref 79), some (.int (x1 + 1)), some (.int x2), some (.int x3), some (.int (x4 + 1))]) (st1 := []) (h1 := h) (P := True) (by decide +kernel) rfl trivial ?_
      refine q_goto (off := -23) (tgt := 22) (by decide) (by decide +kernel) ?_
      cases e
      exact k
def f_R_onLine_L2 (x2 : Int32) (h : pH) (x1 : Int32) (x3 : Int32) : Option ((Int32 × Int32) ⊕ ((Int32 × Int32) ⊕ Int32)) :=
  if x2 ≤ x3 then
    some (.inr (.inl (x1, (x2 + 1))))
  else
    lp (fun s => f_R_onLine_L3 x2 x3 h s.1 s.2) lpN (x1, 0)
set_option maxHeartbeats 4000000 in
theorem b_R_onLine_L2 {E : pE} {r : Option Value} {hr : pH} {x2 : Int32} {h : pH} {x1 : Int32} {x3 : Int32}  {b : ((Int32 × Int32) ⊕ ((Int32 × Int32) ⊕ Int32))} (e : f_R_onLine_L2 x2 h x1 x3 = some b) (k : (Sum.elim (fun s : (Int32 × Int32) => Go E M_R_onLine 14 [some (.ref 79), some (.int s.1), some (.int x2), some (.int s.2), none] [] h r hr) (Sum.elim (fun s : (Int32 × Int32) => Go E M_R_onLine 4 [some (.ref 79), some (.int s.1), some (.int s.2), none, none] [] h r hr) (fun v : Int32 => r = some (.int v) ∧ hr = h))) b) : Go E M_R_onLine 14 [some (.ref 79), some (.int x1), some (.int x2), some (.int x3), none] [] h r hr := by
  unfold f_R_onLine_L2 at e
  refine sl_ok ok_R_onLine [.iload_n 3, .iload_n 2] (pc1 := 16) (ls1 := [some (.ref 79), some (.int x1), some (.int x2), some (.int x3), none]) (st1 := [.int x2, .int x3]) (h1 := h) (P := True) (by decide +kernel) rfl trivial ?_
  refine q_icmp_ge (off := 38) (tgt := 54) (by decide +kernel) (by decide) (fun c_1 => ?_) (fun c_1 => ?_)
  · have e := it_t c_1 e
    refine sl_ok ok_R_onLine [.iinc 2 1] (pc1 := 57) (ls1 := [some (.ref 79), some (.int x1), some (.int (x2 + 1)), some (.int x3), none]) (st1 := []) (h1 := h) (P := True) (by decide +kernel) rfl trivial ?_
    refine q_goto (off := -53) (tgt := 4) (by decide) (by decide +kernel) ?_
    cases e
    refine Go.sb [some (.ref 79), some (.int x1), some (.int (x2 + 1)), none, none] (And.intro rfl (And.intro rfl (And.intro rfl trivial))) ?_
    exact k
  · have e := it_f c_1 e
    refine sl_ok ok_R_onLine [.iconst 0, .istore 4] (pc1 := 22) (ls1 := [some (.ref 79), some (.int x1), some (.int x2), some (.int x3), some (.int 0)]) (st1 := []) (h1 := h) (P := True) (by decide +kernel) rfl trivial ?_
    exact lp_in e (fun s => Go E M_R_onLine 22 [some (.ref 79), some (.int s.1), some (.int x2), some (.int x3), some (.int s.2)] [] h r hr) (Sum.elim (fun s : (Int32 × Int32) => Go E M_R_onLine 14 [some (.ref 79), some (.int s.1), some (.int x2), some (.int s.2), none] [] h r hr) (Sum.elim (fun s : (Int32 × Int32) => Go E M_R_onLine 4 [some (.ref 79), some (.int s.1), some (.int s.2), none, none] [] h r hr) (fun v : Int32 => r = some (.int v) ∧ hr = h))) (fun _ _ e k => b_R_onLine_L3  e k) k
def f_R_onLine_L1 (h : pH) (x1 : Int32) (x2 : Int32) : Option ((Int32 × Int32) ⊕ Int32) :=
  if (f_R_all h) ≤ x2 then
    some (.inr x1)
  else
    lp (fun s => f_R_onLine_L2 x2 h s.1 s.2) lpN (x1, 0)
set_option maxHeartbeats 4000000 in
theorem b_R_onLine_L1 {E : pE} {r : Option Value} {hr : pH} {h : pH} {x1 : Int32} {x2 : Int32}  {b : ((Int32 × Int32) ⊕ Int32)} (e : f_R_onLine_L1 h x1 x2 = some b) (k : (Sum.elim (fun s : (Int32 × Int32) => Go E M_R_onLine 4 [some (.ref 79), some (.int s.1), some (.int s.2), none, none] [] h r hr) (fun v : Int32 => r = some (.int v) ∧ hr = h)) b) : Go E M_R_onLine 4 [some (.ref 79), some (.int x1), some (.int x2), none, none] [] h r hr := by
  unfold f_R_onLine_L1 at e
  refine sl_ok ok_R_onLine [.iload_n 2, .aload_n 0] (pc1 := 6) (ls1 := [some (.ref 79), some (.int x1), some (.int x2), none, none]) (st1 := [.ref 79, .int x2]) (h1 := h) (P := True) (by decide +kernel) rfl trivial ?_
  refine q_callV ok_R_all (as := []) (st := [.int x2]) ⟨wd_151, wd_152, wd_153, wd_7, ds_R_all, Nat.le_of_ble_eq_true rfl, Nat.le_of_ble_eq_true rfl⟩ (s_R_all ) rfl ⟨rfl, rfl⟩ (ci := 12) rfl (fun v hv => by cases hv; rfl) (Nat.le_of_ble_eq_true rfl) (by decide +kernel) rfl ?_
  refine q_icmp_ge (off := 51) (tgt := 60) (by decide +kernel) (by decide) (fun c_1 => ?_) (fun c_1 => ?_)
  · have e := it_t c_1 e
    refine sl_ok ok_R_onLine [.iload_n 1] (pc1 := 61) (ls1 := [some (.ref 79), some (.int x1), some (.int x2), none, none]) (st1 := [.int x1]) (h1 := h) (P := True) (by decide +kernel) rfl trivial ?_
    cases e
    exact q_iret rfl k.1 k.2 (by decide +kernel)
  · have e := it_f c_1 e
    refine sl_ok ok_R_onLine [.iconst 0, .istore_n 3] (pc1 := 14) (ls1 := [some (.ref 79), some (.int x1), some (.int x2), some (.int 0), none]) (st1 := []) (h1 := h) (P := True) (by decide +kernel) rfl trivial ?_
    exact lp_in e (fun s => Go E M_R_onLine 14 [some (.ref 79), some (.int s.1), some (.int x2), some (.int s.2), none] [] h r hr) (Sum.elim (fun s : (Int32 × Int32) => Go E M_R_onLine 4 [some (.ref 79), some (.int s.1), some (.int s.2), none, none] [] h r hr) (fun v : Int32 => r = some (.int v) ∧ hr = h)) (fun _ _ e k => b_R_onLine_L2  e k) k
def f_R_onLine (h : pH) : Option Int32 :=
  lp (fun s => f_R_onLine_L1 h s.1 s.2) lpN (0, 0)
set_option maxHeartbeats 4000000 in
theorem b_R_onLine {E : pE} {r : Option Value} {hr : pH} {h : pH}  {b : Int32} (e : f_R_onLine h = some b) (k : (fun v : Int32 => r = some (.int v) ∧ hr = h) b) : Go E M_R_onLine 0 [some (.ref 79), none, none, none, none] [] h r hr := by
  unfold f_R_onLine at e
  refine sl_ok ok_R_onLine [.iconst 0, .istore_n 1, .iconst 0, .istore_n 2] (pc1 := 4) (ls1 := [some (.ref 79), some (.int 0), some (.int 0), none, none]) (st1 := []) (h1 := h) (P := True) (by decide +kernel) rfl trivial ?_
  exact lp_in e (fun s => Go E M_R_onLine 4 [some (.ref 79), some (.int s.1), some (.int s.2), none, none] [] h r hr) (fun v : Int32 => r = some (.int v) ∧ hr = h) (fun _ _ e k => b_R_onLine_L1  e k) k
theorem s_R_onLine {E : pE} {h : pH}  {v : Int32} (e : f_R_onLine h = some v) : Ct E M_R_onLine [.ref 79] h (some (.int v)) h :=
  Ct_of ok_R_onLine [some (.ref 79), none, none, none, none] (Nat.le_of_ble_eq_true rfl) rfl (b_R_onLine  e ⟨rfl, rfl⟩)
def f_R_deepestPoint_J3 (x1 : Int32) (x3 : Int32) (x4 : Int32) (x5 : Int32) (t0 : Int32) (h : pH) : Option ((Int32 × Int32 × Int32) ⊕ Int32) :=
  if x5 = t0 then
    some (.inl (t0, (x3 ||| (jshl 1 x4)), (x4 + 1)))
  else
    some (.inl (t0, x3, (x4 + 1)))
set_option maxHeartbeats 4000000 in
theorem b_R_deepestPoint_J3 {E : pE} {r : Option Value} {hr : pH} {x1 : Int32} {x3 : Int32} {x4 : Int32} {x5 : Int32} {t0 : Int32} {h : pH}  {b : ((Int32 × Int32 × Int32) ⊕ Int32)} (e : f_R_deepestPoint_J3 x1 x3 x4 x5 t0 h = some b) (k : (Sum.elim (fun s : (Int32 × Int32 × Int32) => Go E M_R_deepestPoint 7 [some (.ref 79), some (.int x1), some (.int s.1), some (.int s.2.1), some (.int s.2.2), none] [] h r hr) (fun v : Int32 => r = some (.int v) ∧ hr = h)) b) : Go E M_R_deepestPoint 54 [some (.ref 79), some (.int x1), none, some (.int x3), some (.int x4), some (.int x5)] [.int t0] h r hr := by
  unfold f_R_deepestPoint_J3 at e
  refine sl_ok ok_R_deepestPoint [.istore_n 2, .iload 5, .iload_n 2] (pc1 := 58) (ls1 := [some (.ref 79), some (.int x1), some (.int t0), some (.int x3), some (.int x4), some (.int x5)]) (st1 := [.int t0, .int x5]) (h1 := h) (P := True) (by decide +kernel) rfl trivial ?_
  refine q_icmp_ne (off := 10) (tgt := 68) (by decide +kernel) (by decide) (fun c_1 => ?_) (fun c_1 => ?_)
  · have e := it_f c_1 e
    refine sl_ok ok_R_deepestPoint [.iinc 4 1] (pc1 := 71) (ls1 := [some (.ref 79), some (.int x1), some (.int t0), some (.int x3), some (.int (x4 + 1)), some (.int x5)]) (st1 := []) (h1 := h) (P := True) (by decide +kernel) rfl trivial ?_
    refine q_goto (off := -64) (tgt := 7) (by decide) (by decide +kernel) ?_
    cases e
    refine Go.sb [some (.ref 79), some (.int x1), some (.int t0), some (.int x3), some (.int (x4 + 1)), none] (And.intro rfl (And.intro rfl (And.intro rfl (And.intro rfl (And.intro rfl trivial))))) ?_
    exact k
  · have e := it_t c_1 e
    refine sl_ok ok_R_deepestPoint [.iload_n 3, .iconst 1, .iload 4, .ishl, .ior, .istore_n 3, .iinc 4 1] (pc1 := 71) (ls1 := [some (.ref 79), some (.int x1), some (.int t0), some (.int (x3 ||| (jshl 1 x4))), some (.int (x4 + 1)), some (.int x5)]) (st1 := []) (h1 := h) (P := True) (by decide +kernel) rfl trivial ?_
    refine q_goto (off := -64) (tgt := 7) (by decide) (by decide +kernel) ?_
    cases e
    refine Go.sb [some (.ref 79), some (.int x1), some (.int t0), some (.int (x3 ||| (jshl 1 x4))), some (.int (x4 + 1)), none] (And.intro rfl (And.intro rfl (And.intro rfl (And.intro rfl (And.intro rfl trivial))))) ?_
    exact k
def f_R_deepestPoint_J2 (x1 : Int32) (x2 : Int32) (x3 : Int32) (x4 : Int32) (x5 : Int32) (h : pH) : Option ((Int32 × Int32 × Int32) ⊕ Int32) :=
  if x5 ≤ x2 then
    f_R_deepestPoint_J3 x1 x3 x4 x5 x2 h
  else
    f_R_deepestPoint_J3 x1 x3 x4 x5 x5 h
set_option maxHeartbeats 4000000 in
theorem b_R_deepestPoint_J2 {E : pE} {r : Option Value} {hr : pH} {x1 : Int32} {x2 : Int32} {x3 : Int32} {x4 : Int32} {x5 : Int32} {h : pH}  {b : ((Int32 × Int32 × Int32) ⊕ Int32)} (e : f_R_deepestPoint_J2 x1 x2 x3 x4 x5 h = some b) (k : (Sum.elim (fun s : (Int32 × Int32 × Int32) => Go E M_R_deepestPoint 7 [some (.ref 79), some (.int x1), some (.int s.1), some (.int s.2.1), some (.int s.2.2), none] [] h r hr) (fun v : Int32 => r = some (.int v) ∧ hr = h)) b) : Go E M_R_deepestPoint 42 [some (.ref 79), some (.int x1), some (.int x2), some (.int x3), some (.int x4), some (.int x5)] [] h r hr := by
  unfold f_R_deepestPoint_J2 at e
  refine sl_ok ok_R_deepestPoint [.iload 5, .iload_n 2] (pc1 := 45) (ls1 := [some (.ref 79), some (.int x1), some (.int x2), some (.int x3), some (.int x4), some (.int x5)]) (st1 := [.int x2, .int x5]) (h1 := h) (P := True) (by decide +kernel) rfl trivial ?_
  refine q_icmp_le (off := 8) (tgt := 53) (by decide +kernel) (by decide) (fun c_1 => ?_) (fun c_1 => ?_)
  · have e := it_t c_1 e
    refine sl_ok ok_R_deepestPoint [.iload_n 2] (pc1 := 54) (ls1 := [some (.ref 79), some (.int x1), some (.int x2), some (.int x3), some (.int x4), some (.int x5)]) (st1 := [.int x2]) (h1 := h) (P := True) (by decide +kernel) rfl trivial ?_
    refine Go.sb [some (.ref 79), some (.int x1), none, some (.int x3), some (.int x4), some (.int x5)] (And.intro rfl (And.intro rfl (And.intro rfl (And.intro rfl (And.intro rfl trivial))))) ?_
    exact b_R_deepestPoint_J3  e k
  · have e := it_f c_1 e
    refine sl_ok ok_R_deepestPoint [.iload 5] (pc1 := 50) (ls1 := [some (.ref 79), some (.int x1), some (.int x2), some (.int x3), some (.int x4), some (.int x5)]) (st1 := [.int x5]) (h1 := h) (P := True) (by decide +kernel) rfl trivial ?_
    refine q_goto (off := 4) (tgt := 54) (by decide) (by decide +kernel) ?_
    refine Go.sb [some (.ref 79), some (.int x1), none, some (.int x3), some (.int x4), some (.int x5)] (And.intro rfl (And.intro rfl (And.intro rfl (And.intro rfl (And.intro rfl trivial))))) ?_
    exact b_R_deepestPoint_J3  e k
def f_R_deepestPoint_L1 (x1 : Int32) (h : pH) (x2 : Int32) (x3 : Int32) (x4 : Int32) : Option ((Int32 × Int32 × Int32) ⊕ Int32) :=
  if (f_R_all h) ≤ x4 then
    if x1 = 0 then
      some (.inr x2)
    else
      some (.inr x3)
  else
    (f_R_x x4 h).bind fun v_3 =>
    (f_R_y x4 h).bind fun v_5 =>
    (f_R_depthOf v_3 v_5 h).bind fun v_7 =>
    if v_7 ≤ x2 then
      f_R_deepestPoint_J2 x1 x2 x3 x4 v_7 h
    else
      f_R_deepestPoint_J2 x1 x2 0 x4 v_7 h
set_option maxHeartbeats 4000000 in
theorem b_R_deepestPoint_L1 {E : pE} {r : Option Value} {hr : pH} {x1 : Int32} {h : pH} {x2 : Int32} {x3 : Int32} {x4 : Int32}  {b : ((Int32 × Int32 × Int32) ⊕ Int32)} (e : f_R_deepestPoint_L1 x1 h x2 x3 x4 = some b) (k : (Sum.elim (fun s : (Int32 × Int32 × Int32) => Go E M_R_deepestPoint 7 [some (.ref 79), some (.int x1), some (.int s.1), some (.int s.2.1), some (.int s.2.2), none] [] h r hr) (fun v : Int32 => r = some (.int v) ∧ hr = h)) b) : Go E M_R_deepestPoint 7 [some (.ref 79), some (.int x1), some (.int x2), some (.int x3), some (.int x4), none] [] h r hr := by
  unfold f_R_deepestPoint_L1 at e
  refine sl_ok ok_R_deepestPoint [.iload 4, .aload_n 0] (pc1 := 10) (ls1 := [some (.ref 79), some (.int x1), some (.int x2), some (.int x3), some (.int x4), none]) (st1 := [.ref 79, .int x4]) (h1 := h) (P := True) (by decide +kernel) rfl trivial ?_
  refine q_callV ok_R_all (as := []) (st := [.int x4]) ⟨wd_151, wd_152, wd_153, wd_7, ds_R_all, Nat.le_of_ble_eq_true rfl, Nat.le_of_ble_eq_true rfl⟩ (s_R_all ) rfl ⟨rfl, rfl⟩ (ci := 12) rfl (fun v hv => by cases hv; rfl) (Nat.le_of_ble_eq_true rfl) (by decide +kernel) rfl ?_
  refine q_icmp_ge (off := 61) (tgt := 74) (by decide +kernel) (by decide) (fun c_1 => ?_) (fun c_1 => ?_)
  · have e := it_t c_1 e
    refine sl_ok ok_R_deepestPoint [.iload_n 1] (pc1 := 75) (ls1 := [some (.ref 79), some (.int x1), some (.int x2), some (.int x3), some (.int x4), none]) (st1 := [.int x1]) (h1 := h) (P := True) (by decide +kernel) rfl trivial ?_
    refine q_if_eq (off := 7) (tgt := 82) (by decide +kernel) (by decide) (fun c_2 => ?_) (fun c_2 => ?_)
    · have e := it_t c_2 e
      refine sl_ok ok_R_deepestPoint [.iload_n 2] (pc1 := 83) (ls1 := [some (.ref 79), some (.int x1), some (.int x2), some (.int x3), some (.int x4), none]) (st1 := [.int x2]) (h1 := h) (P := True) (by decide +kernel) rfl trivial ?_
      cases e
      exact q_iret rfl k.1 k.2 (by decide +kernel)
    · have e := it_f c_2 e
      refine sl_ok ok_R_deepestPoint [.iload_n 3] (pc1 := 79) (ls1 := [some (.ref 79), some (.int x1), some (.int x2), some (.int x3), some (.int x4), none]) (st1 := [.int x3]) (h1 := h) (P := True) (by decide +kernel) rfl trivial ?_
      refine q_goto (off := 4) (tgt := 83) (by decide) (by decide +kernel) ?_
      cases e
      exact q_iret rfl k.1 k.2 (by decide +kernel)
  · have e := it_f c_1 e
    refine sl_ok ok_R_deepestPoint [.aload_n 0, .aload_n 0, .iload 4] (pc1 := 20) (ls1 := [some (.ref 79), some (.int x1), some (.int x2), some (.int x3), some (.int x4), none]) (st1 := [.int x4, .ref 79, .ref 79]) (h1 := h) (P := True) (by decide +kernel) rfl trivial ?_
    obtain ⟨v_3, e_4, e⟩ := bi_s e
    refine q_callV ok_R_x (as := [.int x4]) (st := [.ref 79]) ⟨wd_154, wd_155, wd_156, wd_7, ds_R_x, Nat.le_of_ble_eq_true rfl, Nat.le_of_ble_eq_true rfl⟩ (s_R_x  e_4) rfl ⟨rfl, rfl⟩ (ci := 12) rfl (fun v hv => by cases hv; rfl) (Nat.le_of_ble_eq_true rfl) (by decide +kernel) rfl ?_
    refine sl_ok ok_R_deepestPoint [.aload_n 0, .iload 4] (pc1 := 26) (ls1 := [some (.ref 79), some (.int x1), some (.int x2), some (.int x3), some (.int x4), none]) (st1 := [.int x4, .ref 79, .int v_3, .ref 79]) (h1 := h) (P := True) (by decide +kernel) rfl trivial ?_
    obtain ⟨v_5, e_6, e⟩ := bi_s e
    refine q_callV ok_R_y (as := [.int x4]) (st := [.int v_3, .ref 79]) ⟨wd_157, wd_158, wd_159, wd_7, ds_R_y, Nat.le_of_ble_eq_true rfl, Nat.le_of_ble_eq_true rfl⟩ (s_R_y  e_6) rfl ⟨rfl, rfl⟩ (ci := 12) rfl (fun v hv => by cases hv; rfl) (Nat.le_of_ble_eq_true rfl) (by decide +kernel) rfl ?_
    obtain ⟨v_7, e_8, e⟩ := bi_s e
    refine q_callV ok_R_depthOf (as := [.int v_3, .int v_5]) (st := []) ⟨wd_295, wd_296, wd_297, wd_7, ds_R_depthOf, Nat.le_of_ble_eq_true rfl, Nat.le_of_ble_eq_true rfl⟩ (s_R_depthOf  e_8) rfl ⟨rfl, rfl⟩ (ci := 12) rfl (fun v hv => by cases hv; rfl) (Nat.le_of_ble_eq_true rfl) (by decide +kernel) rfl ?_
    refine sl_ok ok_R_deepestPoint [.istore 5, .iload 5, .iload_n 2] (pc1 := 37) (ls1 := [some (.ref 79), some (.int x1), some (.int x2), some (.int x3), some (.int x4), some (.int v_7)]) (st1 := [.int x2, .int v_7]) (h1 := h) (P := True) (by decide +kernel) rfl trivial ?_
    refine q_icmp_le (off := 5) (tgt := 42) (by decide +kernel) (by decide) (fun c_9 => ?_) (fun c_9 => ?_)
    · have e := it_t c_9 e
      exact b_R_deepestPoint_J2  e k
    · have e := it_f c_9 e
      refine sl_ok ok_R_deepestPoint [.iconst 0, .istore_n 3] (pc1 := 42) (ls1 := [some (.ref 79), some (.int x1), some (.int x2), some (.int 0), some (.int x4), some (.int v_7)]) (st1 := []) (h1 := h) (P := True) (by decide +kernel) rfl trivial ?_
      exact b_R_deepestPoint_J2  e k
def f_R_deepestPoint (x1 : Int32) (h : pH) : Option Int32 :=
  lp (fun s => f_R_deepestPoint_L1 x1 h s.1 s.2.1 s.2.2) lpN (0, 0, 0)
set_option maxHeartbeats 4000000 in
theorem b_R_deepestPoint {E : pE} {r : Option Value} {hr : pH} {x1 : Int32} {h : pH}  {b : Int32} (e : f_R_deepestPoint x1 h = some b) (k : (fun v : Int32 => r = some (.int v) ∧ hr = h) b) : Go E M_R_deepestPoint 0 [some (.ref 79), some (.int x1), none, none, none, none] [] h r hr := by
  unfold f_R_deepestPoint at e
  refine sl_ok ok_R_deepestPoint [.iconst 0, .istore_n 2, .iconst 0, .istore_n 3, .iconst 0, .istore 4] (pc1 := 7) (ls1 := [some (.ref 79), some (.int x1), some (.int 0), some (.int 0), some (.int 0), none]) (st1 := []) (h1 := h) (P := True) (by decide +kernel) rfl trivial ?_
  exact lp_in e (fun s => Go E M_R_deepestPoint 7 [some (.ref 79), some (.int x1), some (.int s.1), some (.int s.2.1), some (.int s.2.2), none] [] h r hr) (fun v : Int32 => r = some (.int v) ∧ hr = h) (fun _ _ e k => b_R_deepestPoint_L1  e k) k
theorem s_R_deepestPoint {E : pE} {x1 : Int32} {h : pH}  {v : Int32} (e : f_R_deepestPoint x1 h = some v) : Ct E M_R_deepestPoint [.ref 79, .int x1] h (some (.int v)) h :=
  Ct_of ok_R_deepestPoint [some (.ref 79), some (.int x1), none, none, none, none] (Nat.le_of_ble_eq_true rfl) rfl (b_R_deepestPoint  e ⟨rfl, rfl⟩)
def f_R_third (h : pH) : Int32 :=
  (((f_R_all h) + 2) / 3)
set_option maxHeartbeats 4000000 in
theorem b_R_third {E : pE} {r : Option Value} {hr : pH} {h : pH}  {b : Int32} (e : f_R_third h = b) (k : (fun v : Int32 => r = some (.int v) ∧ hr = h) b) : Go E M_R_third 0 [some (.ref 79)] [] h r hr := by
  unfold f_R_third at e
  refine sl_ok ok_R_third [.aload_n 0] (pc1 := 1) (ls1 := [some (.ref 79)]) (st1 := [.ref 79]) (h1 := h) (P := True) (by decide +kernel) rfl trivial ?_
  refine q_callV ok_R_all (as := []) (st := []) ⟨wd_151, wd_152, wd_153, wd_7, ds_R_all, Nat.le_of_ble_eq_true rfl, Nat.le_of_ble_eq_true rfl⟩ (s_R_all ) rfl ⟨rfl, rfl⟩ (ci := 12) rfl (fun v hv => by cases hv; rfl) (Nat.le_of_ble_eq_true rfl) (by decide +kernel) rfl ?_
  refine sl_ok ok_R_third [.iconst 2, .iadd, .iconst 3, .idiv] (pc1 := 8) (ls1 := [some (.ref 79)]) (st1 := [.int (((f_R_all h) + 2) / 3)]) (h1 := h) (P := (¬ (3 : Int32) = 0) ∧ True) (by decide +kernel) rfl ⟨(by decide), trivial⟩ ?_
  cases e
  exact q_iret rfl k.1 k.2 (by decide +kernel)
theorem s_R_third {E : pE} {h : pH}  : Ct E M_R_third [.ref 79] h (some (.int (f_R_third h))) h :=
  Ct_of ok_R_third [some (.ref 79)] (Nat.le_of_ble_eq_true rfl) rfl (b_R_third  rfl ⟨rfl, rfl⟩)
def f_R_convexMost_J3 (x1 : Int32) (x2 : Int32) (x3 : Int32) (h : pH) : Option ((Int32 × Int32) ⊕ (Int32 × pH)) :=
  if x3 = 0 then
    some (.inl (x1, (x2 + 1)))
  else
    (f_R_bitsOf x2).bind fun v_2 =>
    some (.inl (v_2, (x2 + 1)))
set_option maxHeartbeats 4000000 in
theorem b_R_convexMost_J3 {E : pE} {r : Option Value} {hr : pH} {x1 : Int32} {x2 : Int32} {x3 : Int32} {h : pH}  {b : ((Int32 × Int32) ⊕ (Int32 × pH))} (e : f_R_convexMost_J3 x1 x2 x3 h = some b) (k : (Sum.elim (fun s : (Int32 × Int32) => Go E M_R_convexMost 8 [some (.ref 79), some (.int s.1), some (.int s.2), none, none] [] h r hr) (fun v : (Int32 × pH) => r = some (.int v.1) ∧ hr = v.2)) b) : Go E M_R_convexMost 106 [some (.ref 79), some (.int x1), some (.int x2), some (.int x3), none] [] h r hr := by
  unfold f_R_convexMost_J3 at e
  refine sl_ok ok_R_convexMost [.iload_n 3] (pc1 := 107) (ls1 := [some (.ref 79), some (.int x1), some (.int x2), some (.int x3), none]) (st1 := [.int x3]) (h1 := h) (P := True) (by decide +kernel) rfl trivial ?_
  refine q_if_eq (off := 8) (tgt := 115) (by decide +kernel) (by decide) (fun c_1 => ?_) (fun c_1 => ?_)
  · have e := it_t c_1 e
    refine sl_ok ok_R_convexMost [.iinc 2 1] (pc1 := 118) (ls1 := [some (.ref 79), some (.int x1), some (.int (x2 + 1)), some (.int x3), none]) (st1 := []) (h1 := h) (P := True) (by decide +kernel) rfl trivial ?_
    refine q_goto (off := -110) (tgt := 8) (by decide) (by decide +kernel) ?_
    cases e
    refine Go.sb [some (.ref 79), some (.int x1), some (.int (x2 + 1)), none, none] (And.intro rfl (And.intro rfl (And.intro rfl trivial))) ?_
    exact k
  · have e := it_f c_1 e
    refine sl_ok ok_R_convexMost [.iload_n 2] (pc1 := 111) (ls1 := [some (.ref 79), some (.int x1), some (.int x2), some (.int x3), none]) (st1 := [.int x2]) (h1 := h) (P := True) (by decide +kernel) rfl trivial ?_
    obtain ⟨v_2, e_3, e⟩ := bi_s e
    refine q_callS ok_R_bitsOf (as := [.int x2]) (st := []) ⟨wd_304, wd_305, wd_7, ds_R_bitsOf, Nat.le_of_ble_eq_true rfl, Nat.le_of_ble_eq_true rfl⟩ (s_R_bitsOf  e_3) rfl (fun v hv => by cases hv; rfl) (Nat.le_of_ble_eq_true rfl) (by decide +kernel) rfl ?_
    refine sl_ok ok_R_convexMost [.istore_n 1, .iinc 2 1] (pc1 := 118) (ls1 := [some (.ref 79), some (.int v_2), some (.int (x2 + 1)), some (.int x3), none]) (st1 := []) (h1 := h) (P := True) (by decide +kernel) rfl trivial ?_
    refine q_goto (off := -110) (tgt := 8) (by decide) (by decide +kernel) ?_
    cases e
    refine Go.sb [some (.ref 79), some (.int v_2), some (.int (x2 + 1)), none, none] (And.intro rfl (And.intro rfl (And.intro rfl trivial))) ?_
    exact k
def f_R_convexMost_L2 (x1 : Int32) (x2 : Int32) (h : pH) (x3 : Int32) (x4 : Int32) : Option ((Int32 × Int32) ⊕ ((Int32 × Int32) ⊕ (Int32 × pH))) :=
  if (hI h 79 31) ≤ x4 then
    mi (f_R_convexMost_J3 x1 x2 x3 h)
  else
    if x3 = 0 then
      mi (f_R_convexMost_J3 x1 x2 x3 h)
    else
      if x4 < 0 ∨ 900 ≤ x4.toNatClampNeg then none else
      (f_R_bitsOf (hI h 96 x4.toNatClampNeg)).bind fun v_4 =>
      if 1 < v_4 then
        some (.inl (1, (x4 + 1)))
      else
        if (((hI h 96 x4.toNatClampNeg) ||| (hI h 97 x4.toNatClampNeg)) &&& x2) = ((hI h 96 x4.toNatClampNeg) ||| (hI h 97 x4.toNatClampNeg)) then
          some (.inl (0, (x4 + 1)))
        else
          some (.inl (1, (x4 + 1)))
set_option maxHeartbeats 4000000 in
theorem b_R_convexMost_L2 {E : pE} {r : Option Value} {hr : pH} {x1 : Int32} {x2 : Int32} {h : pH} {x3 : Int32} {x4 : Int32}  {b : ((Int32 × Int32) ⊕ ((Int32 × Int32) ⊕ (Int32 × pH)))} (e : f_R_convexMost_L2 x1 x2 h x3 x4 = some b) (k : (Sum.elim (fun s : (Int32 × Int32) => Go E M_R_convexMost 32 [some (.ref 79), some (.int x1), some (.int x2), some (.int s.1), some (.int s.2)] [] h r hr) (Sum.elim (fun s : (Int32 × Int32) => Go E M_R_convexMost 8 [some (.ref 79), some (.int s.1), some (.int s.2), none, none] [] h r hr) (fun v : (Int32 × pH) => r = some (.int v.1) ∧ hr = v.2))) b) : Go E M_R_convexMost 32 [some (.ref 79), some (.int x1), some (.int x2), some (.int x3), some (.int x4)] [] h r hr := by
  unfold f_R_convexMost_L2 at e
  refine sl_ok ok_R_convexMost [.iload 4, .aload_n 0, .getfield 258] (pc1 := 38) (ls1 := [some (.ref 79), some (.int x1), some (.int x2), some (.int x3), some (.int x4)]) (st1 := [.int (hI h 79 31), .int x4]) (h1 := h) (P := (ak 79 = 0 ∧ cx 79 = 12) ∧ True) (by decide +kernel) rfl ⟨⟨rfl, rfl⟩, trivial⟩ ?_
  refine q_icmp_ge (off := 68) (tgt := 106) (by decide +kernel) (by decide) (fun c_1 => ?_) (fun c_1 => ?_)
  · have e := it_t c_1 e
    refine Go.sb [some (.ref 79), some (.int x1), some (.int x2), some (.int x3), none] (And.intro rfl (And.intro rfl (And.intro rfl (And.intro rfl trivial)))) ?_
    obtain ⟨_, e9, rfl⟩ := mi_s e
    have e := e9
    exact b_R_convexMost_J3  e k
  · have e := it_f c_1 e
    refine sl_ok ok_R_convexMost [.iload_n 3] (pc1 := 42) (ls1 := [some (.ref 79), some (.int x1), some (.int x2), some (.int x3), some (.int x4)]) (st1 := [.int x3]) (h1 := h) (P := True) (by decide +kernel) rfl trivial ?_
    refine q_if_eq (off := 64) (tgt := 106) (by decide +kernel) (by decide) (fun c_2 => ?_) (fun c_2 => ?_)
    · have e := it_t c_2 e
      refine Go.sb [some (.ref 79), some (.int x1), some (.int x2), some (.int x3), none] (And.intro rfl (And.intro rfl (And.intro rfl (And.intro rfl trivial)))) ?_
      obtain ⟨_, e9, rfl⟩ := mi_s e
      have e := e9
      exact b_R_convexMost_J3  e k
    · have e := it_f c_2 e
      obtain ⟨g_3, e⟩ := it_g e
      refine sl_ok ok_R_convexMost [.aload_n 0, .getfield 68, .iload 4, .iaload] (pc1 := 52) (ls1 := [some (.ref 79), some (.int x1), some (.int x2), some (.int x3), some (.int x4)]) (st1 := [.int (hI h 96 x4.toNatClampNeg)]) (h1 := h) (P := (ak 79 = 0 ∧ cx 79 = 12) ∧ (ak 96 = 1 ∧ ¬ (x4 < 0 ∨ cx 96 ≤ x4.toNatClampNeg)) ∧ True) (by decide +kernel) rfl ⟨⟨rfl, rfl⟩, ⟨rfl, g_3⟩, trivial⟩ ?_
      obtain ⟨v_4, e_5, e⟩ := bi_s e
      refine q_callS ok_R_bitsOf (as := [.int (hI h 96 x4.toNatClampNeg)]) (st := []) ⟨wd_304, wd_305, wd_7, ds_R_bitsOf, Nat.le_of_ble_eq_true rfl, Nat.le_of_ble_eq_true rfl⟩ (s_R_bitsOf  e_5) rfl (fun v hv => by cases hv; rfl) (Nat.le_of_ble_eq_true rfl) (by decide +kernel) rfl ?_
      refine sl_ok ok_R_convexMost [.iconst 1] (pc1 := 56) (ls1 := [some (.ref 79), some (.int x1), some (.int x2), some (.int x3), some (.int x4)]) (st1 := [.int 1, .int v_4]) (h1 := h) (P := True) (by decide +kernel) rfl trivial ?_
      refine q_icmp_gt (off := 38) (tgt := 94) (by decide +kernel) (by decide) (fun c_6 => ?_) (fun c_6 => ?_)
      · have e := it_t c_6 e
        refine sl_ok ok_R_convexMost [.iconst 1] (pc1 := 95) (ls1 := [some (.ref 79), some (.int x1), some (.int x2), some (.int x3), some (.int x4)]) (st1 := [.int 1]) (h1 := h) (P := True) (by decide +kernel) rfl trivial ?_
        refine q_goto (off := 4) (tgt := 99) (by decide) (by decide +kernel) ?_
        refine sl_ok ok_R_convexMost [.istore_n 3, .iinc 4 1] (pc1 := 103) (ls1 := [some (.ref 79), some (.int x1), some (.int x2), some (.int 1), some (.int (x4 + 1))]) (st1 := []) (h1 := h) (P := True) (by decide +kernel) rfl trivial ?_
        refine q_goto (off := -71) (tgt := 32) (by decide) (by decide +kernel) ?_
        cases e
        exact k
      · have e := it_f c_6 e
        refine sl_ok ok_R_convexMost [.aload_n 0, .getfield 68, .iload 4, .iaload, .aload_n 0, .getfield 71, .iload 4, .iaload, .ior, .iload_n 2, .iand, .aload_n 0, .getfield 68, .iload 4, .iaload, .aload_n 0, .getfield 71, .iload 4, .iaload, .ior] (pc1 := 91) (ls1 := [some (.ref 79), some (.int x1), some (.int x2), some (.int x3), some (.int x4)]) (st1 := [.int ((hI h 96 x4.toNatClampNeg) ||| (hI h 97 x4.toNatClampNeg)), .int (((hI h 96 x4.toNatClampNeg) ||| (hI h 97 x4.toNatClampNeg)) &&& x2)]) (h1 := h) (P := (ak 79 = 0 ∧ cx 79 = 12) ∧ (ak 96 = 1 ∧ ¬ (x4 < 0 ∨ cx 96 ≤ x4.toNatClampNeg)) ∧ (ak 79 = 0 ∧ cx 79 = 12) ∧ (ak 97 = 1 ∧ ¬ (x4 < 0 ∨ cx 97 ≤ x4.toNatClampNeg)) ∧ (ak 79 = 0 ∧ cx 79 = 12) ∧ (ak 96 = 1 ∧ ¬ (x4 < 0 ∨ cx 96 ≤ x4.toNatClampNeg)) ∧ (ak 79 = 0 ∧ cx 79 = 12) ∧ (ak 97 = 1 ∧ ¬ (x4 < 0 ∨ cx 97 ≤ x4.toNatClampNeg)) ∧ True) (by decide +kernel) rfl ⟨⟨rfl, rfl⟩, ⟨rfl, g_3⟩, ⟨rfl, rfl⟩, ⟨rfl, g_3⟩, ⟨rfl, rfl⟩, ⟨rfl, g_3⟩, ⟨rfl, rfl⟩, ⟨rfl, g_3⟩, trivial⟩ ?_
        refine q_icmp_eq (off := 7) (tgt := 98) (by decide +kernel) (by decide) (fun c_7 => ?_) (fun c_7 => ?_)
        · have e := it_t c_7 e
          refine sl_ok ok_R_convexMost [.iconst 0, .istore_n 3, .iinc 4 1] (pc1 := 103) (ls1 := [some (.ref 79), some (.int x1), some (.int x2), some (.int 0), some (.int (x4 + 1))]) (st1 := []) (h1 := h) (P := True) (by decide +kernel) rfl trivial ?_
          refine q_goto (off := -71) (tgt := 32) (by decide) (by decide +kernel) ?_
          cases e
          exact k
        · have e := it_f c_7 e
          refine sl_ok ok_R_convexMost [.iconst 1] (pc1 := 95) (ls1 := [some (.ref 79), some (.int x1), some (.int x2), some (.int x3), some (.int x4)]) (st1 := [.int 1]) (h1 := h) (P := True) (by decide +kernel) rfl trivial ?_
          refine q_goto (off := 4) (tgt := 99) (by decide) (by decide +kernel) ?_
          refine sl_ok ok_R_convexMost [.istore_n 3, .iinc 4 1] (pc1 := 103) (ls1 := [some (.ref 79), some (.int x1), some (.int x2), some (.int 1), some (.int (x4 + 1))]) (st1 := []) (h1 := h) (P := True) (by decide +kernel) rfl trivial ?_
          refine q_goto (off := -71) (tgt := 32) (by decide) (by decide +kernel) ?_
          cases e
          exact k
def f_R_convexMost_L1 (h : pH) (x1 : Int32) (x2 : Int32) : Option ((Int32 × Int32) ⊕ (Int32 × pH)) :=
  if (f_R_full h) < x2 then
    some (.inr (x1, h))
  else
    (f_R_bitsOf x2).bind fun v_2 =>
    if x1 < v_2 then
      lp (fun s => f_R_convexMost_L2 x1 x2 h s.1 s.2) lpN (1, 0)
    else
      some (.inl (x1, (x2 + 1)))
set_option maxHeartbeats 4000000 in
theorem b_R_convexMost_L1 {E : pE} {r : Option Value} {hr : pH} {h : pH} {x1 : Int32} {x2 : Int32}  {b : ((Int32 × Int32) ⊕ (Int32 × pH))} (e : f_R_convexMost_L1 h x1 x2 = some b) (k : (Sum.elim (fun s : (Int32 × Int32) => Go E M_R_convexMost 8 [some (.ref 79), some (.int s.1), some (.int s.2), none, none] [] h r hr) (fun v : (Int32 × pH) => r = some (.int v.1) ∧ hr = v.2)) b) : Go E M_R_convexMost 8 [some (.ref 79), some (.int x1), some (.int x2), none, none] [] h r hr := by
  unfold f_R_convexMost_L1 at e
  refine sl_ok ok_R_convexMost [.iload_n 2, .aload_n 0] (pc1 := 10) (ls1 := [some (.ref 79), some (.int x1), some (.int x2), none, none]) (st1 := [.ref 79, .int x2]) (h1 := h) (P := True) (by decide +kernel) rfl trivial ?_
  refine q_callV ok_R_full (as := []) (st := [.int x2]) ⟨wd_266, wd_267, wd_268, wd_7, ds_R_full, Nat.le_of_ble_eq_true rfl, Nat.le_of_ble_eq_true rfl⟩ (s_R_full ) rfl ⟨rfl, rfl⟩ (ci := 12) rfl (fun v hv => by cases hv; rfl) (Nat.le_of_ble_eq_true rfl) (by decide +kernel) rfl ?_
  refine q_icmp_gt (off := 108) (tgt := 121) (by decide +kernel) (by decide) (fun c_1 => ?_) (fun c_1 => ?_)
  · have e := it_t c_1 e
    refine sl_ok ok_R_convexMost [.iload_n 1] (pc1 := 122) (ls1 := [some (.ref 79), some (.int x1), some (.int x2), none, none]) (st1 := [.int x1]) (h1 := h) (P := True) (by decide +kernel) rfl trivial ?_
    cases e
    exact q_iret rfl k.1 k.2 (by decide +kernel)
  · have e := it_f c_1 e
    refine sl_ok ok_R_convexMost [.iload_n 2] (pc1 := 17) (ls1 := [some (.ref 79), some (.int x1), some (.int x2), none, none]) (st1 := [.int x2]) (h1 := h) (P := True) (by decide +kernel) rfl trivial ?_
    obtain ⟨v_2, e_3, e⟩ := bi_s e
    refine q_callS ok_R_bitsOf (as := [.int x2]) (st := []) ⟨wd_304, wd_305, wd_7, ds_R_bitsOf, Nat.le_of_ble_eq_true rfl, Nat.le_of_ble_eq_true rfl⟩ (s_R_bitsOf  e_3) rfl (fun v hv => by cases hv; rfl) (Nat.le_of_ble_eq_true rfl) (by decide +kernel) rfl ?_
    refine sl_ok ok_R_convexMost [.iload_n 1] (pc1 := 21) (ls1 := [some (.ref 79), some (.int x1), some (.int x2), none, none]) (st1 := [.int x1, .int v_2]) (h1 := h) (P := True) (by decide +kernel) rfl trivial ?_
    refine q_icmp_gt (off := 6) (tgt := 27) (by decide +kernel) (by decide) (fun c_4 => ?_) (fun c_4 => ?_)
    · have e := it_t c_4 e
      refine sl_ok ok_R_convexMost [.iconst 1, .istore_n 3, .iconst 0, .istore 4] (pc1 := 32) (ls1 := [some (.ref 79), some (.int x1), some (.int x2), some (.int 1), some (.int 0)]) (st1 := []) (h1 := h) (P := True) (by decide +kernel) rfl trivial ?_
      exact lp_in e (fun s => Go E M_R_convexMost 32 [some (.ref 79), some (.int x1), some (.int x2), some (.int s.1), some (.int s.2)] [] h r hr) (Sum.elim (fun s : (Int32 × Int32) => Go E M_R_convexMost 8 [some (.ref 79), some (.int s.1), some (.int s.2), none, none] [] h r hr) (fun v : (Int32 × pH) => r = some (.int v.1) ∧ hr = v.2)) (fun _ _ e k => b_R_convexMost_L2  e k) k
    · have e := it_f c_4 e
      refine q_goto (off := 91) (tgt := 115) (by decide) (by decide +kernel) ?_
      refine sl_ok ok_R_convexMost [.iinc 2 1] (pc1 := 118) (ls1 := [some (.ref 79), some (.int x1), some (.int (x2 + 1)), none, none]) (st1 := []) (h1 := h) (P := True) (by decide +kernel) rfl trivial ?_
      refine q_goto (off := -110) (tgt := 8) (by decide) (by decide +kernel) ?_
      cases e
      exact k
def f_R_convexMost (h : pH) : Option (Int32 × pH) :=
  (f_R_laysMeetings h).bind fun v_1 =>
  lp (fun s => f_R_convexMost_L1 v_1 s.1 s.2) lpN (0, 0)
set_option maxHeartbeats 4000000 in
theorem b_R_convexMost {E : pE} {r : Option Value} {hr : pH} {h : pH}  {b : (Int32 × pH)} (e : f_R_convexMost h = some b) (k : (fun v : (Int32 × pH) => r = some (.int v.1) ∧ hr = v.2) b) : Go E M_R_convexMost 0 [some (.ref 79), none, none, none, none] [] h r hr := by
  unfold f_R_convexMost at e
  refine sl_ok ok_R_convexMost [.aload_n 0] (pc1 := 1) (ls1 := [some (.ref 79), none, none, none, none]) (st1 := [.ref 79]) (h1 := h) (P := True) (by decide +kernel) rfl trivial ?_
  obtain ⟨v_1, e_2, e⟩ := bi_s e
  refine q_callV ok_R_laysMeetings (as := []) (st := []) ⟨wd_371, wd_372, wd_373, wd_7, ds_R_laysMeetings, Nat.le_of_ble_eq_true rfl, Nat.le_of_ble_eq_true rfl⟩ (s_R_laysMeetings  e_2) rfl ⟨rfl, rfl⟩ (ci := 12) rfl (fun v hv => by cases hv) (Nat.le_of_ble_eq_true rfl) (by decide +kernel) rfl ?_
  refine sl_ok ok_R_convexMost [.iconst 0, .istore_n 1, .iconst 0, .istore_n 2] (pc1 := 8) (ls1 := [some (.ref 79), some (.int 0), some (.int 0), none, none]) (st1 := []) (h1 := v_1) (P := True) (by decide +kernel) rfl trivial ?_
  exact lp_in e (fun s => Go E M_R_convexMost 8 [some (.ref 79), some (.int s.1), some (.int s.2), none, none] [] v_1 r hr) (fun v : (Int32 × pH) => r = some (.int v.1) ∧ hr = v.2) (fun _ _ e k => b_R_convexMost_L1  e k) k
theorem s_R_convexMost {E : pE} {h : pH}  {v : (Int32 × pH)} (e : f_R_convexMost h = some v) : Ct E M_R_convexMost [.ref 79] h (some (.int v.1)) v.2 :=
  Ct_of ok_R_convexMost [some (.ref 79), none, none, none, none] (Nat.le_of_ble_eq_true rfl) rfl (b_R_convexMost  e ⟨rfl, rfl⟩)
