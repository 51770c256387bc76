def f_R_triangles_L3 (x1 : Int32) (x2 : Int32) (x4 : Int32) (x5 : Int32) (h : pH) (x3 : Int32) (x6 : Int32) : Option ((Int32 × Int32) ⊕ ((Int32 × Int32) ⊕ ((Int32 × Int32) ⊕ Int32))) :=
  if x5 ≤ x6 then
    some (.inr (.inl (x3, (x5 + 1))))
  else
    (f_R_isInside x1 x2 x4 x5 x6 h).bind fun v_2 =>
    if v_2 = 0 then
      some (.inl (x3, (x6 + 1)))
    else
      some (.inl ((x3 + 1), (x6 + 1)))
set_option maxHeartbeats 4000000 in
theorem b_R_triangles_L3 {E : pE} {r : Option Value} {hr : pH} {x1 : Int32} {x2 : Int32} {x4 : Int32} {x5 : Int32} {h : pH} {x3 : Int32} {x6 : Int32}  {b : ((Int32 × Int32) ⊕ ((Int32 × Int32) ⊕ ((Int32 × Int32) ⊕ Int32)))} (e : f_R_triangles_L3 x1 x2 x4 x5 h x3 x6 = some b) (k : (Sum.elim (fun s : (Int32 × Int32) => Go E M_R_triangles 55 [some (.ref 79), some (.int x1), some (.int x2), some (.int s.1), some (.int x4), some (.int x5), some (.int s.2)] [] h r hr) (Sum.elim (fun s : (Int32 × Int32) => Go E M_R_triangles 45 [some (.ref 79), some (.int x1), some (.int x2), some (.int s.1), some (.int x4), some (.int s.2), none] [] h r hr) (Sum.elim (fun s : (Int32 × Int32) => Go E M_R_triangles 33 [some (.ref 79), some (.int x1), some (.int x2), some (.int s.1), some (.int s.2), none, none] [] h r hr) (fun v : Int32 => r = some (.int v) ∧ hr = h)))) b) : Go E M_R_triangles 55 [some (.ref 79), some (.int x1), some (.int x2), some (.int x3), some (.int x4), some (.int x5), some (.int x6)] [] h r hr := by
  unfold f_R_triangles_L3 at e
  refine sl_ok ok_R_triangles [.iload 6, .iload 5] (pc1 := 59) (ls1 := [some (.ref 79), some (.int x1), some (.int x2), some (.int x3), some (.int x4), some (.int x5), some (.int x6)]) (st1 := [.int x5, .int x6]) (h1 := h) (P := True) (by decide +kernel) rfl trivial ?_
  refine q_icmp_ge (off := 27) (tgt := 86) (by decide +kernel) (by decide) (fun c_1 => ?_) (fun c_1 => ?_)
  · have e := it_t c_1 e
    refine sl_ok ok_R_triangles [.iinc 5 1] (pc1 := 89) (ls1 := [some (.ref 79), some (.int x1), some (.int x2), some (.int x3), some (.int x4), some (.int (x5 + 1)), some (.int x6)]) (st1 := []) (h1 := h) (P := True) (by decide +kernel) rfl trivial ?_
    refine q_goto (off := -44) (tgt := 45) (by decide) (by decide +kernel) ?_
    cases e
    refine Go.sb [some (.ref 79), some (.int x1), some (.int x2), some (.int x3), some (.int x4), some (.int (x5 + 1)), none] (And.intro rfl (And.intro rfl (And.intro rfl (And.intro rfl (And.intro rfl (And.intro rfl trivial)))))) ?_
    exact k
  · have e := it_f c_1 e
    refine sl_ok ok_R_triangles [.aload_n 0, .iload_n 1, .iload_n 2, .iload 4, .iload 5, .iload 6] (pc1 := 71) (ls1 := [some (.ref 79), some (.int x1), some (.int x2), some (.int x3), some (.int x4), some (.int x5), some (.int x6)]) (st1 := [.int x6, .int x5, .int x4, .int x2, .int x1, .ref 79]) (h1 := h) (P := True) (by decide +kernel) rfl trivial ?_
    obtain ⟨v_2, e_3, e⟩ := bi_s e
    refine q_callV ok_R_isInside (as := [.int x1, .int x2, .int x4, .int x5, .int x6]) (st := []) ⟨wd_409, wd_410, wd_411, wd_7, ds_R_isInside, Nat.le_of_ble_eq_true rfl, Nat.le_of_ble_eq_true rfl⟩ (s_R_isInside  e_3) rfl ⟨rfl, rfl⟩ (ci := 12) rfl (fun v hv => by cases hv; rfl) (Nat.le_of_ble_eq_true rfl) (by decide +kernel) rfl ?_
    refine q_if_eq (off := 6) (tgt := 80) (by decide +kernel) (by decide) (fun c_4 => ?_) (fun c_4 => ?_)
    · have e := it_t c_4 e
      refine sl_ok ok_R_triangles [.iinc 6 1] (pc1 := 83) (ls1 := [some (.ref 79), some (.int x1), some (.int x2), some (.int x3), some (.int x4), some (.int x5), some (.int (x6 + 1))]) (st1 := []) (h1 := h) (P := True) (by decide +kernel) rfl trivial ?_
      refine q_goto (off := -28) (tgt := 55) (by decide) (by decide +kernel) ?_
      cases e
      exact k
    · have e := it_f c_4 e
      refine sl_ok ok_R_triangles [.iinc 3 1, .iinc 6 1] (pc1 := 83) (ls1 := [some (.ref 79), some (.int x1), some (.int x2), some (.int (x3 + 1)), some (.int x4), some (.int x5), some (.int (x6 + 1))]) (st1 := []) (h1 := h) (P := True) (by decide +kernel) rfl trivial ?_
      refine q_goto (off := -28) (tgt := 55) (by decide) (by decide +kernel) ?_
      cases e
      exact k
def f_R_triangles_L2 (x1 : Int32) (x2 : Int32) (x4 : Int32) (h : pH) (x3 : Int32) (x5 : Int32) : Option ((Int32 × Int32) ⊕ ((Int32 × Int32) ⊕ Int32)) :=
  if x4 ≤ x5 then
    some (.inr (.inl (x3, (x4 + 1))))
  else
    lp (fun s => f_R_triangles_L3 x1 x2 x4 x5 h s.1 s.2) lpN (x3, 0)
set_option maxHeartbeats 4000000 in
theorem b_R_triangles_L2 {E : pE} {r : Option Value} {hr : pH} {x1 : Int32} {x2 : Int32} {x4 : Int32} {h : pH} {x3 : Int32} {x5 : Int32}  {b : ((Int32 × Int32) ⊕ ((Int32 × Int32) ⊕ Int32))} (e : f_R_triangles_L2 x1 x2 x4 h x3 x5 = some b) (k : (Sum.elim (fun s : (Int32 × Int32) => Go E M_R_triangles 45 [some (.ref 79), some (.int x1), some (.int x2), some (.int s.1), some (.int x4), some (.int s.2), none] [] h r hr) (Sum.elim (fun s : (Int32 × Int32) => Go E M_R_triangles 33 [some (.ref 79), some (.int x1), some (.int x2), some (.int s.1), some (.int s.2), none, none] [] h r hr) (fun v : Int32 => r = some (.int v) ∧ hr = h))) b) : Go E M_R_triangles 45 [some (.ref 79), some (.int x1), some (.int x2), some (.int x3), some (.int x4), some (.int x5), none] [] h r hr := by
  unfold f_R_triangles_L2 at e
  refine sl_ok ok_R_triangles [.iload 5, .iload 4] (pc1 := 49) (ls1 := [some (.ref 79), some (.int x1), some (.int x2), some (.int x3), some (.int x4), some (.int x5), none]) (st1 := [.int x4, .int x5]) (h1 := h) (P := True) (by decide +kernel) rfl trivial ?_
  refine q_icmp_ge (off := 43) (tgt := 92) (by decide +kernel) (by decide) (fun c_1 => ?_) (fun c_1 => ?_)
  · have e := it_t c_1 e
    refine sl_ok ok_R_triangles [.iinc 4 1] (pc1 := 95) (ls1 := [some (.ref 79), some (.int x1), some (.int x2), some (.int x3), some (.int (x4 + 1)), some (.int x5), none]) (st1 := []) (h1 := h) (P := True) (by decide +kernel) rfl trivial ?_
    refine q_goto (off := -62) (tgt := 33) (by decide) (by decide +kernel) ?_
    cases e
    refine Go.sb [some (.ref 79), some (.int x1), some (.int x2), some (.int x3), some (.int (x4 + 1)), none, none] (And.intro rfl (And.intro rfl (And.intro rfl (And.intro rfl (And.intro rfl trivial))))) ?_
    exact k
  · have e := it_f c_1 e
    refine sl_ok ok_R_triangles [.iconst 0, .istore 6] (pc1 := 55) (ls1 := [some (.ref 79), some (.int x1), some (.int x2), some (.int x3), some (.int x4), some (.int x5), some (.int 0)]) (st1 := []) (h1 := h) (P := True) (by decide +kernel) rfl trivial ?_
    exact lp_in e (fun s => Go E M_R_triangles 55 [some (.ref 79), some (.int x1), some (.int x2), some (.int s.1), some (.int x4), some (.int x5), some (.int s.2)] [] h r hr) (Sum.elim (fun s : (Int32 × Int32) => Go E M_R_triangles 45 [some (.ref 79), some (.int x1), some (.int x2), some (.int s.1), some (.int x4), some (.int s.2), none] [] h r hr) (Sum.elim (fun s : (Int32 × Int32) => Go E M_R_triangles 33 [some (.ref 79), some (.int x1), some (.int x2), some (.int s.1), some (.int s.2), none, none] [] h r hr) (fun v : Int32 => r = some (.int v) ∧ hr = h))) (fun _ _ e k => b_R_triangles_L3  e k) k
def f_R_triangles_L1 (x1 : Int32) (x2 : Int32) (h : pH) (x3 : Int32) (x4 : Int32) : Option ((Int32 × Int32) ⊕ Int32) :=
  if (f_R_all h) ≤ x4 then
    some (.inr x3)
  else
    lp (fun s => f_R_triangles_L2 x1 x2 x4 h s.1 s.2) lpN (x3, 0)
set_option maxHeartbeats 4000000 in
theorem b_R_triangles_L1 {E : pE} {r : Option Value} {hr : pH} {x1 : Int32} {x2 : Int32} {h : pH} {x3 : Int32} {x4 : Int32}  {b : ((Int32 × Int32) ⊕ Int32)} (e : f_R_triangles_L1 x1 x2 h x3 x4 = some b) (k : (Sum.elim (fun s : (Int32 × Int32) => Go E M_R_triangles 33 [some (.ref 79), some (.int x1), some (.int x2), some (.int s.1), some (.int s.2), none, none] [] h r hr) (fun v : Int32 => r = some (.int v) ∧ hr = h)) b) : Go E M_R_triangles 33 [some (.ref 79), some (.int x1), some (.int x2), some (.int x3), some (.int x4), none, none] [] h r hr := by
  unfold f_R_triangles_L1 at e
  refine sl_ok ok_R_triangles [.iload 4, .aload_n 0] (pc1 := 36) (ls1 := [some (.ref 79), some (.int x1), some (.int x2), some (.int x3), some (.int x4), none, none]) (st1 := [.ref 79, .int x4]) (h1 := h) (P := True) (by decide +kernel) rfl trivial ?_
  refine q_callV ok_R_all (as := []) (st := [.int x4]) ⟨wd_151, wd_152, wd_153, wd_7, ds_R_all, Nat.le_of_ble_eq_true rfl, Nat.le_of_ble_eq_true rfl⟩ (s_R_all ) rfl ⟨rfl, rfl⟩ (ci := 12) rfl (fun v hv => by cases hv; rfl) (Nat.le_of_ble_eq_true rfl) (by decide +kernel) rfl ?_
  refine q_icmp_ge (off := 59) (tgt := 98) (by decide +kernel) (by decide) (fun c_1 => ?_) (fun c_1 => ?_)
  · have e := it_t c_1 e
    refine sl_ok ok_R_triangles [.iload_n 3] (pc1 := 99) (ls1 := [some (.ref 79), some (.int x1), some (.int x2), some (.int x3), some (.int x4), none, none]) (st1 := [.int x3]) (h1 := h) (P := True) (by decide +kernel) rfl trivial ?_
    cases e
    exact q_iret rfl k.1 k.2 (by decide +kernel)
  · have e := it_f c_1 e
    refine sl_ok ok_R_triangles [.iconst 0, .istore 5] (pc1 := 45) (ls1 := [some (.ref 79), some (.int x1), some (.int x2), some (.int x3), some (.int x4), some (.int 0), none]) (st1 := []) (h1 := h) (P := True) (by decide +kernel) rfl trivial ?_
    exact lp_in e (fun s => Go E M_R_triangles 45 [some (.ref 79), some (.int x1), some (.int x2), some (.int s.1), some (.int x4), some (.int s.2), none] [] h r hr) (Sum.elim (fun s : (Int32 × Int32) => Go E M_R_triangles 33 [some (.ref 79), some (.int x1), some (.int x2), some (.int s.1), some (.int s.2), none, none] [] h r hr) (fun v : Int32 => r = some (.int v) ∧ hr = h)) (fun _ _ e k => b_R_triangles_L2  e k) k
def f_R_triangles (x1 : Int32) (x2 : Int32) (h : pH) : Option Int32 :=
  if (f_R_in x1 ((-200) : Int32) (200 : Int32)) = 0 then
    some (-1)
  else
    if (f_R_in x2 ((-200) : Int32) (200 : Int32)) = 0 then
      some (-1)
    else
      lp (fun s => f_R_triangles_L1 x1 x2 h s.1 s.2) lpN (0, 0)
set_option maxHeartbeats 4000000 in
theorem b_R_triangles {E : pE} {r : Option Value} {hr : pH} {x1 : Int32} {x2 : Int32} {h : pH}  {b : Int32} (e : f_R_triangles x1 x2 h = some b) (k : (fun v : Int32 => r = some (.int v) ∧ hr = h) b) : Go E M_R_triangles 0 [some (.ref 79), some (.int x1), some (.int x2), none, none, none, none] [] h r hr := by
  unfold f_R_triangles at e
  refine sl_ok ok_R_triangles [.iload_n 1, .sipush (-200), .sipush 200] (pc1 := 7) (ls1 := [some (.ref 79), some (.int x1), some (.int x2), none, none, none, none]) (st1 := [.int 200, .int (-200), .int x1]) (h1 := h) (P := True) (by decide +kernel) rfl trivial ?_
  refine q_callS ok_R_in (as := [.int x1, .int (-200), .int 200]) (st := []) ⟨wd_127, wd_128, wd_7, ds_R_in, Nat.le_of_ble_eq_true rfl, Nat.le_of_ble_eq_true rfl⟩ (s_R_in ) rfl (fun v hv => by cases hv; rfl) (Nat.le_of_ble_eq_true rfl) (by decide +kernel) rfl ?_
  refine q_if_eq (off := 16) (tgt := 26) (by decide +kernel) (by decide) (fun c_1 => ?_) (fun c_1 => ?_)
  · have e := it_t c_1 e
    refine sl_ok ok_R_triangles [.iconst (-1)] (pc1 := 27) (ls1 := [some (.ref 79), some (.int x1), some (.int x2), none, none, none, none]) (st1 := [.int (-1)]) (h1 := h) (P := True) (by decide +kernel) rfl trivial ?_
    cases e
    exact q_iret rfl k.1 k.2 (by decide +kernel)
  · have e := it_f c_1 e
    refine sl_ok ok_R_triangles [.iload_n 2, .sipush (-200), .sipush 200] (pc1 := 20) (ls1 := [some (.ref 79), some (.int x1), some (.int x2), none, none, none, none]) (st1 := [.int 200, .int (-200), .int x2]) (h1 := h) (P := True) (by decide +kernel) rfl trivial ?_
    refine q_callS ok_R_in (as := [.int x2, .int (-200), .int 200]) (st := []) ⟨wd_127, wd_128, wd_7, ds_R_in, Nat.le_of_ble_eq_true rfl, Nat.le_of_ble_eq_true rfl⟩ (s_R_in ) rfl (fun v hv => by cases hv; rfl) (Nat.le_of_ble_eq_true rfl) (by decide +kernel) rfl ?_
    refine q_if_ne (off := 5) (tgt := 28) (by decide +kernel) (by decide) (fun c_2 => ?_) (fun c_2 => ?_)
    · have e := it_f c_2 e
      refine sl_ok ok_R_triangles [.iconst 0, .istore_n 3, .iconst 0, .istore 4] (pc1 := 33) (ls1 := [some (.ref 79), some (.int x1), some (.int x2), some (.int 0), some (.int 0), none, none]) (st1 := []) (h1 := h) (P := True) (by decide +kernel) rfl trivial ?_
      exact lp_in e (fun s => Go E M_R_triangles 33 [some (.ref 79), some (.int x1), some (.int x2), some (.int s.1), some (.int s.2), none, none] [] h r hr) (fun v : Int32 => r = some (.int v) ∧ hr = h) (fun _ _ e k => b_R_triangles_L1  e k) k
    · have e := it_t c_2 e
      refine sl_ok ok_R_triangles [.iconst (-1)] (pc1 := 27) (ls1 := [some (.ref 79), some (.int x1), some (.int x2), none, none, none, none]) (st1 := [.int (-1)]) (h1 := h) (P := True) (by decide +kernel) rfl trivial ?_
      cases e
      exact q_iret rfl k.1 k.2 (by decide +kernel)
theorem s_R_triangles {E : pE} {x1 : Int32} {x2 : Int32} {h : pH}  {v : Int32} (e : f_R_triangles x1 x2 h = some v) : Ct E M_R_triangles [.ref 79, .int x1, .int x2] h (some (.int v)) h :=
  Ct_of ok_R_triangles [some (.ref 79), some (.int x1), some (.int x2), none, none, none, none] (Nat.le_of_ble_eq_true rfl) rfl (b_R_triangles  e ⟨rfl, rfl⟩)
def f_Lines_rankOf_L1 (o0 : Nat) (x1 : Int32) (x2 : Int32) (x3 : Int32) (x4 : Int32) (x6 : Int32) (h : pH) (x5 : Int32) (x7 : Int32) : Option ((Int32 × Int32) ⊕ Int32) :=
  if (hI h o0 2) ≤ x7 then
    some (.inr x5)
  else
    if x7 < 0 ∨ 12 ≤ x7.toNatClampNeg then none else
    if (((hI h (rf o0 0) x7.toNatClampNeg) * x2) - ((hI h (rf o0 1) x7.toNatClampNeg) * x3)) < x6 then
      some (.inl ((x5 + 1), (x7 + 1)))
    else
      if (((hI h (rf o0 0) x7.toNatClampNeg) * x2) - ((hI h (rf o0 1) x7.toNatClampNeg) * x3)) = x6 then
        if x1 < 0 ∨ 12 ≤ x1.toNatClampNeg then none else
        if 0 ≤ (x4 * ((hI h (rf o0 0) x7.toNatClampNeg) - (hI h (rf o0 0) x1.toNatClampNeg))) then
          some (.inl (x5, (x7 + 1)))
        else
          some (.inl ((x5 + 1), (x7 + 1)))
      else
        some (.inl (x5, (x7 + 1)))
set_option maxHeartbeats 4000000 in
theorem b_Lines_rankOf_L1 {E : pE} {r : Option Value} {hr : pH} {o0 : Nat} {x1 : Int32} {x2 : Int32} {x3 : Int32} {x4 : Int32} {x6 : Int32} {h : pH} {x5 : Int32} {x7 : Int32} (ho0 : ak o0 = 0 ∧ cx o0 = 0) {b : ((Int32 × Int32) ⊕ Int32)} (e : f_Lines_rankOf_L1 o0 x1 x2 x3 x4 x6 h x5 x7 = some b) (k : (Sum.elim (fun s : (Int32 × Int32) => Go E M_Lines_rankOf 25 [some (.ref o0), some (.int x1), some (.int x2), some (.int x3), some (.int x4), some (.int s.1), some (.int x6), some (.int s.2), none] [] h r hr) (fun v : Int32 => r = some (.int v) ∧ hr = h)) b) : Go E M_Lines_rankOf 25 [some (.ref o0), some (.int x1), some (.int x2), some (.int x3), some (.int x4), some (.int x5), some (.int x6), some (.int x7), none] [] h r hr := by
  unfold f_Lines_rankOf_L1 at e
  refine sl_ok ok_Lines_rankOf [.iload 7, .aload_n 0, .getfield 15] (pc1 := 31) (ls1 := [some (.ref o0), some (.int x1), some (.int x2), some (.int x3), some (.int x4), some (.int x5), some (.int x6), some (.int x7), none]) (st1 := [.int (hI h o0 2), .int x7]) (h1 := h) (P := (ak o0 = 0 ∧ cx o0 = 0) ∧ True) (by decide +kernel) rfl ⟨ho0, trivial⟩ ?_
  refine q_icmp_ge (off := 67) (tgt := 98) (by decide +kernel) (by decide) (fun c_1 => ?_) (fun c_1 => ?_)
  · have e := it_t c_1 e
    refine sl_ok ok_Lines_rankOf [.iload 5] (pc1 := 100) (ls1 := [some (.ref o0), some (.int x1), some (.int x2), some (.int x3), some (.int x4), some (.int x5), some (.int x6), some (.int x7), none]) (st1 := [.int x5]) (h1 := h) (P := True) (by decide +kernel) rfl trivial ?_
    cases e
    exact q_iret rfl k.1 k.2 (by decide +kernel)
  · have e := it_f c_1 e
    obtain ⟨g_2, e⟩ := it_g e
    refine sl_ok ok_Lines_rankOf [.aload_n 0, .getfield 25, .iload 7, .iaload, .iload_n 2, .imul, .aload_n 0, .getfield 28, .iload 7, .iaload, .iload_n 3, .imul, .isub, .istore 8, .iload 8, .iload 6] (pc1 := 59) (ls1 := [some (.ref o0), some (.int x1), some (.int x2), some (.int x3), some (.int x4), some (.int x5), some (.int x6), some (.int x7), some (.int (((hI h (rf o0 0) x7.toNatClampNeg) * x2) - ((hI h (rf o0 1) x7.toNatClampNeg) * x3)))]) (st1 := [.int x6, .int (((hI h (rf o0 0) x7.toNatClampNeg) * x2) - ((hI h (rf o0 1) x7.toNatClampNeg) * x3))]) (h1 := h) (P := (ak o0 = 0 ∧ cx o0 = 0) ∧ (ak (rf o0 0) = 1 ∧ ¬ (x7 < 0 ∨ cx (rf o0 0) ≤ x7.toNatClampNeg)) ∧ (ak o0 = 0 ∧ cx o0 = 0) ∧ (ak (rf o0 1) = 1 ∧ ¬ (x7 < 0 ∨ cx (rf o0 1) ≤ x7.toNatClampNeg)) ∧ True) (by decide +kernel) rfl ⟨ho0, ⟨(st_0_0 ho0).1, (by rw [(st_0_0 ho0).2]; exact g_2)⟩, ho0, ⟨(st_0_1 ho0).1, (by rw [(st_0_1 ho0).2]; exact g_2)⟩, trivial⟩ ?_
    refine q_icmp_lt (off := 30) (tgt := 89) (by decide +kernel) (by decide) (fun c_3 => ?_) (fun c_3 => ?_)
    · have e := it_t c_3 e
      refine sl_ok ok_Lines_rankOf [.iinc 5 1, .iinc 7 1] (pc1 := 95) (ls1 := [some (.ref o0), some (.int x1), some (.int x2), some (.int x3), some (.int x4), some (.int (x5 + 1)), some (.int x6), some (.int (x7 + 1)), some (.int (((hI h (rf o0 0) x7.toNatClampNeg) * x2) - ((hI h (rf o0 1) x7.toNatClampNeg) * x3)))]) (st1 := []) (h1 := h) (P := True) (by decide +kernel) rfl trivial ?_
      refine q_goto (off := -70) (tgt := 25) (by decide) (by decide +kernel) ?_
      cases e
      refine Go.sb [some (.ref o0), some (.int x1), some (.int x2), some (.int x3), some (.int x4), some (.int (x5 + 1)), some (.int x6), some (.int (x7 + 1)), none] (And.intro rfl (And.intro rfl (And.intro rfl (And.intro rfl (And.intro rfl (And.intro rfl (And.intro rfl (And.intro rfl trivial)))))))) ?_
      exact k
    · have e := it_f c_3 e
      refine sl_ok ok_Lines_rankOf [.iload 8, .iload 6] (pc1 := 66) (ls1 := [some (.ref o0), some (.int x1), some (.int x2), some (.int x3), some (.int x4), some (.int x5), some (.int x6), some (.int x7), some (.int (((hI h (rf o0 0) x7.toNatClampNeg) * x2) - ((hI h (rf o0 1) x7.toNatClampNeg) * x3)))]) (st1 := [.int x6, .int (((hI h (rf o0 0) x7.toNatClampNeg) * x2) - ((hI h (rf o0 1) x7.toNatClampNeg) * x3))]) (h1 := h) (P := True) (by decide +kernel) rfl trivial ?_
      refine q_icmp_ne (off := 26) (tgt := 92) (by decide +kernel) (by decide) (fun c_4 => ?_) (fun c_4 => ?_)
      · have e := it_f c_4 e
        refine sl_ok ok_Lines_rankOf [.iinc 7 1] (pc1 := 95) (ls1 := [some (.ref o0), some (.int x1), some (.int x2), some (.int x3), some (.int x4), some (.int x5), some (.int x6), some (.int (x7 + 1)), some (.int (((hI h (rf o0 0) x7.toNatClampNeg) * x2) - ((hI h (rf o0 1) x7.toNatClampNeg) * x3)))]) (st1 := []) (h1 := h) (P := True) (by decide +kernel) rfl trivial ?_
        refine q_goto (off := -70) (tgt := 25) (by decide) (by decide +kernel) ?_
        cases e
        refine Go.sb [some (.ref o0), some (.int x1), some (.int x2), some (.int x3), some (.int x4), some (.int x5), some (.int x6), some (.int (x7 + 1)), none] (And.intro rfl (And.intro rfl (And.intro rfl (And.intro rfl (And.intro rfl (And.intro rfl (And.intro rfl (And.intro rfl trivial)))))))) ?_
        exact k
      · have e := it_t c_4 e
        obtain ⟨g_5, e⟩ := it_g e
        refine sl_ok ok_Lines_rankOf [.iload 4, .aload_n 0, .getfield 25, .iload 7, .iaload, .aload_n 0, .getfield 25, .iload_n 1, .iaload, .isub, .imul] (pc1 := 86) (ls1 := [some (.ref o0), some (.int x1), some (.int x2), some (.int x3), some (.int x4), some (.int x5), some (.int x6), some (.int x7), some (.int (((hI h (rf o0 0) x7.toNatClampNeg) * x2) - ((hI h (rf o0 1) x7.toNatClampNeg) * x3)))]) (st1 := [.int (x4 * ((hI h (rf o0 0) x7.toNatClampNeg) - (hI h (rf o0 0) x1.toNatClampNeg)))]) (h1 := h) (P := (ak o0 = 0 ∧ cx o0 = 0) ∧ (ak (rf o0 0) = 1 ∧ ¬ (x7 < 0 ∨ cx (rf o0 0) ≤ x7.toNatClampNeg)) ∧ (ak o0 = 0 ∧ cx o0 = 0) ∧ (ak (rf o0 0) = 1 ∧ ¬ (x1 < 0 ∨ cx (rf o0 0) ≤ x1.toNatClampNeg)) ∧ True) (by decide +kernel) rfl ⟨ho0, ⟨(st_0_0 ho0).1, (by rw [(st_0_0 ho0).2]; exact g_2)⟩, ho0, ⟨(st_0_0 ho0).1, (by rw [(st_0_0 ho0).2]; exact g_5)⟩, trivial⟩ ?_
        refine q_if_ge (off := 6) (tgt := 92) (by decide +kernel) (by decide) (fun c_6 => ?_) (fun c_6 => ?_)
        · have e := it_t c_6 e
          refine sl_ok ok_Lines_rankOf [.iinc 7 1] (pc1 := 95) (ls1 := [some (.ref o0), some (.int x1), some (.int x2), some (.int x3), some (.int x4), some (.int x5), some (.int x6), some (.int (x7 + 1)), some (.int (((hI h (rf o0 0) x7.toNatClampNeg) * x2) - ((hI h (rf o0 1) x7.toNatClampNeg) * x3)))]) (st1 := []) (h1 := h) (P := True) (by decide +kernel) rfl trivial ?_
          refine q_goto (off := -70) (tgt := 25) (by decide) (by decide +kernel) ?_
          cases e
          refine Go.sb [some (.ref o0), some (.int x1), some (.int x2), some (.int x3), some (.int x4), some (.int x5), some (.int x6), some (.int (x7 + 1)), none] (And.intro rfl (And.intro rfl (And.intro rfl (And.intro rfl (And.intro rfl (And.intro rfl (And.intro rfl (And.intro rfl trivial)))))))) ?_
          exact k
        · have e := it_f c_6 e
          refine sl_ok ok_Lines_rankOf [.iinc 5 1, .iinc 7 1] (pc1 := 95) (ls1 := [some (.ref o0), some (.int x1), some (.int x2), some (.int x3), some (.int x4), some (.int (x5 + 1)), some (.int x6), some (.int (x7 + 1)), some (.int (((hI h (rf o0 0) x7.toNatClampNeg) * x2) - ((hI h (rf o0 1) x7.toNatClampNeg) * x3)))]) (st1 := []) (h1 := h) (P := True) (by decide +kernel) rfl trivial ?_
          refine q_goto (off := -70) (tgt := 25) (by decide) (by decide +kernel) ?_
          cases e
          refine Go.sb [some (.ref o0), some (.int x1), some (.int x2), some (.int x3), some (.int x4), some (.int (x5 + 1)), some (.int x6), some (.int (x7 + 1)), none] (And.intro rfl (And.intro rfl (And.intro rfl (And.intro rfl (And.intro rfl (And.intro rfl (And.intro rfl (And.intro rfl trivial)))))))) ?_
          exact k
def f_Lines_rankOf (o0 : Nat) (x1 : Int32) (x2 : Int32) (x3 : Int32) (x4 : Int32) (h : pH) : Option Int32 :=
  if x1 < 0 ∨ 12 ≤ x1.toNatClampNeg then none else
  lp (fun s => f_Lines_rankOf_L1 o0 x1 x2 x3 x4 (((hI h (rf o0 0) x1.toNatClampNeg) * x2) - ((hI h (rf o0 1) x1.toNatClampNeg) * x3)) h s.1 s.2) lpN (0, 0)
set_option maxHeartbeats 4000000 in
theorem b_Lines_rankOf {E : pE} {r : Option Value} {hr : pH} {o0 : Nat} {x1 : Int32} {x2 : Int32} {x3 : Int32} {x4 : Int32} {h : pH} (ho0 : ak o0 = 0 ∧ cx o0 = 0) {b : Int32} (e : f_Lines_rankOf o0 x1 x2 x3 x4 h = some b) (k : (fun v : Int32 => r = some (.int v) ∧ hr = h) b) : Go E M_Lines_rankOf 0 [some (.ref o0), some (.int x1), some (.int x2), some (.int x3), some (.int x4), none, none, none, none] [] h r hr := by
  unfold f_Lines_rankOf at e
  obtain ⟨g_1, e⟩ := it_g e
  refine sl_ok ok_Lines_rankOf [.iconst 0, .istore 5, .aload_n 0, .getfield 25, .iload_n 1, .iaload, .iload_n 2, .imul, .aload_n 0, .getfield 28, .iload_n 1, .iaload, .iload_n 3, .imul, .isub, .istore 6, .iconst 0, .istore 7] (pc1 := 25) (ls1 := [some (.ref o0), some (.int x1), some (.int x2), some (.int x3), some (.int x4), some (.int 0), some (.int (((hI h (rf o0 0) x1.toNatClampNeg) * x2) - ((hI h (rf o0 1) x1.toNatClampNeg) * x3))), some (.int 0), none]) (st1 := []) (h1 := h) (P := (ak o0 = 0 ∧ cx o0 = 0) ∧ (ak (rf o0 0) = 1 ∧ ¬ (x1 < 0 ∨ cx (rf o0 0) ≤ x1.toNatClampNeg)) ∧ (ak o0 = 0 ∧ cx o0 = 0) ∧ (ak (rf o0 1) = 1 ∧ ¬ (x1 < 0 ∨ cx (rf o0 1) ≤ x1.toNatClampNeg)) ∧ True) (by decide +kernel) rfl ⟨ho0, ⟨(st_0_0 ho0).1, (by rw [(st_0_0 ho0).2]; exact g_1)⟩, ho0, ⟨(st_0_1 ho0).1, (by rw [(st_0_1 ho0).2]; exact g_1)⟩, trivial⟩ ?_
  exact lp_in e (fun s => Go E M_Lines_rankOf 25 [some (.ref o0), some (.int x1), some (.int x2), some (.int x3), some (.int x4), some (.int s.1), some (.int (((hI h (rf o0 0) x1.toNatClampNeg) * x2) - ((hI h (rf o0 1) x1.toNatClampNeg) * x3))), some (.int s.2), none] [] h r hr) (fun v : Int32 => r = some (.int v) ∧ hr = h) (fun _ _ e k => b_Lines_rankOf_L1 ho0 e k) k
theorem s_Lines_rankOf {E : pE} {o0 : Nat} {x1 : Int32} {x2 : Int32} {x3 : Int32} {x4 : Int32} {h : pH} (ho0 : ak o0 = 0 ∧ cx o0 = 0) {v : Int32} (e : f_Lines_rankOf o0 x1 x2 x3 x4 h = some v) : Ct E M_Lines_rankOf [.ref o0, .int x1, .int x2, .int x3, .int x4] h (some (.int v)) h :=
  Ct_of ok_Lines_rankOf [some (.ref o0), some (.int x1), some (.int x2), some (.int x3), some (.int x4), none, none, none, none] (Nat.le_of_ble_eq_true rfl) rfl (b_Lines_rankOf ho0 e ⟨rfl, rfl⟩)
def f_Lines_lineAt_L1 (o0 : Nat) (x1 : Int32) (x2 : Int32) (x3 : Int32) (x4 : Int32) (h : pH) (x5 : Int32) : Option (Int32 ⊕ Int32) :=
  if (hI h o0 2) ≤ x5 then
    some (.inr (-1))
  else
    (f_Lines_rankOf o0 x5 x2 x3 x4 h).bind fun v_2 =>
    if v_2 = x1 then
      some (.inr x5)
    else
      some (.inl (x5 + 1))
set_option maxHeartbeats 4000000 in
theorem b_Lines_lineAt_L1 {E : pE} {r : Option Value} {hr : pH} {o0 : Nat} {x1 : Int32} {x2 : Int32} {x3 : Int32} {x4 : Int32} {h : pH} {x5 : Int32} (ho0 : ak o0 = 0 ∧ cx o0 = 0) {b : (Int32 ⊕ Int32)} (e : f_Lines_lineAt_L1 o0 x1 x2 x3 x4 h x5 = some b) (k : (Sum.elim (fun s : Int32 => Go E M_Lines_lineAt 3 [some (.ref o0), some (.int x1), some (.int x2), some (.int x3), some (.int x4), some (.int s)] [] h r hr) (fun v : Int32 => r = some (.int v) ∧ hr = h)) b) : Go E M_Lines_lineAt 3 [some (.ref o0), some (.int x1), some (.int x2), some (.int x3), some (.int x4), some (.int x5)] [] h r hr := by
  unfold f_Lines_lineAt_L1 at e
  refine sl_ok ok_Lines_lineAt [.iload 5, .aload_n 0, .getfield 15] (pc1 := 9) (ls1 := [some (.ref o0), some (.int x1), some (.int x2), some (.int x3), some (.int x4), some (.int x5)]) (st1 := [.int (hI h o0 2), .int x5]) (h1 := h) (P := (ak o0 = 0 ∧ cx o0 = 0) ∧ True) (by decide +kernel) rfl ⟨ho0, trivial⟩ ?_
  refine q_icmp_ge (off := 26) (tgt := 35) (by decide +kernel) (by decide) (fun c_1 => ?_) (fun c_1 => ?_)
  · have e := it_t c_1 e
    refine sl_ok ok_Lines_lineAt [.iconst (-1)] (pc1 := 36) (ls1 := [some (.ref o0), some (.int x1), some (.int x2), some (.int x3), some (.int x4), some (.int x5)]) (st1 := [.int (-1)]) (h1 := h) (P := True) (by decide +kernel) rfl trivial ?_
    cases e
    exact q_iret rfl k.1 k.2 (by decide +kernel)
  · have e := it_f c_1 e
    refine sl_ok ok_Lines_lineAt [.aload_n 0, .iload 5, .iload_n 2, .iload_n 3, .iload 4] (pc1 := 19) (ls1 := [some (.ref o0), some (.int x1), some (.int x2), some (.int x3), some (.int x4), some (.int x5)]) (st1 := [.int x4, .int x3, .int x2, .int x5, .ref o0]) (h1 := h) (P := True) (by decide +kernel) rfl trivial ?_
    obtain ⟨v_2, e_3, e⟩ := bi_s e
    refine q_callS ok_Lines_rankOf (as := [.ref o0, .int x5, .int x2, .int x3, .int x4]) (st := []) ⟨wd_412, wd_413, wd_414, ds_Lines_rankOf, Nat.le_of_ble_eq_true rfl, Nat.le_of_ble_eq_true rfl⟩ (s_Lines_rankOf ho0 e_3) rfl (fun v hv => by cases hv; rfl) (Nat.le_of_ble_eq_true rfl) (by decide +kernel) rfl ?_
    refine sl_ok ok_Lines_lineAt [.iload_n 1] (pc1 := 23) (ls1 := [some (.ref o0), some (.int x1), some (.int x2), some (.int x3), some (.int x4), some (.int x5)]) (st1 := [.int x1, .int v_2]) (h1 := h) (P := True) (by decide +kernel) rfl trivial ?_
    refine q_icmp_ne (off := 6) (tgt := 29) (by decide +kernel) (by decide) (fun c_4 => ?_) (fun c_4 => ?_)
    · have e := it_f c_4 e
      refine sl_ok ok_Lines_lineAt [.iinc 5 1] (pc1 := 32) (ls1 := [some (.ref o0), some (.int x1), some (.int x2), some (.int x3), some (.int x4), some (.int (x5 + 1))]) (st1 := []) (h1 := h) (P := True) (by decide +kernel) rfl trivial ?_
      refine q_goto (off := -29) (tgt := 3) (by decide) (by decide +kernel) ?_
      cases e
      exact k
    · have e := it_t c_4 e
      refine sl_ok ok_Lines_lineAt [.iload 5] (pc1 := 28) (ls1 := [some (.ref o0), some (.int x1), some (.int x2), some (.int x3), some (.int x4), some (.int x5)]) (st1 := [.int x5]) (h1 := h) (P := True) (by decide +kernel) rfl trivial ?_
      cases e
      exact q_iret rfl k.1 k.2 (by decide +kernel)
def f_Lines_lineAt (o0 : Nat) (x1 : Int32) (x2 : Int32) (x3 : Int32) (x4 : Int32) (h : pH) : Option Int32 :=
  lp (fun s => f_Lines_lineAt_L1 o0 x1 x2 x3 x4 h s) lpN 0
set_option maxHeartbeats 4000000 in
theorem b_Lines_lineAt {E : pE} {r : Option Value} {hr : pH} {o0 : Nat} {x1 : Int32} {x2 : Int32} {x3 : Int32} {x4 : Int32} {h : pH} (ho0 : ak o0 = 0 ∧ cx o0 = 0) {b : Int32} (e : f_Lines_lineAt o0 x1 x2 x3 x4 h = some b) (k : (fun v : Int32 => r = some (.int v) ∧ hr = h) b) : Go E M_Lines_lineAt 0 [some (.ref o0), some (.int x1), some (.int x2), some (.int x3), some (.int x4), none] [] h r hr := by
  unfold f_Lines_lineAt at e
  refine sl_ok ok_Lines_lineAt [.iconst 0, .istore 5] (pc1 := 3) (ls1 := [some (.ref o0), some (.int x1), some (.int x2), some (.int x3), some (.int x4), some (.int 0)]) (st1 := []) (h1 := h) (P := True) (by decide +kernel) rfl trivial ?_
  exact lp_in e (fun s => Go E M_Lines_lineAt 3 [some (.ref o0), some (.int x1), some (.int x2), some (.int x3), some (.int x4), some (.int s)] [] h r hr) (fun v : Int32 => r = some (.int v) ∧ hr = h) (fun _ _ e k => b_Lines_lineAt_L1 ho0 e k) k
theorem s_Lines_lineAt {E : pE} {o0 : Nat} {x1 : Int32} {x2 : Int32} {x3 : Int32} {x4 : Int32} {h : pH} (ho0 : ak o0 = 0 ∧ cx o0 = 0) {v : Int32} (e : f_Lines_lineAt o0 x1 x2 x3 x4 h = some v) : Ct E M_Lines_lineAt [.ref o0, .int x1, .int x2, .int x3, .int x4] h (some (.int v)) h :=
  Ct_of ok_Lines_lineAt [some (.ref o0), some (.int x1), some (.int x2), some (.int x3), some (.int x4), none] (Nat.le_of_ble_eq_true rfl) rfl (b_Lines_lineAt ho0 e ⟨rfl, rfl⟩)
def f_C_order (x1 : Int32) (x2 : Int32) (h : pH) : Option Int32 :=
  if x1 < (-1000) then
    some (-1)
  else
    if x1 ≤ 1000 then
      (f_Lines_lineAt 8 x2 x1 (1 : Int32) (1 : Int32) h).bind fun v_3 =>
      some v_3
    else
      some (-1)
set_option maxHeartbeats 4000000 in
theorem b_C_order {E : pE} {r : Option Value} {hr : pH} {x1 : Int32} {x2 : Int32} {h : pH}  {b : Int32} (e : f_C_order x1 x2 h = some b) (k : (fun v : Int32 => r = some (.int v) ∧ hr = h) b) : Go E M_C_order 0 [some (.ref 0), some (.int x1), some (.int x2)] [] h r hr := by
  unfold f_C_order at e
  refine sl_ok ok_C_order [.iload_n 1, .sipush (-1000)] (pc1 := 4) (ls1 := [some (.ref 0), some (.int x1), some (.int x2)]) (st1 := [.int (-1000), .int x1]) (h1 := h) (P := True) (by decide +kernel) rfl trivial ?_
  refine q_icmp_lt (off := 10) (tgt := 14) (by decide +kernel) (by decide) (fun c_1 => ?_) (fun c_1 => ?_)
  · have e := it_t c_1 e
    refine sl_ok ok_C_order [.iconst (-1)] (pc1 := 15) (ls1 := [some (.ref 0), some (.int x1), some (.int x2)]) (st1 := [.int (-1)]) (h1 := h) (P := True) (by decide +kernel) rfl trivial ?_
    cases e
    exact q_iret rfl k.1 k.2 (by decide +kernel)
  · have e := it_f c_1 e
    refine sl_ok ok_C_order [.iload_n 1, .sipush 1000] (pc1 := 11) (ls1 := [some (.ref 0), some (.int x1), some (.int x2)]) (st1 := [.int 1000, .int x1]) (h1 := h) (P := True) (by decide +kernel) rfl trivial ?_
    refine q_icmp_le (off := 5) (tgt := 16) (by decide +kernel) (by decide) (fun c_2 => ?_) (fun c_2 => ?_)
    · have e := it_t c_2 e
      refine sl_ok ok_C_order [.aload_n 0, .getfield 28, .iload_n 2, .iload_n 1, .iconst 1, .iconst 1] (pc1 := 24) (ls1 := [some (.ref 0), some (.int x1), some (.int x2)]) (st1 := [.int 1, .int 1, .int x1, .int x2, .ref 8]) (h1 := h) (P := (ak 0 = 0 ∧ cx 0 = 11) ∧ True) (by decide +kernel) rfl ⟨⟨rfl, rfl⟩, trivial⟩ ?_
      obtain ⟨v_3, e_4, e⟩ := bi_s e
      refine q_callS ok_Lines_lineAt (as := [.ref 8, .int x2, .int x1, .int 1, .int 1]) (st := []) ⟨wd_415, wd_416, wd_414, ds_Lines_lineAt, Nat.le_of_ble_eq_true rfl, Nat.le_of_ble_eq_true rfl⟩ (s_Lines_lineAt ⟨rfl, rfl⟩ e_4) rfl (fun v hv => by cases hv; rfl) (Nat.le_of_ble_eq_true rfl) (by decide +kernel) rfl ?_
      cases e
      exact q_iret rfl k.1 k.2 (by decide +kernel)
    · have e := it_f c_2 e
      refine sl_ok ok_C_order [.iconst (-1)] (pc1 := 15) (ls1 := [some (.ref 0), some (.int x1), some (.int x2)]) (st1 := [.int (-1)]) (h1 := h) (P := True) (by decide +kernel) rfl trivial ?_
      cases e
      exact q_iret rfl k.1 k.2 (by decide +kernel)
theorem s_C_order {E : pE} {x1 : Int32} {x2 : Int32} {h : pH}  {v : Int32} (e : f_C_order x1 x2 h = some v) : Ct E M_C_order [.ref 0, .int x1, .int x2] h (some (.int v)) h :=
  Ct_of ok_C_order [some (.ref 0), some (.int x1), some (.int x2)] (Nat.le_of_ble_eq_true rfl) rfl (b_C_order  e ⟨rfl, rfl⟩)
def f_R_valueAt (x1 : Int32) (x2 : Int32) (x3 : Int32) (h : pH) : Option Int32 :=
  (f_R_x x1 h).bind fun v_1 =>
  (f_R_y x1 h).bind fun v_3 =>
  some ((v_1 * x2) - (v_3 * x3))
set_option maxHeartbeats 4000000 in
theorem b_R_valueAt {E : pE} {r : Option Value} {hr : pH} {x1 : Int32} {x2 : Int32} {x3 : Int32} {h : pH}  {b : Int32} (e : f_R_valueAt x1 x2 x3 h = some b) (k : (fun v : Int32 => r = some (.int v) ∧ hr = h) b) : Go E M_R_valueAt 0 [some (.ref 79), some (.int x1), some (.int x2), some (.int x3)] [] h r hr := by
  unfold f_R_valueAt at e
  refine sl_ok ok_R_valueAt [.aload_n 0, .iload_n 1] (pc1 := 2) (ls1 := [some (.ref 79), some (.int x1), some (.int x2), some (.int x3)]) (st1 := [.int x1, .ref 79]) (h1 := h) (P := True) (by decide +kernel) rfl trivial ?_
  obtain ⟨v_1, e_2, e⟩ := bi_s e
  refine q_callV ok_R_x (as := [.int x1]) (st := []) ⟨wd_154, wd_155, wd_156, wd_7, ds_R_x, Nat.le_of_ble_eq_true rfl, Nat.le_of_ble_eq_true rfl⟩ (s_R_x  e_2) rfl ⟨rfl, rfl⟩ (ci := 12) rfl (fun v hv => by cases hv; rfl) (Nat.le_of_ble_eq_true rfl) (by decide +kernel) rfl ?_
  refine sl_ok ok_R_valueAt [.iload_n 2, .imul, .aload_n 0, .iload_n 1] (pc1 := 9) (ls1 := [some (.ref 79), some (.int x1), some (.int x2), some (.int x3)]) (st1 := [.int x1, .ref 79, .int (v_1 * x2)]) (h1 := h) (P := True) (by decide +kernel) rfl trivial ?_
  obtain ⟨v_3, e_4, e⟩ := bi_s e
  refine q_callV ok_R_y (as := [.int x1]) (st := [.int (v_1 * x2)]) ⟨wd_157, wd_158, wd_159, wd_7, ds_R_y, Nat.le_of_ble_eq_true rfl, Nat.le_of_ble_eq_true rfl⟩ (s_R_y  e_4) rfl ⟨rfl, rfl⟩ (ci := 12) rfl (fun v hv => by cases hv; rfl) (Nat.le_of_ble_eq_true rfl) (by decide +kernel) rfl ?_
  refine sl_ok ok_R_valueAt [.iload_n 3, .imul, .isub] (pc1 := 15) (ls1 := [some (.ref 79), some (.int x1), some (.int x2), some (.int x3)]) (st1 := [.int ((v_1 * x2) - (v_3 * x3))]) (h1 := h) (P := True) (by decide +kernel) rfl trivial ?_
  cases e
  exact q_iret rfl k.1 k.2 (by decide +kernel)
theorem s_R_valueAt {E : pE} {x1 : Int32} {x2 : Int32} {x3 : Int32} {h : pH}  {v : Int32} (e : f_R_valueAt x1 x2 x3 h = some v) : Ct E M_R_valueAt [.ref 79, .int x1, .int x2, .int x3] h (some (.int v)) h :=
  Ct_of ok_R_valueAt [some (.ref 79), some (.int x1), some (.int x2), some (.int x3)] (Nat.le_of_ble_eq_true rfl) rfl (b_R_valueAt  e ⟨rfl, rfl⟩)
def f_R_lineAt_L2 (x1 : Int32) (x2 : Int32) (x3 : Int32) (x4 : Int32) (x5 : Int32) (h : pH) (x6 : Int32) (x7 : Int32) : Option ((Int32 × Int32) ⊕ (Int32 ⊕ Int32)) :=
  if (f_R_all h) ≤ x7 then
    if x6 = x3 then
      some (.inr (.inr x5))
    else
      some (.inr (.inl (x5 + 1)))
  else
    (f_R_valueAt x7 x1 x2 h).bind fun v_3 =>
    (f_R_valueAt x5 x1 x2 h).bind fun v_5 =>
    if (v_3 - v_5) < 0 then
      some (.inl ((x6 + 1), (x7 + 1)))
    else
      if (v_3 - v_5) = 0 then
        if x4 = 0 then
          (f_R_x x7 h).bind fun v_10 =>
          (f_R_x x5 h).bind fun v_12 =>
          if v_12 ≤ v_10 then
            some (.inl (x6, (x7 + 1)))
          else
            some (.inl ((x6 + 1), (x7 + 1)))
        else
          (f_R_x x7 h).bind fun v_15 =>
          (f_R_x x5 h).bind fun v_17 =>
          if v_15 ≤ v_17 then
            some (.inl (x6, (x7 + 1)))
          else
            some (.inl ((x6 + 1), (x7 + 1)))
      else
        some (.inl (x6, (x7 + 1)))
set_option maxHeartbeats 4000000 in
theorem b_R_lineAt_L2 {E : pE} {r : Option Value} {hr : pH} {x1 : Int32} {x2 : Int32} {x3 : Int32} {x4 : Int32} {x5 : Int32} {h : pH} {x6 : Int32} {x7 : Int32}  {b : ((Int32 × Int32) ⊕ (Int32 ⊕ Int32))} (e : f_R_lineAt_L2 x1 x2 x3 x4 x5 h x6 x7 = some b) (k : (Sum.elim (fun s : (Int32 × Int32) => Go E M_R_lineAt 18 [some (.ref 79), some (.int x1), some (.int x2), some (.int x3), some (.int x4), some (.int x5), some (.int s.1), some (.int s.2), none] [] h r hr) (Sum.elim (fun s : Int32 => Go E M_R_lineAt 3 [some (.ref 79), some (.int x1), some (.int x2), some (.int x3), some (.int x4), some (.int s), none, none, none] [] h r hr) (fun v : Int32 => r = some (.int v) ∧ hr = h))) b) : Go E M_R_lineAt 18 [some (.ref 79), some (.int x1), some (.int x2), some (.int x3), some (.int x4), some (.int x5), some (.int x6), some (.int x7), none] [] h r hr := by
  unfold f_R_lineAt_L2 at e
  refine sl_ok ok_R_lineAt [.iload 7, .aload_n 0] (pc1 := 21) (ls1 := [some (.ref 79), some (.int x1), some (.int x2), some (.int x3), some (.int x4), some (.int x5), some (.int x6), some (.int x7), none]) (st1 := [.ref 79, .int x7]) (h1 := h) (P := True) (by decide +kernel) rfl trivial ?_
  refine q_callV ok_R_all (as := []) (st := [.int x7]) ⟨wd_151, wd_152, wd_153, wd_7, ds_R_all, Nat.le_of_ble_eq_true rfl, Nat.le_of_ble_eq_true rfl⟩ (s_R_all ) rfl ⟨rfl, rfl⟩ (ci := 12) rfl (fun v hv => by cases hv; rfl) (Nat.le_of_ble_eq_true rfl) (by decide +kernel) rfl ?_
  refine q_icmp_ge (off := 79) (tgt := 103) (by decide +kernel) (by decide) (fun c_1 => ?_) (fun c_1 => ?_)
  · have e := it_t c_1 e
    refine sl_ok ok_R_lineAt [.iload 6, .iload_n 3] (pc1 := 106) (ls1 := [some (.ref 79), some (.int x1), some (.int x2), some (.int x3), some (.int x4), some (.int x5), some (.int x6), some (.int x7), none]) (st1 := [.int x3, .int x6]) (h1 := h) (P := True) (by decide +kernel) rfl trivial ?_
    refine q_icmp_ne (off := 6) (tgt := 112) (by decide +kernel) (by decide) (fun c_2 => ?_) (fun c_2 => ?_)
    · have e := it_f c_2 e
      refine sl_ok ok_R_lineAt [.iinc 5 1] (pc1 := 115) (ls1 := [some (.ref 79), some (.int x1), some (.int x2), some (.int x3), some (.int x4), some (.int (x5 + 1)), some (.int x6), some (.int x7), none]) (st1 := []) (h1 := h) (P := True) (by decide +kernel) rfl trivial ?_
      refine q_goto (off := -112) (tgt := 3) (by decide) (by decide +kernel) ?_
      cases e
      refine Go.sb [some (.ref 79), some (.int x1), some (.int x2), some (.int x3), some (.int x4), some (.int (x5 + 1)), none, none, none] (And.intro rfl (And.intro rfl (And.intro rfl (And.intro rfl (And.intro rfl (And.intro rfl trivial)))))) ?_
      exact k
    · have e := it_t c_2 e
      refine sl_ok ok_R_lineAt [.iload 5] (pc1 := 111) (ls1 := [some (.ref 79), some (.int x1), some (.int x2), some (.int x3), some (.int x4), some (.int x5), some (.int x6), some (.int x7), none]) (st1 := [.int x5]) (h1 := h) (P := True) (by decide +kernel) rfl trivial ?_
      cases e
      exact q_iret rfl k.1 k.2 (by decide +kernel)
  · have e := it_f c_1 e
    refine sl_ok ok_R_lineAt [.aload_n 0, .iload 7, .iload_n 1, .iload_n 2] (pc1 := 32) (ls1 := [some (.ref 79), some (.int x1), some (.int x2), some (.int x3), some (.int x4), some (.int x5), some (.int x6), some (.int x7), none]) (st1 := [.int x2, .int x1, .int x7, .ref 79]) (h1 := h) (P := True) (by decide +kernel) rfl trivial ?_
    obtain ⟨v_3, e_4, e⟩ := bi_s e
    refine q_callV ok_R_valueAt (as := [.int x7, .int x1, .int x2]) (st := []) ⟨wd_417, wd_418, wd_419, wd_7, ds_R_valueAt, Nat.le_of_ble_eq_true rfl, Nat.le_of_ble_eq_true rfl⟩ (s_R_valueAt  e_4) rfl ⟨rfl, rfl⟩ (ci := 12) rfl (fun v hv => by cases hv; rfl) (Nat.le_of_ble_eq_true rfl) (by decide +kernel) rfl ?_
    refine sl_ok ok_R_lineAt [.aload_n 0, .iload 5, .iload_n 1, .iload_n 2] (pc1 := 40) (ls1 := [some (.ref 79), some (.int x1), some (.int x2), some (.int x3), some (.int x4), some (.int x5), some (.int x6), some (.int x7), none]) (st1 := [.int x2, .int x1, .int x5, .ref 79, .int v_3]) (h1 := h) (P := True) (by decide +kernel) rfl trivial ?_
    obtain ⟨v_5, e_6, e⟩ := bi_s e
    refine q_callV ok_R_valueAt (as := [.int x5, .int x1, .int x2]) (st := [.int v_3]) ⟨wd_417, wd_418, wd_419, wd_7, ds_R_valueAt, Nat.le_of_ble_eq_true rfl, Nat.le_of_ble_eq_true rfl⟩ (s_R_valueAt  e_6) rfl ⟨rfl, rfl⟩ (ci := 12) rfl (fun v hv => by cases hv; rfl) (Nat.le_of_ble_eq_true rfl) (by decide +kernel) rfl ?_
    refine sl_ok ok_R_lineAt [.isub, .istore 8, .iload 8] (pc1 := 48) (ls1 := [some (.ref 79), some (.int x1), some (.int x2), some (.int x3), some (.int x4), some (.int x5), some (.int x6), some (.int x7), some (.int (v_3 - v_5))]) (st1 := [.int (v_3 - v_5)]) (h1 := h) (P := True) (by decide +kernel) rfl trivial ?_
    refine q_if_lt (off := 46) (tgt := 94) (by decide +kernel) (by decide) (fun c_7 => ?_) (fun c_7 => ?_)
    · have e := it_t c_7 e
      refine sl_ok ok_R_lineAt [.iinc 6 1, .iinc 7 1] (pc1 := 100) (ls1 := [some (.ref 79), some (.int x1), some (.int x2), some (.int x3), some (.int x4), some (.int x5), some (.int (x6 + 1)), some (.int (x7 + 1)), some (.int (v_3 - v_5))]) (st1 := []) (h1 := h) (P := True) (by decide +kernel) rfl trivial ?_
      refine q_goto (off := -82) (tgt := 18) (by decide) (by decide +kernel) ?_
      cases e
      refine Go.sb [some (.ref 79), some (.int x1), some (.int x2), some (.int x3), some (.int x4), some (.int x5), some (.int (x6 + 1)), some (.int (x7 + 1)), none] (And.intro rfl (And.intro rfl (And.intro rfl (And.intro rfl (And.intro rfl (And.intro rfl (And.intro rfl (And.intro rfl trivial)))))))) ?_
      exact k
    · have e := it_f c_7 e
      refine sl_ok ok_R_lineAt [.iload 8] (pc1 := 53) (ls1 := [some (.ref 79), some (.int x1), some (.int x2), some (.int x3), some (.int x4), some (.int x5), some (.int x6), some (.int x7), some (.int (v_3 - v_5))]) (st1 := [.int (v_3 - v_5)]) (h1 := h) (P := True) (by decide +kernel) rfl trivial ?_
      refine q_if_ne (off := 44) (tgt := 97) (by decide +kernel) (by decide) (fun c_8 => ?_) (fun c_8 => ?_)
      · have e := it_f c_8 e
        refine sl_ok ok_R_lineAt [.iinc 7 1] (pc1 := 100) (ls1 := [some (.ref 79), some (.int x1), some (.int x2), some (.int x3), some (.int x4), some (.int x5), some (.int x6), some (.int (x7 + 1)), some (.int (v_3 - v_5))]) (st1 := []) (h1 := h) (P := True) (by decide +kernel) rfl trivial ?_
        refine q_goto (off := -82) (tgt := 18) (by decide) (by decide +kernel) ?_
        cases e
        refine Go.sb [some (.ref 79), some (.int x1), some (.int x2), some (.int x3), some (.int x4), some (.int x5), some (.int x6), some (.int (x7 + 1)), none] (And.intro rfl (And.intro rfl (And.intro rfl (And.intro rfl (And.intro rfl (And.intro rfl (And.intro rfl (And.intro rfl trivial)))))))) ?_
        exact k
      · have e := it_t c_8 e
        refine sl_ok ok_R_lineAt [.iload 4] (pc1 := 58) (ls1 := [some (.ref 79), some (.int x1), some (.int x2), some (.int x3), some (.int x4), some (.int x5), some (.int x6), some (.int x7), some (.int (v_3 - v_5))]) (st1 := [.int x4]) (h1 := h) (P := True) (by decide +kernel) rfl trivial ?_
        refine q_if_eq (off := 21) (tgt := 79) (by decide +kernel) (by decide) (fun c_9 => ?_) (fun c_9 => ?_)
        · have e := it_t c_9 e
          refine sl_ok ok_R_lineAt [.aload_n 0, .iload 7] (pc1 := 82) (ls1 := [some (.ref 79), some (.int x1), some (.int x2), some (.int x3), some (.int x4), some (.int x5), some (.int x6), some (.int x7), some (.int (v_3 - v_5))]) (st1 := [.int x7, .ref 79]) (h1 := h) (P := True) (by decide +kernel) rfl trivial ?_
          obtain ⟨v_10, e_11, e⟩ := bi_s e
          refine q_callV ok_R_x (as := [.int x7]) (st := []) ⟨wd_154, wd_155, wd_156, wd_7, ds_R_x, Nat.le_of_ble_eq_true rfl, Nat.le_of_ble_eq_true rfl⟩ (s_R_x  e_11) rfl ⟨rfl, rfl⟩ (ci := 12) rfl (fun v hv => by cases hv; rfl) (Nat.le_of_ble_eq_true rfl) (by decide +kernel) rfl ?_
          refine sl_ok ok_R_lineAt [.aload_n 0, .iload 5] (pc1 := 88) (ls1 := [some (.ref 79), some (.int x1), some (.int x2), some (.int x3), some (.int x4), some (.int x5), some (.int x6), some (.int x7), some (.int (v_3 - v_5))]) (st1 := [.int x5, .ref 79, .int v_10]) (h1 := h) (P := True) (by decide +kernel) rfl trivial ?_
          obtain ⟨v_12, e_13, e⟩ := bi_s e
          refine q_callV ok_R_x (as := [.int x5]) (st := [.int v_10]) ⟨wd_154, wd_155, wd_156, wd_7, ds_R_x, Nat.le_of_ble_eq_true rfl, Nat.le_of_ble_eq_true rfl⟩ (s_R_x  e_13) rfl ⟨rfl, rfl⟩ (ci := 12) rfl (fun v hv => by cases hv; rfl) (Nat.le_of_ble_eq_true rfl) (by decide +kernel) rfl ?_
          refine q_icmp_ge (off := 6) (tgt := 97) (by decide +kernel) (by decide) (fun c_14 => ?_) (fun c_14 => ?_)
          · have e := it_t c_14 e
            refine sl_ok ok_R_lineAt [.iinc 7 1] (pc1 := 100) (ls1 := [some (.ref 79), some (.int x1), some (.int x2), some (.int x3), some (.int x4), some (.int x5), some (.int x6), some (.int (x7 + 1)), some (.int (v_3 - v_5))]) (st1 := []) (h1 := h) (P := True) (by decide +kernel) rfl trivial ?_
            refine q_goto (off := -82) (tgt := 18) (by decide) (by decide +kernel) ?_
            cases e
            refine Go.sb [some (.ref 79), some (.int x1), some (.int x2), some (.int x3), some (.int x4), some (.int x5), some (.int x6), some (.int (x7 + 1)), none] (And.intro rfl (And.intro rfl (And.intro rfl (And.intro rfl (And.intro rfl (And.intro rfl (And.intro rfl (And.intro rfl trivial)))))))) ?_
            exact k
          · have e := it_f c_14 e
            refine sl_ok ok_R_lineAt [.iinc 6 1, .iinc 7 1] (pc1 := 100) (ls1 := [some (.ref 79), some (.int x1), some (.int x2), some (.int x3), some (.int x4), some (.int x5), some (.int (x6 + 1)), some (.int (x7 + 1)), some (.int (v_3 - v_5))]) (st1 := []) (h1 := h) (P := True) (by decide +kernel) rfl trivial ?_
            refine q_goto (off := -82) (tgt := 18) (by decide) (by decide +kernel) ?_
            cases e
            refine Go.sb [some (.ref 79), some (.int x1), some (.int x2), some (.int x3), some (.int x4), some (.int x5), some (.int (x6 + 1)), some (.int (x7 + 1)), none] (And.intro rfl (And.intro rfl (And.intro rfl (And.intro rfl (And.intro rfl (And.intro rfl (And.intro rfl (And.intro rfl trivial)))))))) ?_
            exact k
        · have e := it_f c_9 e
          refine sl_ok ok_R_lineAt [.aload_n 0, .iload 7] (pc1 := 64) (ls1 := [some (.ref 79), some (.int x1), some (.int x2), some (.int x3), some (.int x4), some (.int x5), some (.int x6), some (.int x7), some (.int (v_3 - v_5))]) (st1 := [.int x7, .ref 79]) (h1 := h) (P := True) (by decide +kernel) rfl trivial ?_
          obtain ⟨v_15, e_16, e⟩ := bi_s e
          refine q_callV ok_R_x (as := [.int x7]) (st := []) ⟨wd_154, wd_155, wd_156, wd_7, ds_R_x, Nat.le_of_ble_eq_true rfl, Nat.le_of_ble_eq_true rfl⟩ (s_R_x  e_16) rfl ⟨rfl, rfl⟩ (ci := 12) rfl (fun v hv => by cases hv; rfl) (Nat.le_of_ble_eq_true rfl) (by decide +kernel) rfl ?_
          refine sl_ok ok_R_lineAt [.aload_n 0, .iload 5] (pc1 := 70) (ls1 := [some (.ref 79), some (.int x1), some (.int x2), some (.int x3), some (.int x4), some (.int x5), some (.int x6), some (.int x7), some (.int (v_3 - v_5))]) (st1 := [.int x5, .ref 79, .int v_15]) (h1 := h) (P := True) (by decide +kernel) rfl trivial ?_
          obtain ⟨v_17, e_18, e⟩ := bi_s e
          refine q_callV ok_R_x (as := [.int x5]) (st := [.int v_15]) ⟨wd_154, wd_155, wd_156, wd_7, ds_R_x, Nat.le_of_ble_eq_true rfl, Nat.le_of_ble_eq_true rfl⟩ (s_R_x  e_18) rfl ⟨rfl, rfl⟩ (ci := 12) rfl (fun v hv => by cases hv; rfl) (Nat.le_of_ble_eq_true rfl) (by decide +kernel) rfl ?_
          refine q_icmp_le (off := 24) (tgt := 97) (by decide +kernel) (by decide) (fun c_19 => ?_) (fun c_19 => ?_)
          · have e := it_t c_19 e
            refine sl_ok ok_R_lineAt [.iinc 7 1] (pc1 := 100) (ls1 := [some (.ref 79), some (.int x1), some (.int x2), some (.int x3), some (.int x4), some (.int x5), some (.int x6), some (.int (x7 + 1)), some (.int (v_3 - v_5))]) (st1 := []) (h1 := h) (P := True) (by decide +kernel) rfl trivial ?_
            refine q_goto (off := -82) (tgt := 18) (by decide) (by decide +kernel) ?_
            cases e
            refine Go.sb [some (.ref 79), some (.int x1), some (.int x2), some (.int x3), some (.int x4), some (.int x5), some (.int x6), some (.int (x7 + 1)), none] (And.intro rfl (And.intro rfl (And.intro rfl (And.intro rfl (And.intro rfl (And.intro rfl (And.intro rfl (And.intro rfl trivial)))))))) ?_
            exact k
          · have e := it_f c_19 e
            refine q_goto (off := 18) (tgt := 94) (by decide) (by decide +kernel) ?_
            refine sl_ok ok_R_lineAt [.iinc 6 1, .iinc 7 1] (pc1 := 100) (ls1 := [some (.ref 79), some (.int x1), some (.int x2), some (.int x3), some (.int x4), some (.int x5), some (.int (x6 + 1)), some (.int (x7 + 1)), some (.int (v_3 - v_5))]) (st1 := []) (h1 := h) (P := True) (by decide +kernel) rfl trivial ?_
            refine q_goto (off := -82) (tgt := 18) (by decide) (by decide +kernel) ?_
            cases e
            refine Go.sb [some (.ref 79), some (.int x1), some (.int x2), some (.int x3), some (.int x4), some (.int x5), some (.int (x6 + 1)), some (.int (x7 + 1)), none] (And.intro rfl (And.intro rfl (And.intro rfl (And.intro rfl (And.intro rfl (And.intro rfl (And.intro rfl (And.intro rfl trivial)))))))) ?_
            exact k
def f_R_lineAt_L1 (x1 : Int32) (x2 : Int32) (x3 : Int32) (x4 : Int32) (h : pH) (x5 : Int32) : Option (Int32 ⊕ Int32) :=
  if (f_R_all h) ≤ x5 then
    some (.inr (-1))
  else
    lp (fun s => f_R_lineAt_L2 x1 x2 x3 x4 x5 h s.1 s.2) lpN (0, 0)
set_option maxHeartbeats 4000000 in
theorem b_R_lineAt_L1 {E : pE} {r : Option Value} {hr : pH} {x1 : Int32} {x2 : Int32} {x3 : Int32} {x4 : Int32} {h : pH} {x5 : Int32}  {b : (Int32 ⊕ Int32)} (e : f_R_lineAt_L1 x1 x2 x3 x4 h x5 = some b) (k : (Sum.elim (fun s : Int32 => Go E M_R_lineAt 3 [some (.ref 79), some (.int x1), some (.int x2), some (.int x3), some (.int x4), some (.int s), none, none, none] [] h r hr) (fun v : Int32 => r = some (.int v) ∧ hr = h)) b) : Go E M_R_lineAt 3 [some (.ref 79), some (.int x1), some (.int x2), some (.int x3), some (.int x4), some (.int x5), none, none, none] [] h r hr := by
  unfold f_R_lineAt_L1 at e
  refine sl_ok ok_R_lineAt [.iload 5, .aload_n 0] (pc1 := 6) (ls1 := [some (.ref 79), some (.int x1), some (.int x2), some (.int x3), some (.int x4), some (.int x5), none, none, none]) (st1 := [.ref 79, .int x5]) (h1 := h) (P := True) (by decide +kernel) rfl trivial ?_
  refine q_callV ok_R_all (as := []) (st := [.int x5]) ⟨wd_151, wd_152, wd_153, wd_7, ds_R_all, Nat.le_of_ble_eq_true rfl, Nat.le_of_ble_eq_true rfl⟩ (s_R_all ) rfl ⟨rfl, rfl⟩ (ci := 12) rfl (fun v hv => by cases hv; rfl) (Nat.le_of_ble_eq_true rfl) (by decide +kernel) rfl ?_
  refine q_icmp_ge (off := 109) (tgt := 118) (by decide +kernel) (by decide) (fun c_1 => ?_) (fun c_1 => ?_)
  · have e := it_t c_1 e
    refine sl_ok ok_R_lineAt [.iconst (-1)] (pc1 := 119) (ls1 := [some (.ref 79), some (.int x1), some (.int x2), some (.int x3), some (.int x4), some (.int x5), none, none, none]) (st1 := [.int (-1)]) (h1 := h) (P := True) (by decide +kernel) rfl trivial ?_
    cases e
    exact q_iret rfl k.1 k.2 (by decide +kernel)
  · have e := it_f c_1 e
    refine sl_ok ok_R_lineAt [.iconst 0, .istore 6, .iconst 0, .istore 7] (pc1 := 18) (ls1 := [some (.ref 79), some (.int x1), some (.int x2), some (.int x3), some (.int x4), some (.int x5), some (.int 0), some (.int 0), none]) (st1 := []) (h1 := h) (P := True) (by decide +kernel) rfl trivial ?_
    exact lp_in e (fun s => Go E M_R_lineAt 18 [some (.ref 79), some (.int x1), some (.int x2), some (.int x3), some (.int x4), some (.int x5), some (.int s.1), some (.int s.2), none] [] h r hr) (Sum.elim (fun s : Int32 => Go E M_R_lineAt 3 [some (.ref 79), some (.int x1), some (.int x2), some (.int x3), some (.int x4), some (.int s), none, none, none] [] h r hr) (fun v : Int32 => r = some (.int v) ∧ hr = h)) (fun _ _ e k => b_R_lineAt_L2  e k) k
def f_R_lineAt (x1 : Int32) (x2 : Int32) (x3 : Int32) (x4 : Int32) (h : pH) : Option Int32 :=
  lp (fun s => f_R_lineAt_L1 x1 x2 x3 x4 h s) lpN 0
set_option maxHeartbeats 4000000 in
theorem b_R_lineAt {E : pE} {r : Option Value} {hr : pH} {x1 : Int32} {x2 : Int32} {x3 : Int32} {x4 : Int32} {h : pH}  {b : Int32} (e : f_R_lineAt x1 x2 x3 x4 h = some b) (k : (fun v : Int32 => r = some (.int v) ∧ hr = h) b) : Go E M_R_lineAt 0 [some (.ref 79), some (.int x1), some (.int x2), some (.int x3), some (.int x4), none, none, none, none] [] h r hr := by
  unfold f_R_lineAt at e
  refine sl_ok ok_R_lineAt [.iconst 0, .istore 5] (pc1 := 3) (ls1 := [some (.ref 79), some (.int x1), some (.int x2), some (.int x3), some (.int x4), some (.int 0), none, none, none]) (st1 := []) (h1 := h) (P := True) (by decide +kernel) rfl trivial ?_
  exact lp_in e (fun s => Go E M_R_lineAt 3 [some (.ref 79), some (.int x1), some (.int x2), some (.int x3), some (.int x4), some (.int s), none, none, none] [] h r hr) (fun v : Int32 => r = some (.int v) ∧ hr = h) (fun _ _ e k => b_R_lineAt_L1  e k) k
theorem s_R_lineAt {E : pE} {x1 : Int32} {x2 : Int32} {x3 : Int32} {x4 : Int32} {h : pH}  {v : Int32} (e : f_R_lineAt x1 x2 x3 x4 h = some v) : Ct E M_R_lineAt [.ref 79, .int x1, .int x2, .int x3, .int x4] h (some (.int v)) h :=
  Ct_of ok_R_lineAt [some (.ref 79), some (.int x1), some (.int x2), some (.int x3), some (.int x4), none, none, none, none] (Nat.le_of_ble_eq_true rfl) rfl (b_R_lineAt  e ⟨rfl, rfl⟩)
def f_R_order (x1 : Int32) (x2 : Int32) (h : pH) : Option Int32 :=
  if (f_R_in x1 ((-1000) : Int32) (1000 : Int32)) = 0 then
    some (-1)
  else
    if (f_R_in x2 (0 : Int32) ((f_R_all h) - 1)) = 0 then
      some (-1)
    else
      (f_R_lineAt x1 (1 : Int32) x2 (0 : Int32) h).bind fun v_3 =>
      some v_3
set_option maxHeartbeats 4000000 in
theorem b_R_order {E : pE} {r : Option Value} {hr : pH} {x1 : Int32} {x2 : Int32} {h : pH}  {b : Int32} (e : f_R_order x1 x2 h = some b) (k : (fun v : Int32 => r = some (.int v) ∧ hr = h) b) : Go E M_R_order 0 [some (.ref 79), some (.int x1), some (.int x2)] [] h r hr := by
  unfold f_R_order at e
  refine sl_ok ok_R_order [.iload_n 1, .sipush (-1000), .sipush 1000] (pc1 := 7) (ls1 := [some (.ref 79), some (.int x1), some (.int x2)]) (st1 := [.int 1000, .int (-1000), .int x1]) (h1 := h) (P := True) (by decide +kernel) rfl trivial ?_
  refine q_callS ok_R_in (as := [.int x1, .int (-1000), .int 1000]) (st := []) ⟨wd_127, wd_128, wd_7, ds_R_in, Nat.le_of_ble_eq_true rfl, Nat.le_of_ble_eq_true rfl⟩ (s_R_in ) rfl (fun v hv => by cases hv; rfl) (Nat.le_of_ble_eq_true rfl) (by decide +kernel) rfl ?_
  refine q_if_eq (off := 28) (tgt := 38) (by decide +kernel) (by decide) (fun c_1 => ?_) (fun c_1 => ?_)
  · have e := it_t c_1 e
    refine sl_ok ok_R_order [.iconst (-1)] (pc1 := 39) (ls1 := [some (.ref 79), some (.int x1), some (.int x2)]) (st1 := [.int (-1)]) (h1 := h) (P := True) (by decide +kernel) rfl trivial ?_
    cases e
    exact q_iret rfl k.1 k.2 (by decide +kernel)
  · have e := it_f c_1 e
    refine sl_ok ok_R_order [.iload_n 2, .iconst 0, .aload_n 0] (pc1 := 16) (ls1 := [some (.ref 79), some (.int x1), some (.int x2)]) (st1 := [.ref 79, .int 0, .int x2]) (h1 := h) (P := True) (by decide +kernel) rfl trivial ?_
    refine q_callV ok_R_all (as := []) (st := [.int 0, .int x2]) ⟨wd_151, wd_152, wd_153, wd_7, ds_R_all, Nat.le_of_ble_eq_true rfl, Nat.le_of_ble_eq_true rfl⟩ (s_R_all ) rfl ⟨rfl, rfl⟩ (ci := 12) rfl (fun v hv => by cases hv; rfl) (Nat.le_of_ble_eq_true rfl) (by decide +kernel) rfl ?_
    refine sl_ok ok_R_order [.iconst 1, .isub] (pc1 := 21) (ls1 := [some (.ref 79), some (.int x1), some (.int x2)]) (st1 := [.int ((f_R_all h) - 1), .int 0, .int x2]) (h1 := h) (P := True) (by decide +kernel) rfl trivial ?_
    refine q_callS ok_R_in (as := [.int x2, .int 0, .int ((f_R_all h) - 1)]) (st := []) ⟨wd_127, wd_128, wd_7, ds_R_in, Nat.le_of_ble_eq_true rfl, Nat.le_of_ble_eq_true rfl⟩ (s_R_in ) rfl (fun v hv => by cases hv; rfl) (Nat.le_of_ble_eq_true rfl) (by decide +kernel) rfl ?_
    refine q_if_eq (off := 14) (tgt := 38) (by decide +kernel) (by decide) (fun c_2 => ?_) (fun c_2 => ?_)
    · have e := it_t c_2 e
      refine sl_ok ok_R_order [.iconst (-1)] (pc1 := 39) (ls1 := [some (.ref 79), some (.int x1), some (.int x2)]) (st1 := [.int (-1)]) (h1 := h) (P := True) (by decide +kernel) rfl trivial ?_
      cases e
      exact q_iret rfl k.1 k.2 (by decide +kernel)
    · have e := it_f c_2 e
      refine sl_ok ok_R_order [.aload_n 0, .iload_n 1, .iconst 1, .iload_n 2, .iconst 0] (pc1 := 32) (ls1 := [some (.ref 79), some (.int x1), some (.int x2)]) (st1 := [.int 0, .int x2, .int 1, .int x1, .ref 79]) (h1 := h) (P := True) (by decide +kernel) rfl trivial ?_
      obtain ⟨v_3, e_4, e⟩ := bi_s e
      refine q_callV ok_R_lineAt (as := [.int x1, .int 1, .int x2, .int 0]) (st := []) ⟨wd_420, wd_421, wd_422, wd_7, ds_R_lineAt, Nat.le_of_ble_eq_true rfl, Nat.le_of_ble_eq_true rfl⟩ (s_R_lineAt  e_4) rfl ⟨rfl, rfl⟩ (ci := 12) rfl (fun v hv => by cases hv; rfl) (Nat.le_of_ble_eq_true rfl) (by decide +kernel) rfl ?_
      refine q_goto (off := 4) (tgt := 39) (by decide) (by decide +kernel) ?_
      cases e
      exact q_iret rfl k.1 k.2 (by decide +kernel)
theorem s_R_order {E : pE} {x1 : Int32} {x2 : Int32} {h : pH}  {v : Int32} (e : f_R_order x1 x2 h = some v) : Ct E M_R_order [.ref 79, .int x1, .int x2] h (some (.int v)) h :=
  Ct_of ok_R_order [some (.ref 79), some (.int x1), some (.int x2)] (Nat.le_of_ble_eq_true rfl) rfl (b_R_order  e ⟨rfl, rfl⟩)
def f_Lines_lesser (x1 : Int32) (h : pH) : Option Int32 :=
  if x1 < 0 then
    some 0
  else
    if (hI h 24 1) ≤ x1 then
      some 0
    else
      if x1 < 0 ∨ 66 ≤ x1.toNatClampNeg then none else
      some (jshr (hI h 25 x1.toNatClampNeg) 4)
set_option maxHeartbeats 4000000 in
theorem b_Lines_lesser {E : pE} {r : Option Value} {hr : pH} {x1 : Int32} {h : pH}  {b : Int32} (e : f_Lines_lesser x1 h = some b) (k : (fun v : Int32 => r = some (.int v) ∧ hr = h) b) : Go E M_Lines_lesser 0 [some (.ref 24), some (.int x1)] [] h r hr := by
  unfold f_Lines_lesser at e
  refine sl_ok ok_Lines_lesser [.iload_n 1] (pc1 := 1) (ls1 := [some (.ref 24), some (.int x1)]) (st1 := [.int x1]) (h1 := h) (P := True) (by decide +kernel) rfl trivial ?_
  refine q_if_lt (off := 22) (tgt := 23) (by decide +kernel) (by decide) (fun c_1 => ?_) (fun c_1 => ?_)
  · have e := it_t c_1 e
    refine sl_ok ok_Lines_lesser [.iconst 0] (pc1 := 24) (ls1 := [some (.ref 24), some (.int x1)]) (st1 := [.int 0]) (h1 := h) (P := True) (by decide +kernel) rfl trivial ?_
    cases e
    exact q_iret rfl k.1 k.2 (by decide +kernel)
  · have e := it_f c_1 e
    refine sl_ok ok_Lines_lesser [.iload_n 1, .aload_n 0, .getfield 31] (pc1 := 9) (ls1 := [some (.ref 24), some (.int x1)]) (st1 := [.int (hI h 24 1), .int x1]) (h1 := h) (P := (ak 24 = 0 ∧ cx 24 = 5) ∧ True) (by decide +kernel) rfl ⟨⟨rfl, rfl⟩, trivial⟩ ?_
    refine q_icmp_ge (off := 14) (tgt := 23) (by decide +kernel) (by decide) (fun c_2 => ?_) (fun c_2 => ?_)
    · have e := it_t c_2 e
      refine sl_ok ok_Lines_lesser [.iconst 0] (pc1 := 24) (ls1 := [some (.ref 24), some (.int x1)]) (st1 := [.int 0]) (h1 := h) (P := True) (by decide +kernel) rfl trivial ?_
      cases e
      exact q_iret rfl k.1 k.2 (by decide +kernel)
    · have e := it_f c_2 e
      obtain ⟨g_3, e⟩ := it_g e
      refine sl_ok ok_Lines_lesser [.aload_n 0, .getfield 9, .iload_n 1, .iaload, .iconst 4, .ishr] (pc1 := 20) (ls1 := [some (.ref 24), some (.int x1)]) (st1 := [.int (jshr (hI h 25 x1.toNatClampNeg) 4)]) (h1 := h) (P := (ak 24 = 0 ∧ cx 24 = 5) ∧ (ak 25 = 1 ∧ ¬ (x1 < 0 ∨ cx 25 ≤ x1.toNatClampNeg)) ∧ True) (by decide +kernel) rfl ⟨⟨rfl, rfl⟩, ⟨rfl, g_3⟩, trivial⟩ ?_
      refine q_goto (off := 4) (tgt := 24) (by decide) (by decide +kernel) ?_
      cases e
      exact q_iret rfl k.1 k.2 (by decide +kernel)
theorem s_Lines_lesser {E : pE} {x1 : Int32} {h : pH}  {v : Int32} (e : f_Lines_lesser x1 h = some v) : Ct E M_Lines_lesser [.ref 24, .int x1] h (some (.int v)) h :=
  Ct_of ok_Lines_lesser [some (.ref 24), some (.int x1)] (Nat.le_of_ble_eq_true rfl) rfl (b_Lines_lesser  e ⟨rfl, rfl⟩)
def f_Lines_other (x1 : Int32) (h : pH) : Option Int32 :=
  if x1 < 0 then
    some 0
  else
    if (hI h 24 1) ≤ x1 then
      some 0
    else
      if x1 < 0 ∨ 66 ≤ x1.toNatClampNeg then none else
      some ((hI h 25 x1.toNatClampNeg) &&& 15)
set_option maxHeartbeats 4000000 in
theorem b_Lines_other {E : pE} {r : Option Value} {hr : pH} {x1 : Int32} {h : pH}  {b : Int32} (e : f_Lines_other x1 h = some b) (k : (fun v : Int32 => r = some (.int v) ∧ hr = h) b) : Go E M_Lines_other 0 [some (.ref 24), some (.int x1)] [] h r hr := by
  unfold f_Lines_other at e
  refine sl_ok ok_Lines_other [.iload_n 1] (pc1 := 1) (ls1 := [some (.ref 24), some (.int x1)]) (st1 := [.int x1]) (h1 := h) (P := True) (by decide +kernel) rfl trivial ?_
  refine q_if_lt (off := 23) (tgt := 24) (by decide +kernel) (by decide) (fun c_1 => ?_) (fun c_1 => ?_)
  · have e := it_t c_1 e
    refine sl_ok ok_Lines_other [.iconst 0] (pc1 := 25) (ls1 := [some (.ref 24), some (.int x1)]) (st1 := [.int 0]) (h1 := h) (P := True) (by decide +kernel) rfl trivial ?_
    cases e
    exact q_iret rfl k.1 k.2 (by decide +kernel)
  · have e := it_f c_1 e
    refine sl_ok ok_Lines_other [.iload_n 1, .aload_n 0, .getfield 31] (pc1 := 9) (ls1 := [some (.ref 24), some (.int x1)]) (st1 := [.int (hI h 24 1), .int x1]) (h1 := h) (P := (ak 24 = 0 ∧ cx 24 = 5) ∧ True) (by decide +kernel) rfl ⟨⟨rfl, rfl⟩, trivial⟩ ?_
    refine q_icmp_ge (off := 15) (tgt := 24) (by decide +kernel) (by decide) (fun c_2 => ?_) (fun c_2 => ?_)
    · have e := it_t c_2 e
      refine sl_ok ok_Lines_other [.iconst 0] (pc1 := 25) (ls1 := [some (.ref 24), some (.int x1)]) (st1 := [.int 0]) (h1 := h) (P := True) (by decide +kernel) rfl trivial ?_
      cases e
      exact q_iret rfl k.1 k.2 (by decide +kernel)
    · have e := it_f c_2 e
      obtain ⟨g_3, e⟩ := it_g e
      refine sl_ok ok_Lines_other [.aload_n 0, .getfield 9, .iload_n 1, .iaload, .bipush 15, .iand] (pc1 := 21) (ls1 := [some (.ref 24), some (.int x1)]) (st1 := [.int ((hI h 25 x1.toNatClampNeg) &&& 15)]) (h1 := h) (P := (ak 24 = 0 ∧ cx 24 = 5) ∧ (ak 25 = 1 ∧ ¬ (x1 < 0 ∨ cx 25 ≤ x1.toNatClampNeg)) ∧ True) (by decide +kernel) rfl ⟨⟨rfl, rfl⟩, ⟨rfl, g_3⟩, trivial⟩ ?_
      refine q_goto (off := 4) (tgt := 25) (by decide) (by decide +kernel) ?_
      cases e
      exact q_iret rfl k.1 k.2 (by decide +kernel)
theorem s_Lines_other {E : pE} {x1 : Int32} {h : pH}  {v : Int32} (e : f_Lines_other x1 h = some v) : Ct E M_Lines_other [.ref 24, .int x1] h (some (.int v)) h :=
  Ct_of ok_Lines_other [some (.ref 24), some (.int x1)] (Nat.le_of_ble_eq_true rfl) rfl (b_Lines_other  e ⟨rfl, rfl⟩)
def f_Lines_over (o1 : Nat) (x2 : Int32) (h : pH) : Option Int32 :=
  (f_Lines_lesser x2 h).bind fun v_1 =>
  if v_1 < 0 ∨ 12 ≤ v_1.toNatClampNeg then none else
  (f_Lines_other x2 h).bind fun v_4 =>
  if v_4 < 0 ∨ 12 ≤ v_4.toNatClampNeg then none else
  (f_Lines_lesser x2 h).bind fun v_7 =>
  if v_7 < 0 ∨ 12 ≤ v_7.toNatClampNeg then none else
  (f_Lines_other x2 h).bind fun v_10 =>
  if v_10 < 0 ∨ 12 ≤ v_10.toNatClampNeg then none else
  if (hI h (rf o1 0) v_10.toNatClampNeg) ≤ (hI h (rf o1 0) v_7.toNatClampNeg) then
    some ((hI h (rf o1 1) v_1.toNatClampNeg) - (hI h (rf o1 1) v_4.toNatClampNeg))
  else
    some (-((hI h (rf o1 1) v_1.toNatClampNeg) - (hI h (rf o1 1) v_4.toNatClampNeg)))
set_option maxHeartbeats 4000000 in
theorem b_Lines_over {E : pE} {r : Option Value} {hr : pH} {o1 : Nat} {x2 : Int32} {h : pH} (ho1 : ak o1 = 0 ∧ cx o1 = 0) {b : Int32} (e : f_Lines_over o1 x2 h = some b) (k : (fun v : Int32 => r = some (.int v) ∧ hr = h) b) : Go E M_Lines_over 0 [some (.ref 24), some (.ref o1), some (.int x2), none] [] h r hr := by
  unfold f_Lines_over at e
  refine sl_ok ok_Lines_over [.aload_n 1, .getfield 28, .aload_n 0, .iload_n 2] (pc1 := 6) (ls1 := [some (.ref 24), some (.ref o1), some (.int x2), none]) (st1 := [.int x2, .ref 24, .ref (rf o1 1)]) (h1 := h) (P := (ak o1 = 0 ∧ cx o1 = 0) ∧ True) (by decide +kernel) rfl ⟨ho1, trivial⟩ ?_
  obtain ⟨v_1, e_2, e⟩ := bi_s e
  refine q_callV ok_Lines_lesser (as := [.int x2]) (st := [.ref (rf o1 1)]) ⟨wd_423, wd_424, wd_425, wd_414, ds_Lines_lesser, Nat.le_of_ble_eq_true rfl, Nat.le_of_ble_eq_true rfl⟩ (s_Lines_lesser  e_2) rfl ⟨rfl, rfl⟩ (ci := 5) rfl (fun v hv => by cases hv; rfl) (Nat.le_of_ble_eq_true rfl) (by decide +kernel) rfl ?_
  obtain ⟨g_3, e⟩ := it_g e
  refine sl_ok ok_Lines_over [.iaload, .aload_n 1, .getfield 28, .aload_n 0, .iload_n 2] (pc1 := 16) (ls1 := [some (.ref 24), some (.ref o1), some (.int x2), none]) (st1 := [.int x2, .ref 24, .ref (rf o1 1), .int (hI h (rf o1 1) v_1.toNatClampNeg)]) (h1 := h) (P := (ak (rf o1 1) = 1 ∧ ¬ (v_1 < 0 ∨ cx (rf o1 1) ≤ v_1.toNatClampNeg)) ∧ (ak o1 = 0 ∧ cx o1 = 0) ∧ True) (by decide +kernel) rfl ⟨⟨(st_0_1 ho1).1, (by rw [(st_0_1 ho1).2]; exact g_3)⟩, ho1, trivial⟩ ?_
  obtain ⟨v_4, e_5, e⟩ := bi_s e
  refine q_callV ok_Lines_other (as := [.int x2]) (st := [.ref (rf o1 1), .int (hI h (rf o1 1) v_1.toNatClampNeg)]) ⟨wd_426, wd_427, wd_428, wd_414, ds_Lines_other, Nat.le_of_ble_eq_true rfl, Nat.le_of_ble_eq_true rfl⟩ (s_Lines_other  e_5) rfl ⟨rfl, rfl⟩ (ci := 5) rfl (fun v hv => by cases hv; rfl) (Nat.le_of_ble_eq_true rfl) (by decide +kernel) rfl ?_
  obtain ⟨g_6, e⟩ := it_g e
  refine sl_ok ok_Lines_over [.iaload, .isub, .istore_n 3, .aload_n 1, .getfield 25, .aload_n 0, .iload_n 2] (pc1 := 28) (ls1 := [some (.ref 24), some (.ref o1), some (.int x2), some (.int ((hI h (rf o1 1) v_1.toNatClampNeg) - (hI h (rf o1 1) v_4.toNatClampNeg)))]) (st1 := [.int x2, .ref 24, .ref (rf o1 0)]) (h1 := h) (P := (ak (rf o1 1) = 1 ∧ ¬ (v_4 < 0 ∨ cx (rf o1 1) ≤ v_4.toNatClampNeg)) ∧ (ak o1 = 0 ∧ cx o1 = 0) ∧ True) (by decide +kernel) rfl ⟨⟨(st_0_1 ho1).1, (by rw [(st_0_1 ho1).2]; exact g_6)⟩, ho1, trivial⟩ ?_
  obtain ⟨v_7, e_8, e⟩ := bi_s e
  refine q_callV ok_Lines_lesser (as := [.int x2]) (st := [.ref (rf o1 0)]) ⟨wd_423, wd_424, wd_425, wd_414, ds_Lines_lesser, Nat.le_of_ble_eq_true rfl, Nat.le_of_ble_eq_true rfl⟩ (s_Lines_lesser  e_8) rfl ⟨rfl, rfl⟩ (ci := 5) rfl (fun v hv => by cases hv; rfl) (Nat.le_of_ble_eq_true rfl) (by decide +kernel) rfl ?_
  obtain ⟨g_9, e⟩ := it_g e
  refine sl_ok ok_Lines_over [.iaload, .aload_n 1, .getfield 25, .aload_n 0, .iload_n 2] (pc1 := 38) (ls1 := [some (.ref 24), some (.ref o1), some (.int x2), some (.int ((hI h (rf o1 1) v_1.toNatClampNeg) - (hI h (rf o1 1) v_4.toNatClampNeg)))]) (st1 := [.int x2, .ref 24, .ref (rf o1 0), .int (hI h (rf o1 0) v_7.toNatClampNeg)]) (h1 := h) (P := (ak (rf o1 0) = 1 ∧ ¬ (v_7 < 0 ∨ cx (rf o1 0) ≤ v_7.toNatClampNeg)) ∧ (ak o1 = 0 ∧ cx o1 = 0) ∧ True) (by decide +kernel) rfl ⟨⟨(st_0_0 ho1).1, (by rw [(st_0_0 ho1).2]; exact g_9)⟩, ho1, trivial⟩ ?_
  obtain ⟨v_10, e_11, e⟩ := bi_s e
  refine q_callV ok_Lines_other (as := [.int x2]) (st := [.ref (rf o1 0), .int (hI h (rf o1 0) v_7.toNatClampNeg)]) ⟨wd_426, wd_427, wd_428, wd_414, ds_Lines_other, Nat.le_of_ble_eq_true rfl, Nat.le_of_ble_eq_true rfl⟩ (s_Lines_other  e_11) rfl ⟨rfl, rfl⟩ (ci := 5) rfl (fun v hv => by cases hv; rfl) (Nat.le_of_ble_eq_true rfl) (by decide +kernel) rfl ?_
  obtain ⟨g_12, e⟩ := it_g e
  refine sl_ok ok_Lines_over [.iaload] (pc1 := 42) (ls1 := [some (.ref 24), some (.ref o1), some (.int x2), some (.int ((hI h (rf o1 1) v_1.toNatClampNeg) - (hI h (rf o1 1) v_4.toNatClampNeg)))]) (st1 := [.int (hI h (rf o1 0) v_10.toNatClampNeg), .int (hI h (rf o1 0) v_7.toNatClampNeg)]) (h1 := h) (P := (ak (rf o1 0) = 1 ∧ ¬ (v_10 < 0 ∨ cx (rf o1 0) ≤ v_10.toNatClampNeg)) ∧ True) (by decide +kernel) rfl ⟨⟨(st_0_0 ho1).1, (by rw [(st_0_0 ho1).2]; exact g_12)⟩, trivial⟩ ?_
  refine q_icmp_ge (off := 8) (tgt := 50) (by decide +kernel) (by decide) (fun c_13 => ?_) (fun c_13 => ?_)
  · have e := it_t c_13 e
    refine sl_ok ok_Lines_over [.iload_n 3] (pc1 := 51) (ls1 := [some (.ref 24), some (.ref o1), some (.int x2), some (.int ((hI h (rf o1 1) v_1.toNatClampNeg) - (hI h (rf o1 1) v_4.toNatClampNeg)))]) (st1 := [.int ((hI h (rf o1 1) v_1.toNatClampNeg) - (hI h (rf o1 1) v_4.toNatClampNeg))]) (h1 := h) (P := True) (by decide +kernel) rfl trivial ?_
    cases e
    exact q_iret rfl k.1 k.2 (by decide +kernel)
  · have e := it_f c_13 e
    refine sl_ok ok_Lines_over [.iload_n 3, .ineg] (pc1 := 47) (ls1 := [some (.ref 24), some (.ref o1), some (.int x2), some (.int ((hI h (rf o1 1) v_1.toNatClampNeg) - (hI h (rf o1 1) v_4.toNatClampNeg)))]) (st1 := [.int (-((hI h (rf o1 1) v_1.toNatClampNeg) - (hI h (rf o1 1) v_4.toNatClampNeg)))]) (h1 := h) (P := True) (by decide +kernel) rfl trivial ?_
    refine q_goto (off := 4) (tgt := 51) (by decide) (by decide +kernel) ?_
    cases e
    exact q_iret rfl k.1 k.2 (by decide +kernel)
theorem s_Lines_over {E : pE} {o1 : Nat} {x2 : Int32} {h : pH} (ho1 : ak o1 = 0 ∧ cx o1 = 0) {v : Int32} (e : f_Lines_over o1 x2 h = some v) : Ct E M_Lines_over [.ref 24, .ref o1, .int x2] h (some (.int v)) h :=
  Ct_of ok_Lines_over [some (.ref 24), some (.ref o1), some (.int x2), none] (Nat.le_of_ble_eq_true rfl) rfl (b_Lines_over ho1 e ⟨rfl, rfl⟩)
def f_Lines_under (o1 : Nat) (x2 : Int32) (h : pH) : Option Int32 :=
  (f_Lines_lesser x2 h).bind fun v_1 =>
  if v_1 < 0 ∨ 12 ≤ v_1.toNatClampNeg then none else
  (f_Lines_other x2 h).bind fun v_4 =>
  if v_4 < 0 ∨ 12 ≤ v_4.toNatClampNeg then none else
  some (jabs ((hI h (rf o1 0) v_1.toNatClampNeg) - (hI h (rf o1 0) v_4.toNatClampNeg)))
set_option maxHeartbeats 4000000 in
theorem b_Lines_under {E : pE} {r : Option Value} {hr : pH} {o1 : Nat} {x2 : Int32} {h : pH} (ho1 : ak o1 = 0 ∧ cx o1 = 0) {b : Int32} (e : f_Lines_under o1 x2 h = some b) (k : (fun v : Int32 => r = some (.int v) ∧ hr = h) b) : Go E M_Lines_under 0 [some (.ref 24), some (.ref o1), some (.int x2)] [] h r hr := by
  unfold f_Lines_under at e
  refine sl_ok ok_Lines_under [.aload_n 1, .getfield 25, .aload_n 0, .iload_n 2] (pc1 := 6) (ls1 := [some (.ref 24), some (.ref o1), some (.int x2)]) (st1 := [.int x2, .ref 24, .ref (rf o1 0)]) (h1 := h) (P := (ak o1 = 0 ∧ cx o1 = 0) ∧ True) (by decide +kernel) rfl ⟨ho1, trivial⟩ ?_
  obtain ⟨v_1, e_2, e⟩ := bi_s e
  refine q_callV ok_Lines_lesser (as := [.int x2]) (st := [.ref (rf o1 0)]) ⟨wd_423, wd_424, wd_425, wd_414, ds_Lines_lesser, Nat.le_of_ble_eq_true rfl, Nat.le_of_ble_eq_true rfl⟩ (s_Lines_lesser  e_2) rfl ⟨rfl, rfl⟩ (ci := 5) rfl (fun v hv => by cases hv; rfl) (Nat.le_of_ble_eq_true rfl) (by decide +kernel) rfl ?_
  obtain ⟨g_3, e⟩ := it_g e
  refine sl_ok ok_Lines_under [.iaload, .aload_n 1, .getfield 25, .aload_n 0, .iload_n 2] (pc1 := 16) (ls1 := [some (.ref 24), some (.ref o1), some (.int x2)]) (st1 := [.int x2, .ref 24, .ref (rf o1 0), .int (hI h (rf o1 0) v_1.toNatClampNeg)]) (h1 := h) (P := (ak (rf o1 0) = 1 ∧ ¬ (v_1 < 0 ∨ cx (rf o1 0) ≤ v_1.toNatClampNeg)) ∧ (ak o1 = 0 ∧ cx o1 = 0) ∧ True) (by decide +kernel) rfl ⟨⟨(st_0_0 ho1).1, (by rw [(st_0_0 ho1).2]; exact g_3)⟩, ho1, trivial⟩ ?_
  obtain ⟨v_4, e_5, e⟩ := bi_s e
  refine q_callV ok_Lines_other (as := [.int x2]) (st := [.ref (rf o1 0), .int (hI h (rf o1 0) v_1.toNatClampNeg)]) ⟨wd_426, wd_427, wd_428, wd_414, ds_Lines_other, Nat.le_of_ble_eq_true rfl, Nat.le_of_ble_eq_true rfl⟩ (s_Lines_other  e_5) rfl ⟨rfl, rfl⟩ (ci := 5) rfl (fun v hv => by cases hv; rfl) (Nat.le_of_ble_eq_true rfl) (by decide +kernel) rfl ?_
  obtain ⟨g_6, e⟩ := it_g e
  refine sl_ok ok_Lines_under [.iaload, .isub] (pc1 := 21) (ls1 := [some (.ref 24), some (.ref o1), some (.int x2)]) (st1 := [.int ((hI h (rf o1 0) v_1.toNatClampNeg) - (hI h (rf o1 0) v_4.toNatClampNeg))]) (h1 := h) (P := (ak (rf o1 0) = 1 ∧ ¬ (v_4 < 0 ∨ cx (rf o1 0) ≤ v_4.toNatClampNeg)) ∧ True) (by decide +kernel) rfl ⟨⟨(st_0_0 ho1).1, (by rw [(st_0_0 ho1).2]; exact g_6)⟩, trivial⟩ ?_
  refine q_mabs wd_429 (Nat.le_of_ble_eq_true rfl) (Nat.le_of_ble_eq_true rfl) (by decide +kernel) ?_
  cases e
  exact q_iret rfl k.1 k.2 (by decide +kernel)
theorem s_Lines_under {E : pE} {o1 : Nat} {x2 : Int32} {h : pH} (ho1 : ak o1 = 0 ∧ cx o1 = 0) {v : Int32} (e : f_Lines_under o1 x2 h = some v) : Ct E M_Lines_under [.ref 24, .ref o1, .int x2] h (some (.int v)) h :=
  Ct_of ok_Lines_under [some (.ref 24), some (.ref o1), some (.int x2)] (Nat.le_of_ble_eq_true rfl) rfl (b_Lines_under ho1 e ⟨rfl, rfl⟩)
def f_J_compare (x0 : Int32) (x1 : Int32) : Int32 :=
  if x1 ≤ x0 then
    if x0 = x1 then
      0
    else
      1
  else
    (-1)
set_option maxHeartbeats 4000000 in
theorem b_J_compare {E : pE} {r : Option Value} {hr : pH} {x0 : Int32} {x1 : Int32} {h : pH}  {b : Int32} (e : f_J_compare x0 x1 = b) (k : (fun v : Int32 => r = some (.int v) ∧ hr = h) b) : Go E M_J_compare 0 [some (.int x0), some (.int x1)] [] h r hr := by
  unfold f_J_compare at e
  refine sl_ok ok_J_compare [.iload_n 0, .iload_n 1] (pc1 := 2) (ls1 := [some (.int x0), some (.int x1)]) (st1 := [.int x1, .int x0]) (h1 := h) (P := True) (by decide +kernel) rfl trivial ?_
  refine q_icmp_ge (off := 7) (tgt := 9) (by decide +kernel) (by decide) (fun c_1 => ?_) (fun c_1 => ?_)
  · have e := it_t c_1 e
    refine sl_ok ok_J_compare [.iload_n 0, .iload_n 1] (pc1 := 11) (ls1 := [some (.int x0), some (.int x1)]) (st1 := [.int x1, .int x0]) (h1 := h) (P := True) (by decide +kernel) rfl trivial ?_
    refine q_icmp_ne (off := 7) (tgt := 18) (by decide +kernel) (by decide) (fun c_2 => ?_) (fun c_2 => ?_)
    · have e := it_f c_2 e
      refine sl_ok ok_J_compare [.iconst 1] (pc1 := 19) (ls1 := [some (.int x0), some (.int x1)]) (st1 := [.int 1]) (h1 := h) (P := True) (by decide +kernel) rfl trivial ?_
      cases e
      exact q_iret rfl k.1 k.2 (by decide +kernel)
    · have e := it_t c_2 e
      refine sl_ok ok_J_compare [.iconst 0] (pc1 := 15) (ls1 := [some (.int x0), some (.int x1)]) (st1 := [.int 0]) (h1 := h) (P := True) (by decide +kernel) rfl trivial ?_
      refine q_goto (off := 4) (tgt := 19) (by decide) (by decide +kernel) ?_
      cases e
      exact q_iret rfl k.1 k.2 (by decide +kernel)
  · have e := it_f c_1 e
    refine sl_ok ok_J_compare [.iconst (-1)] (pc1 := 6) (ls1 := [some (.int x0), some (.int x1)]) (st1 := [.int (-1)]) (h1 := h) (P := True) (by decide +kernel) rfl trivial ?_
    refine q_goto (off := 13) (tgt := 19) (by decide) (by decide +kernel) ?_
    cases e
    exact q_iret rfl k.1 k.2 (by decide +kernel)
theorem s_J_compare {E : pE} {x0 : Int32} {x1 : Int32} {h : pH}  : Ct E M_J_compare [.int x0, .int x1] h (some (.int (f_J_compare x0 x1))) h :=
  Ct_of ok_J_compare [some (.int x0), some (.int x1)] (Nat.le_of_ble_eq_true rfl) rfl (b_J_compare  rfl ⟨rfl, rfl⟩)
def f_Lines_compareX (o1 : Nat) (x2 : Int32) (x3 : Int32) (h : pH) : Option Int32 :=
  (f_Lines_over o1 x2 h).bind fun v_1 =>
  (f_Lines_under o1 x3 h).bind fun v_3 =>
  (f_Lines_over o1 x3 h).bind fun v_5 =>
  (f_Lines_under o1 x2 h).bind fun v_7 =>
  some (f_J_compare (v_1 * v_3) (v_5 * v_7))
set_option maxHeartbeats 4000000 in
theorem b_Lines_compareX {E : pE} {r : Option Value} {hr : pH} {o1 : Nat} {x2 : Int32} {x3 : Int32} {h : pH} (ho1 : ak o1 = 0 ∧ cx o1 = 0) {b : Int32} (e : f_Lines_compareX o1 x2 x3 h = some b) (k : (fun v : Int32 => r = some (.int v) ∧ hr = h) b) : Go E M_Lines_compareX 0 [some (.ref 24), some (.ref o1), some (.int x2), some (.int x3)] [] h r hr := by
  unfold f_Lines_compareX at e
  refine sl_ok ok_Lines_compareX [.aload_n 0, .aload_n 1, .iload_n 2] (pc1 := 3) (ls1 := [some (.ref 24), some (.ref o1), some (.int x2), some (.int x3)]) (st1 := [.int x2, .ref o1, .ref 24]) (h1 := h) (P := True) (by decide +kernel) rfl trivial ?_
  obtain ⟨v_1, e_2, e⟩ := bi_s e
  refine q_callV ok_Lines_over (as := [.ref o1, .int x2]) (st := []) ⟨wd_430, wd_431, wd_432, wd_414, ds_Lines_over, Nat.le_of_ble_eq_true rfl, Nat.le_of_ble_eq_true rfl⟩ (s_Lines_over ho1 e_2) rfl ⟨rfl, rfl⟩ (ci := 5) rfl (fun v hv => by cases hv; rfl) (Nat.le_of_ble_eq_true rfl) (by decide +kernel) rfl ?_
  refine sl_ok ok_Lines_compareX [.aload_n 0, .aload_n 1, .iload_n 3] (pc1 := 9) (ls1 := [some (.ref 24), some (.ref o1), some (.int x2), some (.int x3)]) (st1 := [.int x3, .ref o1, .ref 24, .int v_1]) (h1 := h) (P := True) (by decide +kernel) rfl trivial ?_
  obtain ⟨v_3, e_4, e⟩ := bi_s e
  refine q_callV ok_Lines_under (as := [.ref o1, .int x3]) (st := [.int v_1]) ⟨wd_433, wd_434, wd_435, wd_414, ds_Lines_under, Nat.le_of_ble_eq_true rfl, Nat.le_of_ble_eq_true rfl⟩ (s_Lines_under ho1 e_4) rfl ⟨rfl, rfl⟩ (ci := 5) rfl (fun v hv => by cases hv; rfl) (Nat.le_of_ble_eq_true rfl) (by decide +kernel) rfl ?_
  refine sl_ok ok_Lines_compareX [.imul, .aload_n 0, .aload_n 1, .iload_n 3] (pc1 := 16) (ls1 := [some (.ref 24), some (.ref o1), some (.int x2), some (.int x3)]) (st1 := [.int x3, .ref o1, .ref 24, .int (v_1 * v_3)]) (h1 := h) (P := True) (by decide +kernel) rfl trivial ?_
  obtain ⟨v_5, e_6, e⟩ := bi_s e
  refine q_callV ok_Lines_over (as := [.ref o1, .int x3]) (st := [.int (v_1 * v_3)]) ⟨wd_430, wd_431, wd_432, wd_414, ds_Lines_over, Nat.le_of_ble_eq_true rfl, Nat.le_of_ble_eq_true rfl⟩ (s_Lines_over ho1 e_6) rfl ⟨rfl, rfl⟩ (ci := 5) rfl (fun v hv => by cases hv; rfl) (Nat.le_of_ble_eq_true rfl) (by decide +kernel) rfl ?_
  refine sl_ok ok_Lines_compareX [.aload_n 0, .aload_n 1, .iload_n 2] (pc1 := 22) (ls1 := [some (.ref 24), some (.ref o1), some (.int x2), some (.int x3)]) (st1 := [.int x2, .ref o1, .ref 24, .int v_5, .int (v_1 * v_3)]) (h1 := h) (P := True) (by decide +kernel) rfl trivial ?_
  obtain ⟨v_7, e_8, e⟩ := bi_s e
  refine q_callV ok_Lines_under (as := [.ref o1, .int x2]) (st := [.int v_5, .int (v_1 * v_3)]) ⟨wd_433, wd_434, wd_435, wd_414, ds_Lines_under, Nat.le_of_ble_eq_true rfl, Nat.le_of_ble_eq_true rfl⟩ (s_Lines_under ho1 e_8) rfl ⟨rfl, rfl⟩ (ci := 5) rfl (fun v hv => by cases hv; rfl) (Nat.le_of_ble_eq_true rfl) (by decide +kernel) rfl ?_
  refine sl_ok ok_Lines_compareX [.imul] (pc1 := 26) (ls1 := [some (.ref 24), some (.ref o1), some (.int x2), some (.int x3)]) (st1 := [.int (v_5 * v_7), .int (v_1 * v_3)]) (h1 := h) (P := True) (by decide +kernel) rfl trivial ?_
  refine q_callS ok_J_compare (as := [.int (v_1 * v_3), .int (v_5 * v_7)]) (st := []) ⟨wd_436, wd_437, wd_303, ds_J_compare, Nat.le_of_ble_eq_true rfl, Nat.le_of_ble_eq_true rfl⟩ (s_J_compare ) rfl (fun v hv => by cases hv; rfl) (Nat.le_of_ble_eq_true rfl) (by decide +kernel) rfl ?_
  cases e
  exact q_iret rfl k.1 k.2 (by decide +kernel)
theorem s_Lines_compareX {E : pE} {o1 : Nat} {x2 : Int32} {x3 : Int32} {h : pH} (ho1 : ak o1 = 0 ∧ cx o1 = 0) {v : Int32} (e : f_Lines_compareX o1 x2 x3 h = some v) : Ct E M_Lines_compareX [.ref 24, .ref o1, .int x2, .int x3] h (some (.int v)) h :=
  Ct_of ok_Lines_compareX [some (.ref 24), some (.ref o1), some (.int x2), some (.int x3)] (Nat.le_of_ble_eq_true rfl) rfl (b_Lines_compareX ho1 e ⟨rfl, rfl⟩)
def f_Lines_sinkLast_L1 (o1 : Nat) (x2 : Int32) (h : pH) : Option ((Int32 × pH) ⊕ pH) :=
  if x2 ≤ 0 then
    some (.inr h)
  else
    (f_Lines_compareX o1 x2 (x2 - 1) h).bind fun v_2 =>
    if 0 ≤ v_2 then
      some (.inr h)
    else
      if x2 < 0 ∨ 66 ≤ x2.toNatClampNeg then none else
      if (x2 - 1) < 0 ∨ 66 ≤ (x2 - 1).toNatClampNeg then none else
      some (.inl ((x2 + (-1)), (sI (sI h 25 x2.toNatClampNeg (hI h 25 (x2 - 1).toNatClampNeg)) 25 (x2 - 1).toNatClampNeg (hI h 25 x2.toNatClampNeg))))
set_option maxHeartbeats 4000000 in
theorem b_Lines_sinkLast_L1 {E : pE} {r : Option Value} {hr : pH} {o1 : Nat} {x2 : Int32} {h : pH} (ho1 : ak o1 = 0 ∧ cx o1 = 0) {b : ((Int32 × pH) ⊕ pH)} (e : f_Lines_sinkLast_L1 o1 x2 h = some b) (k : (Sum.elim (fun s : (Int32 × pH) => Go E M_Lines_sinkLast 7 [some (.ref 24), some (.ref o1), some (.int s.1), none] [] s.2 r hr) (fun v : pH => r = none ∧ hr = v)) b) : Go E M_Lines_sinkLast 7 [some (.ref 24), some (.ref o1), some (.int x2), none] [] h r hr := by
  unfold f_Lines_sinkLast_L1 at e
  refine sl_ok ok_Lines_sinkLast [.iload_n 2] (pc1 := 8) (ls1 := [some (.ref 24), some (.ref o1), some (.int x2), none]) (st1 := [.int x2]) (h1 := h) (P := True) (by decide +kernel) rfl trivial ?_
  refine q_if_le (off := 51) (tgt := 59) (by decide +kernel) (by decide) (fun c_1 => ?_) (fun c_1 => ?_)
  · have e := it_t c_1 e
    cases e
    exact q_vret rfl k.1 k.2 (by decide +kernel)
  · have e := it_f c_1 e
    refine sl_ok ok_Lines_sinkLast [.aload_n 0, .aload_n 1, .iload_n 2, .iload_n 2, .iconst 1, .isub] (pc1 := 17) (ls1 := [some (.ref 24), some (.ref o1), some (.int x2), none]) (st1 := [.int (x2 - 1), .int x2, .ref o1, .ref 24]) (h1 := h) (P := True) (by decide +kernel) rfl trivial ?_
    obtain ⟨v_2, e_3, e⟩ := bi_s e
    refine q_callV ok_Lines_compareX (as := [.ref o1, .int x2, .int (x2 - 1)]) (st := []) ⟨wd_438, wd_439, wd_440, wd_414, ds_Lines_compareX, Nat.le_of_ble_eq_true rfl, Nat.le_of_ble_eq_true rfl⟩ (s_Lines_compareX ho1 e_3) rfl ⟨rfl, rfl⟩ (ci := 5) rfl (fun v hv => by cases hv; rfl) (Nat.le_of_ble_eq_true rfl) (by decide +kernel) rfl ?_
    refine q_if_ge (off := 39) (tgt := 59) (by decide +kernel) (by decide) (fun c_4 => ?_) (fun c_4 => ?_)
    · have e := it_t c_4 e
      cases e
      exact q_vret rfl k.1 k.2 (by decide +kernel)
    · have e := it_f c_4 e
      obtain ⟨g_5, e⟩ := it_g e
      obtain ⟨g_6, e⟩ := it_g e
      refine sl_ok ok_Lines_sinkLast [.aload_n 0, .getfield 9, .iload_n 2, .iaload, .istore_n 3, .aload_n 0, .getfield 9, .iload_n 2, .aload_n 0, .getfield 9, .iload_n 2, .iconst 1, .isub, .iaload, .iastore, .aload_n 0, .getfield 9, .iload_n 2, .iconst 1, .isub, .iload_n 3, .iastore, .iinc 2 (-1)] (pc1 := 56) (ls1 := [some (.ref 24), some (.ref o1), some (.int (x2 + (-1))), some (.int (hI h 25 x2.toNatClampNeg))]) (st1 := []) (h1 := (sI (sI h 25 x2.toNatClampNeg (hI h 25 (x2 - 1).toNatClampNeg)) 25 (x2 - 1).toNatClampNeg (hI h 25 x2.toNatClampNeg))) (P := (ak 24 = 0 ∧ cx 24 = 5) ∧ (ak 25 = 1 ∧ ¬ (x2 < 0 ∨ cx 25 ≤ x2.toNatClampNeg)) ∧ (ak 24 = 0 ∧ cx 24 = 5) ∧ (ak 24 = 0 ∧ cx 24 = 5) ∧ (ak 25 = 1 ∧ ¬ ((x2 - 1) < 0 ∨ cx 25 ≤ (x2 - 1).toNatClampNeg)) ∧ (ak 25 = 1 ∧ ¬ (x2 < 0 ∨ cx 25 ≤ x2.toNatClampNeg)) ∧ (ak 24 = 0 ∧ cx 24 = 5) ∧ (ak 25 = 1 ∧ ¬ ((x2 - 1) < 0 ∨ cx 25 ≤ (x2 - 1).toNatClampNeg)) ∧ True) (by decide +kernel) rfl ⟨⟨rfl, rfl⟩, ⟨rfl, g_5⟩, ⟨rfl, rfl⟩, ⟨rfl, rfl⟩, ⟨rfl, g_6⟩, ⟨rfl, g_5⟩, ⟨rfl, rfl⟩, ⟨rfl, g_6⟩, trivial⟩ ?_
      refine q_goto (off := -49) (tgt := 7) (by decide) (by decide +kernel) ?_
      cases e
      refine Go.sb [some (.ref 24), some (.ref o1), some (.int (x2 + (-1))), none] (And.intro rfl (And.intro rfl (And.intro rfl trivial))) ?_
      exact k
def f_Lines_sinkLast (o1 : Nat) (h : pH) : Option pH :=
  lp (fun s => f_Lines_sinkLast_L1 o1 s.1 s.2) lpN (((hI h 24 1) - 1), h)
set_option maxHeartbeats 4000000 in
theorem b_Lines_sinkLast {E : pE} {r : Option Value} {hr : pH} {o1 : Nat} {h : pH} (ho1 : ak o1 = 0 ∧ cx o1 = 0) {b : pH} (e : f_Lines_sinkLast o1 h = some b) (k : (fun v : pH => r = none ∧ hr = v) b) : Go E M_Lines_sinkLast 0 [some (.ref 24), some (.ref o1), none, none] [] h r hr := by
  unfold f_Lines_sinkLast at e
  refine sl_ok ok_Lines_sinkLast [.aload_n 0, .getfield 31, .iconst 1, .isub, .istore_n 2] (pc1 := 7) (ls1 := [some (.ref 24), some (.ref o1), some (.int ((hI h 24 1) - 1)), none]) (st1 := []) (h1 := h) (P := (ak 24 = 0 ∧ cx 24 = 5) ∧ True) (by decide +kernel) rfl ⟨⟨rfl, rfl⟩, trivial⟩ ?_
  exact lp_in e (fun s => Go E M_Lines_sinkLast 7 [some (.ref 24), some (.ref o1), some (.int s.1), none] [] s.2 r hr) (fun v : pH => r = none ∧ hr = v) (fun _ _ e k => b_Lines_sinkLast_L1 ho1 e k) k
theorem s_Lines_sinkLast {E : pE} {o1 : Nat} {h : pH} (ho1 : ak o1 = 0 ∧ cx o1 = 0) {v : pH} (e : f_Lines_sinkLast o1 h = some v) : Ct E M_Lines_sinkLast [.ref 24, .ref o1] h none v :=
  Ct_of ok_Lines_sinkLast [some (.ref 24), some (.ref o1), none, none] (Nat.le_of_ble_eq_true rfl) rfl (b_Lines_sinkLast ho1 e ⟨rfl, rfl⟩)
def f_Lines_cross_L2 (o1 : Nat) (x2 : Int32) (x3 : Int32) (h : pH) : Option ((Int32 × pH) ⊕ ((Int32 × pH) ⊕ pH)) :=
  if (hI h o1 2) ≤ x3 then
    some (.inr (.inl ((x2 + 1), h)))
  else
    if x2 < 0 ∨ 12 ≤ x2.toNatClampNeg then none else
    if x3 < 0 ∨ 12 ≤ x3.toNatClampNeg then none else
    if (hI h (rf o1 0) x2.toNatClampNeg) = (hI h (rf o1 0) x3.toNatClampNeg) then
      some (.inl ((x3 + 1), h))
    else
      if 66 ≤ (hI h 24 1) then
        some (.inl ((x3 + 1), h))
      else
        if (hI h 24 1) < 0 ∨ 66 ≤ (hI h 24 1).toNatClampNeg then none else
        (f_Lines_sinkLast o1 (sI (sI h 25 (hI h 24 1).toNatClampNeg ((16 * x2) + x3)) 24 1 ((hI (sI h 25 (hI h 24 1).toNatClampNeg ((16 * x2) + x3)) 24 1) + 1))).bind fun v_7 =>
        some (.inl ((x3 + 1), v_7))
set_option maxHeartbeats 4000000 in
theorem b_Lines_cross_L2 {E : pE} {r : Option Value} {hr : pH} {o1 : Nat} {x2 : Int32} {x3 : Int32} {h : pH} (ho1 : ak o1 = 0 ∧ cx o1 = 0) {b : ((Int32 × pH) ⊕ ((Int32 × pH) ⊕ pH))} (e : f_Lines_cross_L2 o1 x2 x3 h = some b) (k : (Sum.elim (fun s : (Int32 × pH) => Go E M_Lines_cross 19 [some (.ref 24), some (.ref o1), some (.int x2), some (.int s.1)] [] s.2 r hr) (Sum.elim (fun s : (Int32 × pH) => Go E M_Lines_cross 7 [some (.ref 24), some (.ref o1), some (.int s.1), none] [] s.2 r hr) (fun v : pH => r = none ∧ hr = v))) b) : Go E M_Lines_cross 19 [some (.ref 24), some (.ref o1), some (.int x2), some (.int x3)] [] h r hr := by
  unfold f_Lines_cross_L2 at e
  refine sl_ok ok_Lines_cross [.iload_n 3, .aload_n 1, .getfield 15] (pc1 := 24) (ls1 := [some (.ref 24), some (.ref o1), some (.int x2), some (.int x3)]) (st1 := [.int (hI h o1 2), .int x3]) (h1 := h) (P := (ak o1 = 0 ∧ cx o1 = 0) ∧ True) (by decide +kernel) rfl ⟨ho1, trivial⟩ ?_
  refine q_icmp_ge (off := 63) (tgt := 87) (by decide +kernel) (by decide) (fun c_1 => ?_) (fun c_1 => ?_)
  · have e := it_t c_1 e
    refine sl_ok ok_Lines_cross [.iinc 2 1] (pc1 := 90) (ls1 := [some (.ref 24), some (.ref o1), some (.int (x2 + 1)), some (.int x3)]) (st1 := []) (h1 := h) (P := True) (by decide +kernel) rfl trivial ?_
    refine q_goto (off := -83) (tgt := 7) (by decide) (by decide +kernel) ?_
    cases e
    refine Go.sb [some (.ref 24), some (.ref o1), some (.int (x2 + 1)), none] (And.intro rfl (And.intro rfl (And.intro rfl trivial))) ?_
    exact k
  · have e := it_f c_1 e
    obtain ⟨g_2, e⟩ := it_g e
    obtain ⟨g_3, e⟩ := it_g e
    refine sl_ok ok_Lines_cross [.aload_n 1, .getfield 25, .iload_n 2, .iaload, .aload_n 1, .getfield 25, .iload_n 3, .iaload] (pc1 := 39) (ls1 := [some (.ref 24), some (.ref o1), some (.int x2), some (.int x3)]) (st1 := [.int (hI h (rf o1 0) x3.toNatClampNeg), .int (hI h (rf o1 0) x2.toNatClampNeg)]) (h1 := h) (P := (ak o1 = 0 ∧ cx o1 = 0) ∧ (ak (rf o1 0) = 1 ∧ ¬ (x2 < 0 ∨ cx (rf o1 0) ≤ x2.toNatClampNeg)) ∧ (ak o1 = 0 ∧ cx o1 = 0) ∧ (ak (rf o1 0) = 1 ∧ ¬ (x3 < 0 ∨ cx (rf o1 0) ≤ x3.toNatClampNeg)) ∧ True) (by decide +kernel) rfl ⟨ho1, ⟨(st_0_0 ho1).1, (by rw [(st_0_0 ho1).2]; exact g_2)⟩, ho1, ⟨(st_0_0 ho1).1, (by rw [(st_0_0 ho1).2]; exact g_3)⟩, trivial⟩ ?_
    refine q_icmp_eq (off := 42) (tgt := 81) (by decide +kernel) (by decide) (fun c_4 => ?_) (fun c_4 => ?_)
    · have e := it_t c_4 e
      refine sl_ok ok_Lines_cross [.iinc 3 1] (pc1 := 84) (ls1 := [some (.ref 24), some (.ref o1), some (.int x2), some (.int (x3 + 1))]) (st1 := []) (h1 := h) (P := True) (by decide +kernel) rfl trivial ?_
      refine q_goto (off := -65) (tgt := 19) (by decide) (by decide +kernel) ?_
      cases e
      exact k
    · have e := it_f c_4 e
      refine sl_ok ok_Lines_cross [.aload_n 0, .getfield 31, .bipush 66] (pc1 := 48) (ls1 := [some (.ref 24), some (.ref o1), some (.int x2), some (.int x3)]) (st1 := [.int 66, .int (hI h 24 1)]) (h1 := h) (P := (ak 24 = 0 ∧ cx 24 = 5) ∧ True) (by decide +kernel) rfl ⟨⟨rfl, rfl⟩, trivial⟩ ?_
      refine q_icmp_ge (off := 33) (tgt := 81) (by decide +kernel) (by decide) (fun c_5 => ?_) (fun c_5 => ?_)
      · have e := it_t c_5 e
        refine sl_ok ok_Lines_cross [.iinc 3 1] (pc1 := 84) (ls1 := [some (.ref 24), some (.ref o1), some (.int x2), some (.int (x3 + 1))]) (st1 := []) (h1 := h) (P := True) (by decide +kernel) rfl trivial ?_
        refine q_goto (off := -65) (tgt := 19) (by decide) (by decide +kernel) ?_
        cases e
        exact k
      · have e := it_f c_5 e
        obtain ⟨g_6, e⟩ := it_g e
        refine sl_ok ok_Lines_cross [.aload_n 0, .getfield 9, .aload_n 0, .getfield 31, .bipush 16, .iload_n 2, .imul, .iload_n 3, .iadd, .iastore, .aload_n 0, .dup, .getfield 31, .iconst 1, .iadd, .putfield 31, .aload_n 0, .aload_n 1] (pc1 := 78) (ls1 := [some (.ref 24), some (.ref o1), some (.int x2), some (.int x3)]) (st1 := [.ref o1, .ref 24]) (h1 := (sI (sI h 25 (hI h 24 1).toNatClampNeg ((16 * x2) + x3)) 24 1 ((hI (sI h 25 (hI h 24 1).toNatClampNeg ((16 * x2) + x3)) 24 1) + 1))) (P := (ak 24 = 0 ∧ cx 24 = 5) ∧ (ak 24 = 0 ∧ cx 24 = 5) ∧ (ak 25 = 1 ∧ ¬ ((hI h 24 1) < 0 ∨ cx 25 ≤ (hI h 24 1).toNatClampNeg)) ∧ (ak 24 = 0 ∧ cx 24 = 5) ∧ (ak 24 = 0 ∧ cx 24 = 5) ∧ True) (by decide +kernel) rfl ⟨⟨rfl, rfl⟩, ⟨rfl, rfl⟩, ⟨rfl, g_6⟩, ⟨rfl, rfl⟩, ⟨rfl, rfl⟩, trivial⟩ ?_
        obtain ⟨v_7, e_8, e⟩ := bi_s e
        refine q_callV ok_Lines_sinkLast (as := [.ref o1]) (st := []) ⟨wd_441, wd_442, wd_443, wd_414, ds_Lines_sinkLast, Nat.le_of_ble_eq_true rfl, Nat.le_of_ble_eq_true rfl⟩ (s_Lines_sinkLast ho1 e_8) rfl ⟨rfl, rfl⟩ (ci := 5) rfl (fun v hv => by cases hv) (Nat.le_of_ble_eq_true rfl) (by decide +kernel) rfl ?_
        refine sl_ok ok_Lines_cross [.iinc 3 1] (pc1 := 84) (ls1 := [some (.ref 24), some (.ref o1), some (.int x2), some (.int (x3 + 1))]) (st1 := []) (h1 := v_7) (P := True) (by decide +kernel) rfl trivial ?_
        refine q_goto (off := -65) (tgt := 19) (by decide) (by decide +kernel) ?_
        cases e
        exact k
def f_Lines_cross_L1 (o1 : Nat) (x2 : Int32) (h : pH) : Option ((Int32 × pH) ⊕ pH) :=
  if (hI h o1 2) ≤ x2 then
    some (.inr h)
  else
    lp (fun s => f_Lines_cross_L2 o1 x2 s.1 s.2) lpN ((x2 + 1), h)
set_option maxHeartbeats 4000000 in
theorem b_Lines_cross_L1 {E : pE} {r : Option Value} {hr : pH} {o1 : Nat} {x2 : Int32} {h : pH} (ho1 : ak o1 = 0 ∧ cx o1 = 0) {b : ((Int32 × pH) ⊕ pH)} (e : f_Lines_cross_L1 o1 x2 h = some b) (k : (Sum.elim (fun s : (Int32 × pH) => Go E M_Lines_cross 7 [some (.ref 24), some (.ref o1), some (.int s.1), none] [] s.2 r hr) (fun v : pH => r = none ∧ hr = v)) b) : Go E M_Lines_cross 7 [some (.ref 24), some (.ref o1), some (.int x2), none] [] h r hr := by
  unfold f_Lines_cross_L1 at e
  refine sl_ok ok_Lines_cross [.iload_n 2, .aload_n 1, .getfield 15] (pc1 := 12) (ls1 := [some (.ref 24), some (.ref o1), some (.int x2), none]) (st1 := [.int (hI h o1 2), .int x2]) (h1 := h) (P := (ak o1 = 0 ∧ cx o1 = 0) ∧ True) (by decide +kernel) rfl ⟨ho1, trivial⟩ ?_
  refine q_icmp_ge (off := 81) (tgt := 93) (by decide +kernel) (by decide) (fun c_1 => ?_) (fun c_1 => ?_)
  · have e := it_t c_1 e
    cases e
    exact q_vret rfl k.1 k.2 (by decide +kernel)
  · have e := it_f c_1 e
    refine sl_ok ok_Lines_cross [.iload_n 2, .iconst 1, .iadd, .istore_n 3] (pc1 := 19) (ls1 := [some (.ref 24), some (.ref o1), some (.int x2), some (.int (x2 + 1))]) (st1 := []) (h1 := h) (P := True) (by decide +kernel) rfl trivial ?_
    exact lp_in e (fun s => Go E M_Lines_cross 19 [some (.ref 24), some (.ref o1), some (.int x2), some (.int s.1)] [] s.2 r hr) (Sum.elim (fun s : (Int32 × pH) => Go E M_Lines_cross 7 [some (.ref 24), some (.ref o1), some (.int s.1), none] [] s.2 r hr) (fun v : pH => r = none ∧ hr = v)) (fun _ _ e k => b_Lines_cross_L2 ho1 e k) k
def f_Lines_cross (o1 : Nat) (h : pH) : Option pH :=
  lp (fun s => f_Lines_cross_L1 o1 s.1 s.2) lpN (0, (sI h 24 1 0))
set_option maxHeartbeats 4000000 in
theorem b_Lines_cross {E : pE} {r : Option Value} {hr : pH} {o1 : Nat} {h : pH} (ho1 : ak o1 = 0 ∧ cx o1 = 0) {b : pH} (e : f_Lines_cross o1 h = some b) (k : (fun v : pH => r = none ∧ hr = v) b) : Go E M_Lines_cross 0 [some (.ref 24), some (.ref o1), none, none] [] h r hr := by
  unfold f_Lines_cross at e
  refine sl_ok ok_Lines_cross [.aload_n 0, .iconst 0, .putfield 31, .iconst 0, .istore_n 2] (pc1 := 7) (ls1 := [some (.ref 24), some (.ref o1), some (.int 0), none]) (st1 := []) (h1 := (sI h 24 1 0)) (P := (ak 24 = 0 ∧ cx 24 = 5) ∧ True) (by decide +kernel) rfl ⟨⟨rfl, rfl⟩, trivial⟩ ?_
  exact lp_in e (fun s => Go E M_Lines_cross 7 [some (.ref 24), some (.ref o1), some (.int s.1), none] [] s.2 r hr) (fun v : pH => r = none ∧ hr = v) (fun _ _ e k => b_Lines_cross_L1 ho1 e k) k
theorem s_Lines_cross {E : pE} {o1 : Nat} {h : pH} (ho1 : ak o1 = 0 ∧ cx o1 = 0) {v : pH} (e : f_Lines_cross o1 h = some v) : Ct E M_Lines_cross [.ref 24, .ref o1] h none v :=
  Ct_of ok_Lines_cross [some (.ref 24), some (.ref o1), none, none] (Nat.le_of_ble_eq_true rfl) rfl (b_Lines_cross ho1 e ⟨rfl, rfl⟩)
def f_Lines_divisor_L1 (h : pH) (x3 : Int32) (x4 : Int32) (x5 : Int32) : Option ((Int32 × Int32 × Int32) ⊕ Int32) :=
  if 64 ≤ x5 then
    some (.inr (jmax (1 : Int32) x3))
  else
    if x4 = 0 then
      some (.inr (jmax (1 : Int32) x3))
    else
      if x4 = 0 then none else
      some (.inl (x4, (jrem x3 x4), (x5 + 1)))
set_option maxHeartbeats 4000000 in
theorem b_Lines_divisor_L1 {E : pE} {r : Option Value} {hr : pH} {h : pH} {x3 : Int32} {x4 : Int32} {x5 : Int32}  {b : ((Int32 × Int32 × Int32) ⊕ Int32)} (e : f_Lines_divisor_L1 h x3 x4 x5 = some b) (k : (Sum.elim (fun s : (Int32 × Int32 × Int32) => Go E M_Lines_divisor 21 [some (.ref 24), none, none, some (.int s.1), some (.int s.2.1), some (.int s.2.2), none] [] h r hr) (fun v : Int32 => r = some (.int v) ∧ hr = h)) b) : Go E M_Lines_divisor 21 [some (.ref 24), none, none, some (.int x3), some (.int x4), some (.int x5), none] [] h r hr := by
  unfold f_Lines_divisor_L1 at e
  refine sl_ok ok_Lines_divisor [.iload 5, .bipush 64] (pc1 := 25) (ls1 := [some (.ref 24), none, none, some (.int x3), some (.int x4), some (.int x5), none]) (st1 := [.int 64, .int x5]) (h1 := h) (P := True) (by decide +kernel) rfl trivial ?_
  refine q_icmp_ge (off := 27) (tgt := 52) (by decide +kernel) (by decide) (fun c_1 => ?_) (fun c_1 => ?_)
  · have e := it_t c_1 e
    refine sl_ok ok_Lines_divisor [.iconst 1, .iload_n 3] (pc1 := 54) (ls1 := [some (.ref 24), none, none, some (.int x3), some (.int x4), some (.int x5), none]) (st1 := [.int x3, .int 1]) (h1 := h) (P := True) (by decide +kernel) rfl trivial ?_
    refine q_mmax wd_444 (Nat.le_of_ble_eq_true rfl) (Nat.le_of_ble_eq_true rfl) (by decide +kernel) ?_
    cases e
    exact q_iret rfl k.1 k.2 (by decide +kernel)
  · have e := it_f c_1 e
    refine sl_ok ok_Lines_divisor [.iload 4] (pc1 := 30) (ls1 := [some (.ref 24), none, none, some (.int x3), some (.int x4), some (.int x5), none]) (st1 := [.int x4]) (h1 := h) (P := True) (by decide +kernel) rfl trivial ?_
    refine q_if_eq (off := 22) (tgt := 52) (by decide +kernel) (by decide) (fun c_2 => ?_) (fun c_2 => ?_)
    · have e := it_t c_2 e
      refine sl_ok ok_Lines_divisor [.iconst 1, .iload_n 3] (pc1 := 54) (ls1 := [some (.ref 24), none, none, some (.int x3), some (.int x4), some (.int x5), none]) (st1 := [.int x3, .int 1]) (h1 := h) (P := True) (by decide +kernel) rfl trivial ?_
      refine q_mmax wd_444 (Nat.le_of_ble_eq_true rfl) (Nat.le_of_ble_eq_true rfl) (by decide +kernel) ?_
      cases e
      exact q_iret rfl k.1 k.2 (by decide +kernel)
    · have e := it_f c_2 e
      obtain ⟨g_3, e⟩ := it_g e
      refine sl_ok ok_Lines_divisor [.iload_n 3, .iload 4, .irem, .istore 6, .iload 4, .istore_n 3, .iload 6, .istore 4, .iinc 5 1] (pc1 := 49) (ls1 := [some (.ref 24), none, none, some (.int x4), some (.int (jrem x3 x4)), some (.int (x5 + 1)), some (.int (jrem x3 x4))]) (st1 := []) (h1 := h) (P := (¬ x4 = 0) ∧ True) (by decide +kernel) rfl ⟨g_3, trivial⟩ ?_
      refine q_goto (off := -28) (tgt := 21) (by decide) (by decide +kernel) ?_
      cases e
      refine Go.sb [some (.ref 24), none, none, some (.int x4), some (.int (jrem x3 x4)), some (.int (x5 + 1)), none] (And.intro rfl (And.intro rfl (And.intro rfl (And.intro rfl trivial)))) ?_
      exact k
def f_Lines_divisor (o1 : Nat) (x2 : Int32) (h : pH) : Option Int32 :=
  (f_Lines_over o1 x2 h).bind fun v_1 =>
  (f_Lines_under o1 x2 h).bind fun v_3 =>
  lp (fun s => f_Lines_divisor_L1 h s.1 s.2.1 s.2.2) lpN ((jabs v_1), v_3, 0)
set_option maxHeartbeats 4000000 in
theorem b_Lines_divisor {E : pE} {r : Option Value} {hr : pH} {o1 : Nat} {x2 : Int32} {h : pH} (ho1 : ak o1 = 0 ∧ cx o1 = 0) {b : Int32} (e : f_Lines_divisor o1 x2 h = some b) (k : (fun v : Int32 => r = some (.int v) ∧ hr = h) b) : Go E M_Lines_divisor 0 [some (.ref 24), some (.ref o1), some (.int x2), none, none, none, none] [] h r hr := by
  unfold f_Lines_divisor at e
  refine sl_ok ok_Lines_divisor [.aload_n 0, .aload_n 1, .iload_n 2] (pc1 := 3) (ls1 := [some (.ref 24), some (.ref o1), some (.int x2), none, none, none, none]) (st1 := [.int x2, .ref o1, .ref 24]) (h1 := h) (P := True) (by decide +kernel) rfl trivial ?_
  obtain ⟨v_1, e_2, e⟩ := bi_s e
  refine q_callV ok_Lines_over (as := [.ref o1, .int x2]) (st := []) ⟨wd_430, wd_431, wd_432, wd_414, ds_Lines_over, Nat.le_of_ble_eq_true rfl, Nat.le_of_ble_eq_true rfl⟩ (s_Lines_over ho1 e_2) rfl ⟨rfl, rfl⟩ (ci := 5) rfl (fun v hv => by cases hv; rfl) (Nat.le_of_ble_eq_true rfl) (by decide +kernel) rfl ?_
  refine q_mabs wd_429 (Nat.le_of_ble_eq_true rfl) (Nat.le_of_ble_eq_true rfl) (by decide +kernel) ?_
  refine sl_ok ok_Lines_divisor [.istore_n 3, .aload_n 0, .aload_n 1, .iload_n 2] (pc1 := 13) (ls1 := [some (.ref 24), some (.ref o1), some (.int x2), some (.int (jabs v_1)), none, none, none]) (st1 := [.int x2, .ref o1, .ref 24]) (h1 := h) (P := True) (by decide +kernel) rfl trivial ?_
  obtain ⟨v_3, e_4, e⟩ := bi_s e
  refine q_callV ok_Lines_under (as := [.ref o1, .int x2]) (st := []) ⟨wd_433, wd_434, wd_435, wd_414, ds_Lines_under, Nat.le_of_ble_eq_true rfl, Nat.le_of_ble_eq_true rfl⟩ (s_Lines_under ho1 e_4) rfl ⟨rfl, rfl⟩ (ci := 5) rfl (fun v hv => by cases hv; rfl) (Nat.le_of_ble_eq_true rfl) (by decide +kernel) rfl ?_
  refine sl_ok ok_Lines_divisor [.istore 4, .iconst 0, .istore 5] (pc1 := 21) (ls1 := [some (.ref 24), some (.ref o1), some (.int x2), some (.int (jabs v_1)), some (.int v_3), some (.int 0), none]) (st1 := []) (h1 := h) (P := True) (by decide +kernel) rfl trivial ?_
  refine Go.sb [some (.ref 24), none, none, some (.int (jabs v_1)), some (.int v_3), some (.int 0), none] (And.intro rfl (And.intro rfl (And.intro rfl (And.intro rfl trivial)))) ?_
  exact lp_in e (fun s => Go E M_Lines_divisor 21 [some (.ref 24), none, none, some (.int s.1), some (.int s.2.1), some (.int s.2.2), none] [] h r hr) (fun v : Int32 => r = some (.int v) ∧ hr = h) (fun _ _ e k => b_Lines_divisor_L1  e k) k
theorem s_Lines_divisor {E : pE} {o1 : Nat} {x2 : Int32} {h : pH} (ho1 : ak o1 = 0 ∧ cx o1 = 0) {v : Int32} (e : f_Lines_divisor o1 x2 h = some v) : Ct E M_Lines_divisor [.ref 24, .ref o1, .int x2] h (some (.int v)) h :=
  Ct_of ok_Lines_divisor [some (.ref 24), some (.ref o1), some (.int x2), none, none, none, none] (Nat.le_of_ble_eq_true rfl) rfl (b_Lines_divisor ho1 e ⟨rfl, rfl⟩)
