def f_Fits_fitOf_J2 (o1 : Nat) (x2 : Int32) (x3 : Int32) (x5 : Int32) (x6 : Int32) (x7 : Int32) (t0 : Int32) (t1 : Int32) (h : pH) : Option ((Int32 × Int32 × Int32) ⊕ Int32) :=
  if 0 < x7 then
    some (.inl ((t1 + t0), (x5 + 0), (x6 + 1)))
  else
    some (.inl ((t1 + t0), (x5 + 1), (x6 + 1)))
set_option maxHeartbeats 4000000 in
theorem b_Fits_fitOf_J2 {E : pE} {r : Option Value} {hr : pH} {o1 : Nat} {x2 : Int32} {x3 : Int32} {x5 : Int32} {x6 : Int32} {x7 : Int32} {t0 : Int32} {t1 : Int32} {h : pH} (ho1 : ak o1 = 0 ∧ cx o1 = 0) {b : ((Int32 × Int32 × Int32) ⊕ Int32)} (e : f_Fits_fitOf_J2 o1 x2 x3 x5 x6 x7 t0 t1 h = some b) (k : (Sum.elim (fun s : (Int32 × Int32 × Int32) => Go E M_Fits_fitOf 9 [some (.ref 26), some (.ref o1), some (.int x2), some (.int x3), some (.int s.1), some (.int s.2.1), some (.int s.2.2), none, none, none, none, none, none, none] [] h r hr) (fun v : Int32 => r = some (.int v) ∧ hr = h)) b) : Go E M_Fits_fitOf 51 [some (.ref 26), some (.ref o1), some (.int x2), some (.int x3), none, some (.int x5), some (.int x6), some (.int x7), none, none, none, none, none, none] [.int t0, .int t1] h r hr := by
  unfold f_Fits_fitOf_J2 at e
  refine sl_ok ok_Fits_fitOf [.iadd, .istore 4, .iload 5, .iload 7] (pc1 := 58) (ls1 := [some (.ref 26), some (.ref o1), some (.int x2), some (.int x3), some (.int (t1 + t0)), some (.int x5), some (.int x6), some (.int x7), none, none, none, none, none, none]) (st1 := [.int x7, .int x5]) (h1 := h) (P := True) (by decide +kernel) rfl trivial ?_
  refine q_if_gt (off := 7) (tgt := 65) (by decide +kernel) (by decide) (fun c_1 => ?_) (fun c_1 => ?_)
  · have e := it_t c_1 e
    refine sl_ok ok_Fits_fitOf [.iconst 0, .iadd, .istore 5, .iinc 6 1] (pc1 := 72) (ls1 := [some (.ref 26), some (.ref o1), some (.int x2), some (.int x3), some (.int (t1 + t0)), some (.int (x5 + 0)), some (.int (x6 + 1)), some (.int x7), none, none, none, none, none, none]) (st1 := []) (h1 := h) (P := True) (by decide +kernel) rfl trivial ?_
    refine q_goto (off := -63) (tgt := 9) (by decide) (by decide +kernel) ?_
    cases e
    refine Go.sb [some (.ref 26), some (.ref o1), some (.int x2), some (.int x3), some (.int (t1 + t0)), some (.int (x5 + 0)), some (.int (x6 + 1)), none, none, none, none, none, none, none] (And.intro rfl (And.intro rfl (And.intro rfl (And.intro rfl (And.intro rfl (And.intro rfl (And.intro rfl trivial))))))) ?_
    exact k
  · have e := it_f c_1 e
    refine sl_ok ok_Fits_fitOf [.iconst 1] (pc1 := 62) (ls1 := [some (.ref 26), some (.ref o1), some (.int x2), some (.int x3), some (.int (t1 + t0)), some (.int x5), some (.int x6), some (.int x7), none, none, none, none, none, none]) (st1 := [.int 1, .int x5]) (h1 := h) (P := True) (by decide +kernel) rfl trivial ?_
    refine q_goto (off := 4) (tgt := 66) (by decide) (by decide +kernel) ?_
    refine sl_ok ok_Fits_fitOf [.iadd, .istore 5, .iinc 6 1] (pc1 := 72) (ls1 := [some (.ref 26), some (.ref o1), some (.int x2), some (.int x3), some (.int (t1 + t0)), some (.int (x5 + 1)), some (.int (x6 + 1)), some (.int x7), none, none, none, none, none, none]) (st1 := []) (h1 := h) (P := True) (by decide +kernel) rfl trivial ?_
    refine q_goto (off := -63) (tgt := 9) (by decide) (by decide +kernel) ?_
    cases e
    refine Go.sb [some (.ref 26), some (.ref o1), some (.int x2), some (.int x3), some (.int (t1 + t0)), some (.int (x5 + 1)), some (.int (x6 + 1)), none, none, none, none, none, none, none] (And.intro rfl (And.intro rfl (And.intro rfl (And.intro rfl (And.intro rfl (And.intro rfl (And.intro rfl trivial))))))) ?_
    exact k
def f_Fits_fitOf_J6 (o1 : Nat) (x2 : Int32) (x3 : Int32) (x4 : Int32) (x5 : Int32) (x6 : Int32) (x7 : Int32) (x8 : Int32) (x9 : Int32) (h : pH) : Option ((Int32 × Int32 × Int32 × Int32 × Int32 × Int32) ⊕ Int32) :=
  some (.inl (x4, x5, (jmin x6 (jmin (x7 + x5) (x8 + x4))), x7, x8, (x9 + 1)))
set_option maxHeartbeats 4000000 in
theorem b_Fits_fitOf_J6 {E : pE} {r : Option Value} {hr : pH} {o1 : Nat} {x2 : Int32} {x3 : Int32} {x4 : Int32} {x5 : Int32} {x6 : Int32} {x7 : Int32} {x8 : Int32} {x9 : Int32} {h : pH} (ho1 : ak o1 = 0 ∧ cx o1 = 0) {b : ((Int32 × Int32 × Int32 × Int32 × Int32 × Int32) ⊕ Int32)} (e : f_Fits_fitOf_J6 o1 x2 x3 x4 x5 x6 x7 x8 x9 h = some b) (k : (Sum.elim (fun s : (Int32 × Int32 × Int32 × Int32 × Int32 × Int32) => Go E M_Fits_fitOf 93 [some (.ref 26), some (.ref o1), some (.int x2), some (.int x3), some (.int s.1), some (.int s.2.1), some (.int s.2.2.1), some (.int s.2.2.2.1), some (.int s.2.2.2.2.1), some (.int s.2.2.2.2.2), none, none, none, none] [] h r hr) (fun v : Int32 => r = some (.int v) ∧ hr = h)) b) : Go E M_Fits_fitOf 219 [some (.ref 26), some (.ref o1), some (.int x2), some (.int x3), some (.int x4), some (.int x5), some (.int x6), some (.int x7), some (.int x8), some (.int x9), none, none, none, none] [] h r hr := by
  unfold f_Fits_fitOf_J6 at e
  refine sl_ok ok_Fits_fitOf [.iload 6, .iload 7, .iload 5, .iadd, .iload 8, .iload 4, .iadd] (pc1 := 231) (ls1 := [some (.ref 26), some (.ref o1), some (.int x2), some (.int x3), some (.int x4), some (.int x5), some (.int x6), some (.int x7), some (.int x8), some (.int x9), none, none, none, none]) (st1 := [.int (x8 + x4), .int (x7 + x5), .int x6]) (h1 := h) (P := True) (by decide +kernel) rfl trivial ?_
  refine q_mmin wd_466 (Nat.le_of_ble_eq_true rfl) (Nat.le_of_ble_eq_true rfl) (by decide +kernel) ?_
  refine q_mmin wd_466 (Nat.le_of_ble_eq_true rfl) (Nat.le_of_ble_eq_true rfl) (by decide +kernel) ?_
  refine sl_ok ok_Fits_fitOf [.istore 6, .iinc 9 1] (pc1 := 242) (ls1 := [some (.ref 26), some (.ref o1), some (.int x2), some (.int x3), some (.int x4), some (.int x5), some (.int (jmin x6 (jmin (x7 + x5) (x8 + x4)))), some (.int x7), some (.int x8), some (.int (x9 + 1)), none, none, none, none]) (st1 := []) (h1 := h) (P := True) (by decide +kernel) rfl trivial ?_
  refine q_goto (off := -149) (tgt := 93) (by decide) (by decide +kernel) ?_
  cases e
  exact k
def f_Fits_fitOf_J5 (o1 : Nat) (x2 : Int32) (x3 : Int32) (x4 : Int32) (x5 : Int32) (x6 : Int32) (x7 : Int32) (x8 : Int32) (x9 : Int32) (x10 : Int32) (x12 : Int32) (t0 : Int32) (h : pH) : Option ((Int32 × Int32 × Int32 × Int32 × Int32 × Int32) ⊕ Int32) :=
  if (x9 + 1) = (hI h o1 2) then
    f_Fits_fitOf_J6 o1 x2 x3 (x4 - x12) (x5 - t0) x6 (x7 + x12) (x8 + t0) x9 h
  else
    if (x9 + 1) < 0 ∨ 12 ≤ (x9 + 1).toNatClampNeg then none else
    if (hI h 27 (x9 + 1).toNatClampNeg) < 0 ∨ 12 ≤ (hI h 27 (x9 + 1).toNatClampNeg).toNatClampNeg then none else
    if (hI h (rf o1 0) (hI h 27 (x9 + 1).toNatClampNeg).toNatClampNeg) = x10 then
      some (.inl ((x4 - x12), (x5 - t0), x6, (x7 + x12), (x8 + t0), (x9 + 1)))
    else
      f_Fits_fitOf_J6 o1 x2 x3 (x4 - x12) (x5 - t0) x6 (x7 + x12) (x8 + t0) x9 h
set_option maxHeartbeats 4000000 in
theorem b_Fits_fitOf_J5 {E : pE} {r : Option Value} {hr : pH} {o1 : Nat} {x2 : Int32} {x3 : Int32} {x4 : Int32} {x5 : Int32} {x6 : Int32} {x7 : Int32} {x8 : Int32} {x9 : Int32} {x10 : Int32} {x12 : Int32} {t0 : Int32} {h : pH} (ho1 : ak o1 = 0 ∧ cx o1 = 0) {b : ((Int32 × Int32 × Int32 × Int32 × Int32 × Int32) ⊕ Int32)} (e : f_Fits_fitOf_J5 o1 x2 x3 x4 x5 x6 x7 x8 x9 x10 x12 t0 h = some b) (k : (Sum.elim (fun s : (Int32 × Int32 × Int32 × Int32 × Int32 × Int32) => Go E M_Fits_fitOf 93 [some (.ref 26), some (.ref o1), some (.int x2), some (.int x3), some (.int s.1), some (.int s.2.1), some (.int s.2.2.1), some (.int s.2.2.2.1), some (.int s.2.2.2.2.1), some (.int s.2.2.2.2.2), none, none, none, none] [] h r hr) (fun v : Int32 => r = some (.int v) ∧ hr = h)) b) : Go E M_Fits_fitOf 159 [some (.ref 26), some (.ref o1), some (.int x2), some (.int x3), some (.int x4), some (.int x5), some (.int x6), some (.int x7), some (.int x8), some (.int x9), some (.int x10), none, some (.int x12), none] [.int t0] h r hr := by
  unfold f_Fits_fitOf_J5 at e
  refine sl_ok ok_Fits_fitOf [.istore 13, .iload 7, .iload 12, .iadd, .istore 7, .iload 4, .iload 12, .isub, .istore 4, .iload 8, .iload 13, .iadd, .istore 8, .iload 5, .iload 13, .isub, .istore 5, .iload 9, .iconst 1, .iadd, .aload_n 1, .getfield 19] (pc1 := 197) (ls1 := [some (.ref 26), some (.ref o1), some (.int x2), some (.int x3), some (.int (x4 - x12)), some (.int (x5 - t0)), some (.int x6), some (.int (x7 + x12)), some (.int (x8 + t0)), some (.int x9), some (.int x10), none, some (.int x12), some (.int t0)]) (st1 := [.int (hI h o1 2), .int (x9 + 1)]) (h1 := h) (P := (ak o1 = 0 ∧ cx o1 = 0) ∧ True) (by decide +kernel) rfl ⟨ho1, trivial⟩ ?_
  refine q_icmp_eq (off := 22) (tgt := 219) (by decide +kernel) (by decide) (fun c_1 => ?_) (fun c_1 => ?_)
  · have e := it_t c_1 e
    refine Go.sb [some (.ref 26), some (.ref o1), some (.int x2), some (.int x3), some (.int (x4 - x12)), some (.int (x5 - t0)), some (.int x6), some (.int (x7 + x12)), some (.int (x8 + t0)), some (.int x9), none, none, none, none] (And.intro rfl (And.intro rfl (And.intro rfl (And.intro rfl (And.intro rfl (And.intro rfl (And.intro rfl (And.intro rfl (And.intro rfl (And.intro rfl trivial)))))))))) ?_
    exact b_Fits_fitOf_J6 ho1 e k
  · have e := it_f c_1 e
    obtain ⟨g_2, e⟩ := it_g e
    obtain ⟨g_3, e⟩ := it_g e
    refine sl_ok ok_Fits_fitOf [.aload_n 1, .getfield 24, .aload_n 0, .getfield 9, .iload 9, .iconst 1, .iadd, .iaload, .iaload, .iload 10] (pc1 := 216) (ls1 := [some (.ref 26), some (.ref o1), some (.int x2), some (.int x3), some (.int (x4 - x12)), some (.int (x5 - t0)), some (.int x6), some (.int (x7 + x12)), some (.int (x8 + t0)), some (.int x9), some (.int x10), none, some (.int x12), some (.int t0)]) (st1 := [.int x10, .int (hI h (rf o1 0) (hI h 27 (x9 + 1).toNatClampNeg).toNatClampNeg)]) (h1 := h) (P := (ak o1 = 0 ∧ cx o1 = 0) ∧ (ak 26 = 0 ∧ cx 26 = 3) ∧ (ak 27 = 1 ∧ ¬ ((x9 + 1) < 0 ∨ cx 27 ≤ (x9 + 1).toNatClampNeg)) ∧ (ak (rf o1 0) = 1 ∧ ¬ ((hI h 27 (x9 + 1).toNatClampNeg) < 0 ∨ cx (rf o1 0) ≤ (hI h 27 (x9 + 1).toNatClampNeg).toNatClampNeg)) ∧ True) (by decide +kernel) rfl ⟨ho1, ⟨rfl, rfl⟩, ⟨rfl, g_2⟩, ⟨(st_0_0 ho1).1, (by rw [(st_0_0 ho1).2]; exact g_3)⟩, trivial⟩ ?_
    refine q_icmp_eq (off := 23) (tgt := 239) (by decide +kernel) (by decide) (fun c_4 => ?_) (fun c_4 => ?_)
    · have e := it_t c_4 e
      refine sl_ok ok_Fits_fitOf [.iinc 9 1] (pc1 := 242) (ls1 := [some (.ref 26), some (.ref o1), some (.int x2), some (.int x3), some (.int (x4 - x12)), some (.int (x5 - t0)), some (.int x6), some (.int (x7 + x12)), some (.int (x8 + t0)), some (.int (x9 + 1)), some (.int x10), none, some (.int x12), some (.int t0)]) (st1 := []) (h1 := h) (P := True) (by decide +kernel) rfl trivial ?_
      refine q_goto (off := -149) (tgt := 93) (by decide) (by decide +kernel) ?_
      cases e
      refine Go.sb [some (.ref 26), some (.ref o1), some (.int x2), some (.int x3), some (.int (x4 - x12)), some (.int (x5 - t0)), some (.int x6), some (.int (x7 + x12)), some (.int (x8 + t0)), some (.int (x9 + 1)), none, none, none, none] (And.intro rfl (And.intro rfl (And.intro rfl (And.intro rfl (And.intro rfl (And.intro rfl (And.intro rfl (And.intro rfl (And.intro rfl (And.intro rfl trivial)))))))))) ?_
      exact k
    · have e := it_f c_4 e
      refine Go.sb [some (.ref 26), some (.ref o1), some (.int x2), some (.int x3), some (.int (x4 - x12)), some (.int (x5 - t0)), some (.int x6), some (.int (x7 + x12)), some (.int (x8 + t0)), some (.int x9), none, none, none, none] (And.intro rfl (And.intro rfl (And.intro rfl (And.intro rfl (And.intro rfl (And.intro rfl (And.intro rfl (And.intro rfl (And.intro rfl (And.intro rfl trivial)))))))))) ?_
      exact b_Fits_fitOf_J6 ho1 e k
def f_Fits_fitOf_J4 (o1 : Nat) (x2 : Int32) (x3 : Int32) (x4 : Int32) (x5 : Int32) (x6 : Int32) (x7 : Int32) (x8 : Int32) (x9 : Int32) (x10 : Int32) (x11 : Int32) (t0 : Int32) (h : pH) : Option ((Int32 × Int32 × Int32 × Int32 × Int32 × Int32) ⊕ Int32) :=
  if 0 < x11 then
    f_Fits_fitOf_J5 o1 x2 x3 x4 x5 x6 x7 x8 x9 x10 t0 0 h
  else
    f_Fits_fitOf_J5 o1 x2 x3 x4 x5 x6 x7 x8 x9 x10 t0 1 h
set_option maxHeartbeats 4000000 in
theorem b_Fits_fitOf_J4 {E : pE} {r : Option Value} {hr : pH} {o1 : Nat} {x2 : Int32} {x3 : Int32} {x4 : Int32} {x5 : Int32} {x6 : Int32} {x7 : Int32} {x8 : Int32} {x9 : Int32} {x10 : Int32} {x11 : Int32} {t0 : Int32} {h : pH} (ho1 : ak o1 = 0 ∧ cx o1 = 0) {b : ((Int32 × Int32 × Int32 × Int32 × Int32 × Int32) ⊕ Int32)} (e : f_Fits_fitOf_J4 o1 x2 x3 x4 x5 x6 x7 x8 x9 x10 x11 t0 h = some b) (k : (Sum.elim (fun s : (Int32 × Int32 × Int32 × Int32 × Int32 × Int32) => Go E M_Fits_fitOf 93 [some (.ref 26), some (.ref o1), some (.int x2), some (.int x3), some (.int s.1), some (.int s.2.1), some (.int s.2.2.1), some (.int s.2.2.2.1), some (.int s.2.2.2.2.1), some (.int s.2.2.2.2.2), none, none, none, none] [] h r hr) (fun v : Int32 => r = some (.int v) ∧ hr = h)) b) : Go E M_Fits_fitOf 147 [some (.ref 26), some (.ref o1), some (.int x2), some (.int x3), some (.int x4), some (.int x5), some (.int x6), some (.int x7), some (.int x8), some (.int x9), some (.int x10), some (.int x11), none, none] [.int t0] h r hr := by
  unfold f_Fits_fitOf_J4 at e
  refine sl_ok ok_Fits_fitOf [.istore 12, .iload 11] (pc1 := 151) (ls1 := [some (.ref 26), some (.ref o1), some (.int x2), some (.int x3), some (.int x4), some (.int x5), some (.int x6), some (.int x7), some (.int x8), some (.int x9), some (.int x10), some (.int x11), some (.int t0), none]) (st1 := [.int x11]) (h1 := h) (P := True) (by decide +kernel) rfl trivial ?_
  refine q_if_gt (off := 7) (tgt := 158) (by decide +kernel) (by decide) (fun c_1 => ?_) (fun c_1 => ?_)
  · have e := it_t c_1 e
    refine sl_ok ok_Fits_fitOf [.iconst 0] (pc1 := 159) (ls1 := [some (.ref 26), some (.ref o1), some (.int x2), some (.int x3), some (.int x4), some (.int x5), some (.int x6), some (.int x7), some (.int x8), some (.int x9), some (.int x10), some (.int x11), some (.int t0), none]) (st1 := [.int 0]) (h1 := h) (P := True) (by decide +kernel) rfl trivial ?_
    refine Go.sb [some (.ref 26), some (.ref o1), some (.int x2), some (.int x3), some (.int x4), some (.int x5), some (.int x6), some (.int x7), some (.int x8), some (.int x9), some (.int x10), none, some (.int t0), none] (And.intro rfl (And.intro rfl (And.intro rfl (And.intro rfl (And.intro rfl (And.intro rfl (And.intro rfl (And.intro rfl (And.intro rfl (And.intro rfl (And.intro rfl (And.intro rfl trivial)))))))))))) ?_
    exact b_Fits_fitOf_J5 ho1 e k
  · have e := it_f c_1 e
    refine sl_ok ok_Fits_fitOf [.iconst 1] (pc1 := 155) (ls1 := [some (.ref 26), some (.ref o1), some (.int x2), some (.int x3), some (.int x4), some (.int x5), some (.int x6), some (.int x7), some (.int x8), some (.int x9), some (.int x10), some (.int x11), some (.int t0), none]) (st1 := [.int 1]) (h1 := h) (P := True) (by decide +kernel) rfl trivial ?_
    refine q_goto (off := 4) (tgt := 159) (by decide) (by decide +kernel) ?_
    refine Go.sb [some (.ref 26), some (.ref o1), some (.int x2), some (.int x3), some (.int x4), some (.int x5), some (.int x6), some (.int x7), some (.int x8), some (.int x9), some (.int x10), none, some (.int t0), none] (And.intro rfl (And.intro rfl (And.intro rfl (And.intro rfl (And.intro rfl (And.intro rfl (And.intro rfl (And.intro rfl (And.intro rfl (And.intro rfl (And.intro rfl (And.intro rfl trivial)))))))))))) ?_
    exact b_Fits_fitOf_J5 ho1 e k
def f_Fits_fitOf_L3 (o1 : Nat) (x2 : Int32) (x3 : Int32) (h : pH) (x4 : Int32) (x5 : Int32) (x6 : Int32) (x7 : Int32) (x8 : Int32) (x9 : Int32) : Option ((Int32 × Int32 × Int32 × Int32 × Int32 × Int32) ⊕ Int32) :=
  if (hI h o1 2) ≤ x9 then
    some (.inr x6)
  else
    if x9 < 0 ∨ 12 ≤ x9.toNatClampNeg then none else
    if (hI h 27 x9.toNatClampNeg) < 0 ∨ 12 ≤ (hI h 27 x9.toNatClampNeg).toNatClampNeg then none else
    if (((hI h (rf o1 1) (hI h 27 x9.toNatClampNeg).toNatClampNeg) - (x2 * (hI h (rf o1 0) (hI h 27 x9.toNatClampNeg).toNatClampNeg))) - x3) < 0 then
      f_Fits_fitOf_J4 o1 x2 x3 x4 x5 x6 x7 x8 x9 (hI h (rf o1 0) (hI h 27 x9.toNatClampNeg).toNatClampNeg) (((hI h (rf o1 1) (hI h 27 x9.toNatClampNeg).toNatClampNeg) - (x2 * (hI h (rf o1 0) (hI h 27 x9.toNatClampNeg).toNatClampNeg))) - x3) 0 h
    else
      f_Fits_fitOf_J4 o1 x2 x3 x4 x5 x6 x7 x8 x9 (hI h (rf o1 0) (hI h 27 x9.toNatClampNeg).toNatClampNeg) (((hI h (rf o1 1) (hI h 27 x9.toNatClampNeg).toNatClampNeg) - (x2 * (hI h (rf o1 0) (hI h 27 x9.toNatClampNeg).toNatClampNeg))) - x3) 1 h
set_option maxHeartbeats 4000000 in
theorem b_Fits_fitOf_L3 {E : pE} {r : Option Value} {hr : pH} {o1 : Nat} {x2 : Int32} {x3 : Int32} {h : pH} {x4 : Int32} {x5 : Int32} {x6 : Int32} {x7 : Int32} {x8 : Int32} {x9 : Int32} (ho1 : ak o1 = 0 ∧ cx o1 = 0) {b : ((Int32 × Int32 × Int32 × Int32 × Int32 × Int32) ⊕ Int32)} (e : f_Fits_fitOf_L3 o1 x2 x3 h x4 x5 x6 x7 x8 x9 = some b) (k : (Sum.elim (fun s : (Int32 × Int32 × Int32 × Int32 × Int32 × Int32) => Go E M_Fits_fitOf 93 [some (.ref 26), some (.ref o1), some (.int x2), some (.int x3), some (.int s.1), some (.int s.2.1), some (.int s.2.2.1), some (.int s.2.2.2.1), some (.int s.2.2.2.2.1), some (.int s.2.2.2.2.2), none, none, none, none] [] h r hr) (fun v : Int32 => r = some (.int v) ∧ hr = h)) b) : Go E M_Fits_fitOf 93 [some (.ref 26), some (.ref o1), some (.int x2), some (.int x3), some (.int x4), some (.int x5), some (.int x6), some (.int x7), some (.int x8), some (.int x9), none, none, none, none] [] h r hr := by
  unfold f_Fits_fitOf_L3 at e
  refine sl_ok ok_Fits_fitOf [.iload 9, .aload_n 1, .getfield 19] (pc1 := 99) (ls1 := [some (.ref 26), some (.ref o1), some (.int x2), some (.int x3), some (.int x4), some (.int x5), some (.int x6), some (.int x7), some (.int x8), some (.int x9), none, none, none, none]) (st1 := [.int (hI h o1 2), .int x9]) (h1 := h) (P := (ak o1 = 0 ∧ cx o1 = 0) ∧ True) (by decide +kernel) rfl ⟨ho1, trivial⟩ ?_
  refine q_icmp_ge (off := 146) (tgt := 245) (by decide +kernel) (by decide) (fun c_1 => ?_) (fun c_1 => ?_)
  · have e := it_t c_1 e
    refine sl_ok ok_Fits_fitOf [.iload 6] (pc1 := 247) (ls1 := [some (.ref 26), some (.ref o1), some (.int x2), some (.int x3), some (.int x4), some (.int x5), some (.int x6), some (.int x7), some (.int x8), some (.int x9), none, none, none, none]) (st1 := [.int x6]) (h1 := h) (P := True) (by decide +kernel) rfl trivial ?_
    cases e
    exact q_iret rfl k.1 k.2 (by decide +kernel)
  · have e := it_f c_1 e
    obtain ⟨g_2, e⟩ := it_g e
    obtain ⟨g_3, e⟩ := it_g e
    refine sl_ok ok_Fits_fitOf [.aload_n 1, .getfield 24, .aload_n 0, .getfield 9, .iload 9, .iaload, .iaload, .istore 10, .aload_n 1, .getfield 27, .aload_n 0, .getfield 9, .iload 9, .iaload, .iaload, .iload_n 2, .iload 10, .imul, .isub, .iload_n 3, .isub, .istore 11, .iload 11] (pc1 := 139) (ls1 := [some (.ref 26), some (.ref o1), some (.int x2), some (.int x3), some (.int x4), some (.int x5), some (.int x6), some (.int x7), some (.int x8), some (.int x9), some (.int (hI h (rf o1 0) (hI h 27 x9.toNatClampNeg).toNatClampNeg)), some (.int (((hI h (rf o1 1) (hI h 27 x9.toNatClampNeg).toNatClampNeg) - (x2 * (hI h (rf o1 0) (hI h 27 x9.toNatClampNeg).toNatClampNeg))) - x3)), none, none]) (st1 := [.int (((hI h (rf o1 1) (hI h 27 x9.toNatClampNeg).toNatClampNeg) - (x2 * (hI h (rf o1 0) (hI h 27 x9.toNatClampNeg).toNatClampNeg))) - x3)]) (h1 := h) (P := (ak o1 = 0 ∧ cx o1 = 0) ∧ (ak 26 = 0 ∧ cx 26 = 3) ∧ (ak 27 = 1 ∧ ¬ (x9 < 0 ∨ cx 27 ≤ x9.toNatClampNeg)) ∧ (ak (rf o1 0) = 1 ∧ ¬ ((hI h 27 x9.toNatClampNeg) < 0 ∨ cx (rf o1 0) ≤ (hI h 27 x9.toNatClampNeg).toNatClampNeg)) ∧ (ak o1 = 0 ∧ cx o1 = 0) ∧ (ak 26 = 0 ∧ cx 26 = 3) ∧ (ak 27 = 1 ∧ ¬ (x9 < 0 ∨ cx 27 ≤ x9.toNatClampNeg)) ∧ (ak (rf o1 1) = 1 ∧ ¬ ((hI h 27 x9.toNatClampNeg) < 0 ∨ cx (rf o1 1) ≤ (hI h 27 x9.toNatClampNeg).toNatClampNeg)) ∧ True) (by decide +kernel) rfl ⟨ho1, ⟨rfl, rfl⟩, ⟨rfl, g_2⟩, ⟨(st_0_0 ho1).1, (by rw [(st_0_0 ho1).2]; exact g_3)⟩, ho1, ⟨rfl, rfl⟩, ⟨rfl, g_2⟩, ⟨(st_0_1 ho1).1, (by rw [(st_0_1 ho1).2]; exact g_3)⟩, trivial⟩ ?_
    refine q_if_lt (off := 7) (tgt := 146) (by decide +kernel) (by decide) (fun c_4 => ?_) (fun c_4 => ?_)
    · have e := it_t c_4 e
      refine sl_ok ok_Fits_fitOf [.iconst 0] (pc1 := 147) (ls1 := [some (.ref 26), some (.ref o1), some (.int x2), some (.int x3), some (.int x4), some (.int x5), some (.int x6), some (.int x7), some (.int x8), some (.int x9), some (.int (hI h (rf o1 0) (hI h 27 x9.toNatClampNeg).toNatClampNeg)), some (.int (((hI h (rf o1 1) (hI h 27 x9.toNatClampNeg).toNatClampNeg) - (x2 * (hI h (rf o1 0) (hI h 27 x9.toNatClampNeg).toNatClampNeg))) - x3)), none, none]) (st1 := [.int 0]) (h1 := h) (P := True) (by decide +kernel) rfl trivial ?_
      exact b_Fits_fitOf_J4 ho1 e k
    · have e := it_f c_4 e
      refine sl_ok ok_Fits_fitOf [.iconst 1] (pc1 := 143) (ls1 := [some (.ref 26), some (.ref o1), some (.int x2), some (.int x3), some (.int x4), some (.int x5), some (.int x6), some (.int x7), some (.int x8), some (.int x9), some (.int (hI h (rf o1 0) (hI h 27 x9.toNatClampNeg).toNatClampNeg)), some (.int (((hI h (rf o1 1) (hI h 27 x9.toNatClampNeg).toNatClampNeg) - (x2 * (hI h (rf o1 0) (hI h 27 x9.toNatClampNeg).toNatClampNeg))) - x3)), none, none]) (st1 := [.int 1]) (h1 := h) (P := True) (by decide +kernel) rfl trivial ?_
      refine q_goto (off := 4) (tgt := 147) (by decide) (by decide +kernel) ?_
      exact b_Fits_fitOf_J4 ho1 e k
def f_Fits_fitOf_L1 (o1 : Nat) (x2 : Int32) (x3 : Int32) (h : pH) (x4 : Int32) (x5 : Int32) (x6 : Int32) : Option ((Int32 × Int32 × Int32) ⊕ Int32) :=
  if (hI h o1 2) ≤ x6 then
    mi (lp (fun s => f_Fits_fitOf_L3 o1 x2 x3 h s.1 s.2.1 s.2.2.1 s.2.2.2.1 s.2.2.2.2.1 s.2.2.2.2.2) lpN (x4, x5, (jmin x4 x5), 0, 0, 0))
  else
    if x6 < 0 ∨ 12 ≤ x6.toNatClampNeg then none else
    if (((hI h (rf o1 1) x6.toNatClampNeg) - (x2 * (hI h (rf o1 0) x6.toNatClampNeg))) - x3) < 0 then
      f_Fits_fitOf_J2 o1 x2 x3 x5 x6 (((hI h (rf o1 1) x6.toNatClampNeg) - (x2 * (hI h (rf o1 0) x6.toNatClampNeg))) - x3) 0 x4 h
    else
      f_Fits_fitOf_J2 o1 x2 x3 x5 x6 (((hI h (rf o1 1) x6.toNatClampNeg) - (x2 * (hI h (rf o1 0) x6.toNatClampNeg))) - x3) 1 x4 h
set_option maxHeartbeats 4000000 in
theorem b_Fits_fitOf_L1 {E : pE} {r : Option Value} {hr : pH} {o1 : Nat} {x2 : Int32} {x3 : Int32} {h : pH} {x4 : Int32} {x5 : Int32} {x6 : Int32} (ho1 : ak o1 = 0 ∧ cx o1 = 0) {b : ((Int32 × Int32 × Int32) ⊕ Int32)} (e : f_Fits_fitOf_L1 o1 x2 x3 h x4 x5 x6 = some b) (k : (Sum.elim (fun s : (Int32 × Int32 × Int32) => Go E M_Fits_fitOf 9 [some (.ref 26), some (.ref o1), some (.int x2), some (.int x3), some (.int s.1), some (.int s.2.1), some (.int s.2.2), none, none, none, none, none, none, none] [] h r hr) (fun v : Int32 => r = some (.int v) ∧ hr = h)) b) : Go E M_Fits_fitOf 9 [some (.ref 26), some (.ref o1), some (.int x2), some (.int x3), some (.int x4), some (.int x5), some (.int x6), none, none, none, none, none, none, none] [] h r hr := by
  unfold f_Fits_fitOf_L1 at e
  refine sl_ok ok_Fits_fitOf [.iload 6, .aload_n 1, .getfield 19] (pc1 := 15) (ls1 := [some (.ref 26), some (.ref o1), some (.int x2), some (.int x3), some (.int x4), some (.int x5), some (.int x6), none, none, none, none, none, none, none]) (st1 := [.int (hI h o1 2), .int x6]) (h1 := h) (P := (ak o1 = 0 ∧ cx o1 = 0) ∧ True) (by decide +kernel) rfl ⟨ho1, trivial⟩ ?_
  refine q_icmp_ge (off := 60) (tgt := 75) (by decide +kernel) (by decide) (fun c_1 => ?_) (fun c_1 => ?_)
  · have e := it_t c_1 e
    refine sl_ok ok_Fits_fitOf [.iload 4, .iload 5] (pc1 := 79) (ls1 := [some (.ref 26), some (.ref o1), some (.int x2), some (.int x3), some (.int x4), some (.int x5), some (.int x6), none, none, none, none, none, none, none]) (st1 := [.int x5, .int x4]) (h1 := h) (P := True) (by decide +kernel) rfl trivial ?_
    refine q_mmin wd_466 (Nat.le_of_ble_eq_true rfl) (Nat.le_of_ble_eq_true rfl) (by decide +kernel) ?_
    refine sl_ok ok_Fits_fitOf [.istore 6, .iconst 0, .istore 7, .iconst 0, .istore 8, .iconst 0, .istore 9] (pc1 := 93) (ls1 := [some (.ref 26), some (.ref o1), some (.int x2), some (.int x3), some (.int x4), some (.int x5), some (.int (jmin x4 x5)), some (.int 0), some (.int 0), some (.int 0), none, none, none, none]) (st1 := []) (h1 := h) (P := True) (by decide +kernel) rfl trivial ?_
    obtain ⟨_, e9, rfl⟩ := mi_s e
    have e := e9
    exact lp_in e (fun s => Go E M_Fits_fitOf 93 [some (.ref 26), some (.ref o1), some (.int x2), some (.int x3), some (.int s.1), some (.int s.2.1), some (.int s.2.2.1), some (.int s.2.2.2.1), some (.int s.2.2.2.2.1), some (.int s.2.2.2.2.2), none, none, none, none] [] h r hr) (fun v : Int32 => r = some (.int v) ∧ hr = h) (fun _ _ e k => b_Fits_fitOf_L3 ho1 e k) k
  · have e := it_f c_1 e
    obtain ⟨g_2, e⟩ := it_g e
    refine sl_ok ok_Fits_fitOf [.aload_n 1, .getfield 27, .iload 6, .iaload, .iload_n 2, .aload_n 1, .getfield 24, .iload 6, .iaload, .imul, .isub, .iload_n 3, .isub, .istore 7, .iload 4, .iload 7] (pc1 := 43) (ls1 := [some (.ref 26), some (.ref o1), some (.int x2), some (.int x3), some (.int x4), some (.int x5), some (.int x6), some (.int (((hI h (rf o1 1) x6.toNatClampNeg) - (x2 * (hI h (rf o1 0) x6.toNatClampNeg))) - x3)), none, none, none, none, none, none]) (st1 := [.int (((hI h (rf o1 1) x6.toNatClampNeg) - (x2 * (hI h (rf o1 0) x6.toNatClampNeg))) - x3), .int x4]) (h1 := h) (P := (ak o1 = 0 ∧ cx o1 = 0) ∧ (ak (rf o1 1) = 1 ∧ ¬ (x6 < 0 ∨ cx (rf o1 1) ≤ x6.toNatClampNeg)) ∧ (ak o1 = 0 ∧ cx o1 = 0) ∧ (ak (rf o1 0) = 1 ∧ ¬ (x6 < 0 ∨ cx (rf o1 0) ≤ x6.toNatClampNeg)) ∧ True) (by decide +kernel) rfl ⟨ho1, ⟨(st_0_1 ho1).1, (by rw [(st_0_1 ho1).2]; exact g_2)⟩, ho1, ⟨(st_0_0 ho1).1, (by rw [(st_0_0 ho1).2]; exact g_2)⟩, trivial⟩ ?_
    refine q_if_lt (off := 7) (tgt := 50) (by decide +kernel) (by decide) (fun c_3 => ?_) (fun c_3 => ?_)
    · have e := it_t c_3 e
      refine sl_ok ok_Fits_fitOf [.iconst 0] (pc1 := 51) (ls1 := [some (.ref 26), some (.ref o1), some (.int x2), some (.int x3), some (.int x4), some (.int x5), some (.int x6), some (.int (((hI h (rf o1 1) x6.toNatClampNeg) - (x2 * (hI h (rf o1 0) x6.toNatClampNeg))) - x3)), none, none, none, none, none, none]) (st1 := [.int 0, .int x4]) (h1 := h) (P := True) (by decide +kernel) rfl trivial ?_
      refine Go.sb [some (.ref 26), some (.ref o1), some (.int x2), some (.int x3), none, some (.int x5), some (.int x6), some (.int (((hI h (rf o1 1) x6.toNatClampNeg) - (x2 * (hI h (rf o1 0) x6.toNatClampNeg))) - x3)), none, none, none, none, none, none] (And.intro rfl (And.intro rfl (And.intro rfl (And.intro rfl (And.intro rfl (And.intro rfl (And.intro rfl trivial))))))) ?_
      exact b_Fits_fitOf_J2 ho1 e k
    · have e := it_f c_3 e
      refine sl_ok ok_Fits_fitOf [.iconst 1] (pc1 := 47) (ls1 := [some (.ref 26), some (.ref o1), some (.int x2), some (.int x3), some (.int x4), some (.int x5), some (.int x6), some (.int (((hI h (rf o1 1) x6.toNatClampNeg) - (x2 * (hI h (rf o1 0) x6.toNatClampNeg))) - x3)), none, none, none, none, none, none]) (st1 := [.int 1, .int x4]) (h1 := h) (P := True) (by decide +kernel) rfl trivial ?_
      refine q_goto (off := 4) (tgt := 51) (by decide) (by decide +kernel) ?_
      refine Go.sb [some (.ref 26), some (.ref o1), some (.int x2), some (.int x3), none, some (.int x5), some (.int x6), some (.int (((hI h (rf o1 1) x6.toNatClampNeg) - (x2 * (hI h (rf o1 0) x6.toNatClampNeg))) - x3)), none, none, none, none, none, none] (And.intro rfl (And.intro rfl (And.intro rfl (And.intro rfl (And.intro rfl (And.intro rfl (And.intro rfl trivial))))))) ?_
      exact b_Fits_fitOf_J2 ho1 e k
def f_Fits_fitOf (o1 : Nat) (x2 : Int32) (x3 : Int32) (h : pH) : Option Int32 :=
  lp (fun s => f_Fits_fitOf_L1 o1 x2 x3 h s.1 s.2.1 s.2.2) lpN (0, 0, 0)
set_option maxHeartbeats 4000000 in
theorem b_Fits_fitOf {E : pE} {r : Option Value} {hr : pH} {o1 : Nat} {x2 : Int32} {x3 : Int32} {h : pH} (ho1 : ak o1 = 0 ∧ cx o1 = 0) {b : Int32} (e : f_Fits_fitOf o1 x2 x3 h = some b) (k : (fun v : Int32 => r = some (.int v) ∧ hr = h) b) : Go E M_Fits_fitOf 0 [some (.ref 26), some (.ref o1), some (.int x2), some (.int x3), none, none, none, none, none, none, none, none, none, none] [] h r hr := by
  unfold f_Fits_fitOf at e
  refine sl_ok ok_Fits_fitOf [.iconst 0, .istore 4, .iconst 0, .istore 5, .iconst 0, .istore 6] (pc1 := 9) (ls1 := [some (.ref 26), some (.ref o1), some (.int x2), some (.int x3), some (.int 0), some (.int 0), some (.int 0), none, none, none, none, none, none, none]) (st1 := []) (h1 := h) (P := True) (by decide +kernel) rfl trivial ?_
  exact lp_in e (fun s => Go E M_Fits_fitOf 9 [some (.ref 26), some (.ref o1), some (.int x2), some (.int x3), some (.int s.1), some (.int s.2.1), some (.int s.2.2), none, none, none, none, none, none, none] [] h r hr) (fun v : Int32 => r = some (.int v) ∧ hr = h) (fun _ _ e k => b_Fits_fitOf_L1 ho1 e k) k
theorem s_Fits_fitOf {E : pE} {o1 : Nat} {x2 : Int32} {x3 : Int32} {h : pH} (ho1 : ak o1 = 0 ∧ cx o1 = 0) {v : Int32} (e : f_Fits_fitOf o1 x2 x3 h = some v) : Ct E M_Fits_fitOf [.ref 26, .ref o1, .int x2, .int x3] h (some (.int v)) h :=
  Ct_of ok_Fits_fitOf [some (.ref 26), some (.ref o1), some (.int x2), some (.int x3), none, none, none, none, none, none, none, none, none, none] (Nat.le_of_ble_eq_true rfl) rfl (b_Fits_fitOf ho1 e ⟨rfl, rfl⟩)
def f_C_fit (x1 : Int32) (x2 : Int32) (h : pH) : Option (Int32 × pH) :=
  if x1 < (-100) then
    some ((-1), h)
  else
    if 100 < x1 then
      some ((-1), h)
    else
      if x2 < (-10000) then
        some ((-1), h)
      else
        if x2 ≤ 10000 then
          (f_Fits_arrange 8 h).bind fun v_5 =>
          (f_Fits_fitOf 8 x1 x2 v_5).bind fun v_7 =>
          some (v_7, v_5)
        else
          some ((-1), h)
set_option maxHeartbeats 4000000 in
theorem b_C_fit {E : pE} {r : Option Value} {hr : pH} {x1 : Int32} {x2 : Int32} {h : pH}  {b : (Int32 × pH)} (e : f_C_fit x1 x2 h = some b) (k : (fun v : (Int32 × pH) => r = some (.int v.1) ∧ hr = v.2) b) : Go E M_C_fit 0 [some (.ref 0), some (.int x1), some (.int x2)] [] h r hr := by
  unfold f_C_fit at e
  refine sl_ok ok_C_fit [.iload_n 1, .bipush (-100)] (pc1 := 3) (ls1 := [some (.ref 0), some (.int x1), some (.int x2)]) (st1 := [.int (-100), .int x1]) (h1 := h) (P := True) (by decide +kernel) rfl trivial ?_
  refine q_icmp_lt (off := 23) (tgt := 26) (by decide +kernel) (by decide) (fun c_1 => ?_) (fun c_1 => ?_)
  · have e := it_t c_1 e
    refine sl_ok ok_C_fit [.iconst (-1)] (pc1 := 27) (ls1 := [some (.ref 0), some (.int x1), some (.int x2)]) (st1 := [.int (-1)]) (h1 := h) (P := True) (by decide +kernel) rfl trivial ?_
    cases e
    exact q_iret rfl k.1 k.2 (by decide +kernel)
  · have e := it_f c_1 e
    refine sl_ok ok_C_fit [.iload_n 1, .bipush 100] (pc1 := 9) (ls1 := [some (.ref 0), some (.int x1), some (.int x2)]) (st1 := [.int 100, .int x1]) (h1 := h) (P := True) (by decide +kernel) rfl trivial ?_
    refine q_icmp_gt (off := 17) (tgt := 26) (by decide +kernel) (by decide) (fun c_2 => ?_) (fun c_2 => ?_)
    · have e := it_t c_2 e
      refine sl_ok ok_C_fit [.iconst (-1)] (pc1 := 27) (ls1 := [some (.ref 0), some (.int x1), some (.int x2)]) (st1 := [.int (-1)]) (h1 := h) (P := True) (by decide +kernel) rfl trivial ?_
      cases e
      exact q_iret rfl k.1 k.2 (by decide +kernel)
    · have e := it_f c_2 e
      refine sl_ok ok_C_fit [.iload_n 2, .sipush (-10000)] (pc1 := 16) (ls1 := [some (.ref 0), some (.int x1), some (.int x2)]) (st1 := [.int (-10000), .int x2]) (h1 := h) (P := True) (by decide +kernel) rfl trivial ?_
      refine q_icmp_lt (off := 10) (tgt := 26) (by decide +kernel) (by decide) (fun c_3 => ?_) (fun c_3 => ?_)
      · have e := it_t c_3 e
        refine sl_ok ok_C_fit [.iconst (-1)] (pc1 := 27) (ls1 := [some (.ref 0), some (.int x1), some (.int x2)]) (st1 := [.int (-1)]) (h1 := h) (P := True) (by decide +kernel) rfl trivial ?_
        cases e
        exact q_iret rfl k.1 k.2 (by decide +kernel)
      · have e := it_f c_3 e
        refine sl_ok ok_C_fit [.iload_n 2, .sipush 10000] (pc1 := 23) (ls1 := [some (.ref 0), some (.int x1), some (.int x2)]) (st1 := [.int 10000, .int x2]) (h1 := h) (P := True) (by decide +kernel) rfl trivial ?_
        refine q_icmp_le (off := 5) (tgt := 28) (by decide +kernel) (by decide) (fun c_4 => ?_) (fun c_4 => ?_)
        · have e := it_t c_4 e
          refine sl_ok ok_C_fit [.aload_n 0, .getfield 66, .aload_n 0, .getfield 28] (pc1 := 36) (ls1 := [some (.ref 0), some (.int x1), some (.int x2)]) (st1 := [.ref 8, .ref 26]) (h1 := h) (P := (ak 0 = 0 ∧ cx 0 = 11) ∧ (ak 0 = 0 ∧ cx 0 = 11) ∧ True) (by decide +kernel) rfl ⟨⟨rfl, rfl⟩, ⟨rfl, rfl⟩, trivial⟩ ?_
          obtain ⟨v_5, e_6, e⟩ := bi_s e
          refine q_callV ok_Fits_arrange (as := [.ref 8]) (st := []) ⟨wd_467, wd_468, wd_469, wd_470, ds_Fits_arrange, Nat.le_of_ble_eq_true rfl, Nat.le_of_ble_eq_true rfl⟩ (s_Fits_arrange ⟨rfl, rfl⟩ e_6) rfl ⟨rfl, rfl⟩ (ci := 3) rfl (fun v hv => by cases hv) (Nat.le_of_ble_eq_true rfl) (by decide +kernel) rfl ?_
          refine sl_ok ok_C_fit [.aload_n 0, .getfield 66, .aload_n 0, .getfield 28, .iload_n 1, .iload_n 2] (pc1 := 49) (ls1 := [some (.ref 0), some (.int x1), some (.int x2)]) (st1 := [.int x2, .int x1, .ref 8, .ref 26]) (h1 := v_5) (P := (ak 0 = 0 ∧ cx 0 = 11) ∧ (ak 0 = 0 ∧ cx 0 = 11) ∧ True) (by decide +kernel) rfl ⟨⟨rfl, rfl⟩, ⟨rfl, rfl⟩, trivial⟩ ?_
          obtain ⟨v_7, e_8, e⟩ := bi_s e
          refine q_callV ok_Fits_fitOf (as := [.ref 8, .int x1, .int x2]) (st := []) ⟨wd_471, wd_472, wd_473, wd_470, ds_Fits_fitOf, Nat.le_of_ble_eq_true rfl, Nat.le_of_ble_eq_true rfl⟩ (s_Fits_fitOf ⟨rfl, rfl⟩ e_8) rfl ⟨rfl, rfl⟩ (ci := 3) rfl (fun v hv => by cases hv; rfl) (Nat.le_of_ble_eq_true rfl) (by decide +kernel) rfl ?_
          cases e
          exact q_iret rfl k.1 k.2 (by decide +kernel)
        · have e := it_f c_4 e
          refine sl_ok ok_C_fit [.iconst (-1)] (pc1 := 27) (ls1 := [some (.ref 0), some (.int x1), some (.int x2)]) (st1 := [.int (-1)]) (h1 := h) (P := True) (by decide +kernel) rfl trivial ?_
          cases e
          exact q_iret rfl k.1 k.2 (by decide +kernel)
theorem s_C_fit {E : pE} {x1 : Int32} {x2 : Int32} {h : pH}  {v : (Int32 × pH)} (e : f_C_fit x1 x2 h = some v) : Ct E M_C_fit [.ref 0, .int x1, .int x2] h (some (.int v.1)) v.2 :=
  Ct_of ok_C_fit [some (.ref 0), some (.int x1), some (.int x2)] (Nat.le_of_ble_eq_true rfl) rfl (b_C_fit  e ⟨rfl, rfl⟩)
def f_R_fitOf_J7 (x3 : Int32) (x4 : Int32) (x5 : Int32) (x6 : Int32) (x7 : Int32) (x8 : Int32) (x9 : Int32) (x10 : Int32) (h : pH) : Option ((Int32 × Int32 × Int32) ⊕ ((Int32 × Int32) ⊕ (Int32 × pH))) :=
  if x8 = 0 then
    if x9 = 0 then
      some (.inl (x5, x6, (x7 + 1)))
    else
      some (.inl (x5, (x6 + 1), (x7 + 1)))
  else
    if x10 = 0 then
      some (.inl (x5, x6, (x7 + 1)))
    else
      some (.inl (x5, (x6 + 1), (x7 + 1)))
set_option maxHeartbeats 4000000 in
theorem b_R_fitOf_J7 {E : pE} {r : Option Value} {hr : pH} {x3 : Int32} {x4 : Int32} {x5 : Int32} {x6 : Int32} {x7 : Int32} {x8 : Int32} {x9 : Int32} {x10 : Int32} {h : pH}  {b : ((Int32 × Int32 × Int32) ⊕ ((Int32 × Int32) ⊕ (Int32 × pH)))} (e : f_R_fitOf_J7 x3 x4 x5 x6 x7 x8 x9 x10 h = some b) (k : (Sum.elim (fun s : (Int32 × Int32 × Int32) => Go E M_R_fitOf 63 [some (.ref 79), none, none, some (.int x3), some (.int x4), some (.int s.1), some (.int s.2.1), some (.int s.2.2), none, none, none] [] h r hr) (Sum.elim (fun s : (Int32 × Int32) => Go E M_R_fitOf 45 [some (.ref 79), none, none, some (.int s.1), some (.int s.2), none, none, none, none, none, none] [] h r hr) (fun v : (Int32 × pH) => r = some (.int v.1) ∧ hr = v.2))) b) : Go E M_R_fitOf 154 [some (.ref 79), none, none, some (.int x3), some (.int x4), some (.int x5), some (.int x6), some (.int x7), some (.int x8), some (.int x9), some (.int x10)] [] h r hr := by
  unfold f_R_fitOf_J7 at e
  refine sl_ok ok_R_fitOf [.iload 8] (pc1 := 156) (ls1 := [some (.ref 79), none, none, some (.int x3), some (.int x4), some (.int x5), some (.int x6), some (.int x7), some (.int x8), some (.int x9), some (.int x10)]) (st1 := [.int x8]) (h1 := h) (P := True) (by decide +kernel) rfl trivial ?_
  refine q_if_eq (off := 11) (tgt := 167) (by decide +kernel) (by decide) (fun c_1 => ?_) (fun c_1 => ?_)
  · have e := it_t c_1 e
    refine sl_ok ok_R_fitOf [.iload 9] (pc1 := 169) (ls1 := [some (.ref 79), none, none, some (.int x3), some (.int x4), some (.int x5), some (.int x6), some (.int x7), some (.int x8), some (.int x9), some (.int x10)]) (st1 := [.int x9]) (h1 := h) (P := True) (by decide +kernel) rfl trivial ?_
    refine q_if_eq (off := 6) (tgt := 175) (by decide +kernel) (by decide) (fun c_2 => ?_) (fun c_2 => ?_)
    · have e := it_t c_2 e
      refine sl_ok ok_R_fitOf [.iinc 7 1] (pc1 := 178) (ls1 := [some (.ref 79), none, none, some (.int x3), some (.int x4), some (.int x5), some (.int x6), some (.int (x7 + 1)), some (.int x8), some (.int x9), some (.int x10)]) (st1 := []) (h1 := h) (P := True) (by decide +kernel) rfl trivial ?_
      refine q_goto (off := -115) (tgt := 63) (by decide) (by decide +kernel) ?_
      cases e
      refine Go.sb [some (.ref 79), none, none, some (.int x3), some (.int x4), some (.int x5), some (.int x6), some (.int (x7 + 1)), none, none, none] (And.intro rfl (And.intro rfl (And.intro rfl (And.intro rfl (And.intro rfl (And.intro rfl trivial)))))) ?_
      exact k
    · have e := it_f c_2 e
      refine sl_ok ok_R_fitOf [.iinc 6 1, .iinc 7 1] (pc1 := 178) (ls1 := [some (.ref 79), none, none, some (.int x3), some (.int x4), some (.int x5), some (.int (x6 + 1)), some (.int (x7 + 1)), some (.int x8), some (.int x9), some (.int x10)]) (st1 := []) (h1 := h) (P := True) (by decide +kernel) rfl trivial ?_
      refine q_goto (off := -115) (tgt := 63) (by decide) (by decide +kernel) ?_
      cases e
      refine Go.sb [some (.ref 79), none, none, some (.int x3), some (.int x4), some (.int x5), some (.int (x6 + 1)), some (.int (x7 + 1)), none, none, none] (And.intro rfl (And.intro rfl (And.intro rfl (And.intro rfl (And.intro rfl (And.intro rfl trivial)))))) ?_
      exact k
  · have e := it_f c_1 e
    refine sl_ok ok_R_fitOf [.iload 10] (pc1 := 161) (ls1 := [some (.ref 79), none, none, some (.int x3), some (.int x4), some (.int x5), some (.int x6), some (.int x7), some (.int x8), some (.int x9), some (.int x10)]) (st1 := [.int x10]) (h1 := h) (P := True) (by decide +kernel) rfl trivial ?_
    refine q_if_eq (off := 14) (tgt := 175) (by decide +kernel) (by decide) (fun c_3 => ?_) (fun c_3 => ?_)
    · have e := it_t c_3 e
      refine sl_ok ok_R_fitOf [.iinc 7 1] (pc1 := 178) (ls1 := [some (.ref 79), none, none, some (.int x3), some (.int x4), some (.int x5), some (.int x6), some (.int (x7 + 1)), some (.int x8), some (.int x9), some (.int x10)]) (st1 := []) (h1 := h) (P := True) (by decide +kernel) rfl trivial ?_
      refine q_goto (off := -115) (tgt := 63) (by decide) (by decide +kernel) ?_
      cases e
      refine Go.sb [some (.ref 79), none, none, some (.int x3), some (.int x4), some (.int x5), some (.int x6), some (.int (x7 + 1)), none, none, none] (And.intro rfl (And.intro rfl (And.intro rfl (And.intro rfl (And.intro rfl (And.intro rfl trivial)))))) ?_
      exact k
    · have e := it_f c_3 e
      refine q_goto (off := 8) (tgt := 172) (by decide) (by decide +kernel) ?_
      refine sl_ok ok_R_fitOf [.iinc 6 1, .iinc 7 1] (pc1 := 178) (ls1 := [some (.ref 79), none, none, some (.int x3), some (.int x4), some (.int x5), some (.int (x6 + 1)), some (.int (x7 + 1)), some (.int x8), some (.int x9), some (.int x10)]) (st1 := []) (h1 := h) (P := True) (by decide +kernel) rfl trivial ?_
      refine q_goto (off := -115) (tgt := 63) (by decide) (by decide +kernel) ?_
      cases e
      refine Go.sb [some (.ref 79), none, none, some (.int x3), some (.int x4), some (.int x5), some (.int (x6 + 1)), some (.int (x7 + 1)), none, none, none] (And.intro rfl (And.intro rfl (And.intro rfl (And.intro rfl (And.intro rfl (And.intro rfl trivial)))))) ?_
      exact k
def f_R_fitOf_J6 (x3 : Int32) (x4 : Int32) (x5 : Int32) (x6 : Int32) (x7 : Int32) (x8 : Int32) (x9 : Int32) (t0 : Int32) (h : pH) : Option ((Int32 × Int32 × Int32) ⊕ ((Int32 × Int32) ⊕ (Int32 × pH))) :=
  if x8 = 0 then
    if t0 = 0 then
      f_R_fitOf_J7 x3 x4 x5 x6 x7 x8 x9 t0 h
    else
      f_R_fitOf_J7 x3 x4 (x5 + 1) x6 x7 x8 x9 t0 h
  else
    if x9 = 0 then
      f_R_fitOf_J7 x3 x4 x5 x6 x7 x8 x9 t0 h
    else
      f_R_fitOf_J7 x3 x4 (x5 + 1) x6 x7 x8 x9 t0 h
set_option maxHeartbeats 4000000 in
theorem b_R_fitOf_J6 {E : pE} {r : Option Value} {hr : pH} {x3 : Int32} {x4 : Int32} {x5 : Int32} {x6 : Int32} {x7 : Int32} {x8 : Int32} {x9 : Int32} {t0 : Int32} {h : pH}  {b : ((Int32 × Int32 × Int32) ⊕ ((Int32 × Int32) ⊕ (Int32 × pH)))} (e : f_R_fitOf_J6 x3 x4 x5 x6 x7 x8 x9 t0 h = some b) (k : (Sum.elim (fun s : (Int32 × Int32 × Int32) => Go E M_R_fitOf 63 [some (.ref 79), none, none, some (.int x3), some (.int x4), some (.int s.1), some (.int s.2.1), some (.int s.2.2), none, none, none] [] h r hr) (Sum.elim (fun s : (Int32 × Int32) => Go E M_R_fitOf 45 [some (.ref 79), none, none, some (.int s.1), some (.int s.2), none, none, none, none, none, none] [] h r hr) (fun v : (Int32 × pH) => r = some (.int v.1) ∧ hr = v.2))) b) : Go E M_R_fitOf 131 [some (.ref 79), none, none, some (.int x3), some (.int x4), some (.int x5), some (.int x6), some (.int x7), some (.int x8), some (.int x9), none] [.int t0] h r hr := by
  unfold f_R_fitOf_J6 at e
  refine sl_ok ok_R_fitOf [.istore 10, .iload 8] (pc1 := 135) (ls1 := [some (.ref 79), none, none, some (.int x3), some (.int x4), some (.int x5), some (.int x6), some (.int x7), some (.int x8), some (.int x9), some (.int t0)]) (st1 := [.int x8]) (h1 := h) (P := True) (by decide +kernel) rfl trivial ?_
  refine q_if_eq (off := 11) (tgt := 146) (by decide +kernel) (by decide) (fun c_1 => ?_) (fun c_1 => ?_)
  · have e := it_t c_1 e
    refine sl_ok ok_R_fitOf [.iload 10] (pc1 := 148) (ls1 := [some (.ref 79), none, none, some (.int x3), some (.int x4), some (.int x5), some (.int x6), some (.int x7), some (.int x8), some (.int x9), some (.int t0)]) (st1 := [.int t0]) (h1 := h) (P := True) (by decide +kernel) rfl trivial ?_
    refine q_if_eq (off := 6) (tgt := 154) (by decide +kernel) (by decide) (fun c_2 => ?_) (fun c_2 => ?_)
    · have e := it_t c_2 e
      exact b_R_fitOf_J7  e k
    · have e := it_f c_2 e
      refine sl_ok ok_R_fitOf [.iinc 5 1] (pc1 := 154) (ls1 := [some (.ref 79), none, none, some (.int x3), some (.int x4), some (.int (x5 + 1)), some (.int x6), some (.int x7), some (.int x8), some (.int x9), some (.int t0)]) (st1 := []) (h1 := h) (P := True) (by decide +kernel) rfl trivial ?_
      exact b_R_fitOf_J7  e k
  · have e := it_f c_1 e
    refine sl_ok ok_R_fitOf [.iload 9] (pc1 := 140) (ls1 := [some (.ref 79), none, none, some (.int x3), some (.int x4), some (.int x5), some (.int x6), some (.int x7), some (.int x8), some (.int x9), some (.int t0)]) (st1 := [.int x9]) (h1 := h) (P := True) (by decide +kernel) rfl trivial ?_
    refine q_if_eq (off := 14) (tgt := 154) (by decide +kernel) (by decide) (fun c_3 => ?_) (fun c_3 => ?_)
    · have e := it_t c_3 e
      exact b_R_fitOf_J7  e k
    · have e := it_f c_3 e
      refine q_goto (off := 8) (tgt := 151) (by decide) (by decide +kernel) ?_
      refine sl_ok ok_R_fitOf [.iinc 5 1] (pc1 := 154) (ls1 := [some (.ref 79), none, none, some (.int x3), some (.int x4), some (.int (x5 + 1)), some (.int x6), some (.int x7), some (.int x8), some (.int x9), some (.int t0)]) (st1 := []) (h1 := h) (P := True) (by decide +kernel) rfl trivial ?_
      exact b_R_fitOf_J7  e k
def f_R_fitOf_J5 (x3 : Int32) (x4 : Int32) (x5 : Int32) (x6 : Int32) (x7 : Int32) (x8 : Int32) (t0 : Int32) (h : pH) : Option ((Int32 × Int32 × Int32) ⊕ ((Int32 × Int32) ⊕ (Int32 × pH))) :=
  if x7 < 0 ∨ 12 ≤ x7.toNatClampNeg then none else
  if 0 < (hI h 102 x7.toNatClampNeg) then
    f_R_fitOf_J6 x3 x4 x5 x6 x7 x8 t0 0 h
  else
    f_R_fitOf_J6 x3 x4 x5 x6 x7 x8 t0 1 h
set_option maxHeartbeats 4000000 in
theorem b_R_fitOf_J5 {E : pE} {r : Option Value} {hr : pH} {x3 : Int32} {x4 : Int32} {x5 : Int32} {x6 : Int32} {x7 : Int32} {x8 : Int32} {t0 : Int32} {h : pH}  {b : ((Int32 × Int32 × Int32) ⊕ ((Int32 × Int32) ⊕ (Int32 × pH)))} (e : f_R_fitOf_J5 x3 x4 x5 x6 x7 x8 t0 h = some b) (k : (Sum.elim (fun s : (Int32 × Int32 × Int32) => Go E M_R_fitOf 63 [some (.ref 79), none, none, some (.int x3), some (.int x4), some (.int s.1), some (.int s.2.1), some (.int s.2.2), none, none, none] [] h r hr) (Sum.elim (fun s : (Int32 × Int32) => Go E M_R_fitOf 45 [some (.ref 79), none, none, some (.int s.1), some (.int s.2), none, none, none, none, none, none] [] h r hr) (fun v : (Int32 × pH) => r = some (.int v.1) ∧ hr = v.2))) b) : Go E M_R_fitOf 114 [some (.ref 79), none, none, some (.int x3), some (.int x4), some (.int x5), some (.int x6), some (.int x7), some (.int x8), none, none] [.int t0] h r hr := by
  unfold f_R_fitOf_J5 at e
  obtain ⟨g_1, e⟩ := it_g e
  refine sl_ok ok_R_fitOf [.istore 9, .aload_n 0, .getfield 86, .iload 7, .iaload] (pc1 := 123) (ls1 := [some (.ref 79), none, none, some (.int x3), some (.int x4), some (.int x5), some (.int x6), some (.int x7), some (.int x8), some (.int t0), none]) (st1 := [.int (hI h 102 x7.toNatClampNeg)]) (h1 := h) (P := (ak 79 = 0 ∧ cx 79 = 12) ∧ (ak 102 = 1 ∧ ¬ (x7 < 0 ∨ cx 102 ≤ x7.toNatClampNeg)) ∧ True) (by decide +kernel) rfl ⟨⟨rfl, rfl⟩, ⟨rfl, g_1⟩, trivial⟩ ?_
  refine q_if_gt (off := 7) (tgt := 130) (by decide +kernel) (by decide) (fun c_2 => ?_) (fun c_2 => ?_)
  · have e := it_t c_2 e
    refine sl_ok ok_R_fitOf [.iconst 0] (pc1 := 131) (ls1 := [some (.ref 79), none, none, some (.int x3), some (.int x4), some (.int x5), some (.int x6), some (.int x7), some (.int x8), some (.int t0), none]) (st1 := [.int 0]) (h1 := h) (P := True) (by decide +kernel) rfl trivial ?_
    exact b_R_fitOf_J6  e k
  · have e := it_f c_2 e
    refine sl_ok ok_R_fitOf [.iconst 1] (pc1 := 127) (ls1 := [some (.ref 79), none, none, some (.int x3), some (.int x4), some (.int x5), some (.int x6), some (.int x7), some (.int x8), some (.int t0), none]) (st1 := [.int 1]) (h1 := h) (P := True) (by decide +kernel) rfl trivial ?_
    refine q_goto (off := 4) (tgt := 131) (by decide) (by decide +kernel) ?_
    exact b_R_fitOf_J6  e k
def f_R_fitOf_J4 (x3 : Int32) (x4 : Int32) (x5 : Int32) (x6 : Int32) (x7 : Int32) (t0 : Int32) (h : pH) : Option ((Int32 × Int32 × Int32) ⊕ ((Int32 × Int32) ⊕ (Int32 × pH))) :=
  if x7 < 0 ∨ 12 ≤ x7.toNatClampNeg then none else
  if (hI h 102 x7.toNatClampNeg) < 0 then
    f_R_fitOf_J5 x3 x4 x5 x6 x7 t0 0 h
  else
    f_R_fitOf_J5 x3 x4 x5 x6 x7 t0 1 h
set_option maxHeartbeats 4000000 in
theorem b_R_fitOf_J4 {E : pE} {r : Option Value} {hr : pH} {x3 : Int32} {x4 : Int32} {x5 : Int32} {x6 : Int32} {x7 : Int32} {t0 : Int32} {h : pH}  {b : ((Int32 × Int32 × Int32) ⊕ ((Int32 × Int32) ⊕ (Int32 × pH)))} (e : f_R_fitOf_J4 x3 x4 x5 x6 x7 t0 h = some b) (k : (Sum.elim (fun s : (Int32 × Int32 × Int32) => Go E M_R_fitOf 63 [some (.ref 79), none, none, some (.int x3), some (.int x4), some (.int s.1), some (.int s.2.1), some (.int s.2.2), none, none, none] [] h r hr) (Sum.elim (fun s : (Int32 × Int32) => Go E M_R_fitOf 45 [some (.ref 79), none, none, some (.int s.1), some (.int s.2), none, none, none, none, none, none] [] h r hr) (fun v : (Int32 × pH) => r = some (.int v.1) ∧ hr = v.2))) b) : Go E M_R_fitOf 97 [some (.ref 79), none, none, some (.int x3), some (.int x4), some (.int x5), some (.int x6), some (.int x7), none, none, none] [.int t0] h r hr := by
  unfold f_R_fitOf_J4 at e
  obtain ⟨g_1, e⟩ := it_g e
  refine sl_ok ok_R_fitOf [.istore 8, .aload_n 0, .getfield 86, .iload 7, .iaload] (pc1 := 106) (ls1 := [some (.ref 79), none, none, some (.int x3), some (.int x4), some (.int x5), some (.int x6), some (.int x7), some (.int t0), none, none]) (st1 := [.int (hI h 102 x7.toNatClampNeg)]) (h1 := h) (P := (ak 79 = 0 ∧ cx 79 = 12) ∧ (ak 102 = 1 ∧ ¬ (x7 < 0 ∨ cx 102 ≤ x7.toNatClampNeg)) ∧ True) (by decide +kernel) rfl ⟨⟨rfl, rfl⟩, ⟨rfl, g_1⟩, trivial⟩ ?_
  refine q_if_lt (off := 7) (tgt := 113) (by decide +kernel) (by decide) (fun c_2 => ?_) (fun c_2 => ?_)
  · have e := it_t c_2 e
    refine sl_ok ok_R_fitOf [.iconst 0] (pc1 := 114) (ls1 := [some (.ref 79), none, none, some (.int x3), some (.int x4), some (.int x5), some (.int x6), some (.int x7), some (.int t0), none, none]) (st1 := [.int 0]) (h1 := h) (P := True) (by decide +kernel) rfl trivial ?_
    exact b_R_fitOf_J5  e k
  · have e := it_f c_2 e
    refine sl_ok ok_R_fitOf [.iconst 1] (pc1 := 110) (ls1 := [some (.ref 79), none, none, some (.int x3), some (.int x4), some (.int x5), some (.int x6), some (.int x7), some (.int t0), none, none]) (st1 := [.int 1]) (h1 := h) (P := True) (by decide +kernel) rfl trivial ?_
    refine q_goto (off := 4) (tgt := 114) (by decide) (by decide +kernel) ?_
    exact b_R_fitOf_J5  e k
def f_R_fitOf_L3 (x3 : Int32) (x4 : Int32) (h : pH) (x5 : Int32) (x6 : Int32) (x7 : Int32) : Option ((Int32 × Int32 × Int32) ⊕ ((Int32 × Int32) ⊕ (Int32 × pH))) :=
  if (f_R_all h) ≤ x7 then
    some (.inr (.inl ((f_R_lesser x3 (f_R_lesser x5 x6)), (x4 + 1))))
  else
    if x4 < 0 then
      f_R_fitOf_J4 x3 x4 x5 x6 x7 0 h
    else
      (f_R_x x7 h).bind fun v_3 =>
      (f_R_x x4 h).bind fun v_5 =>
      if v_5 < v_3 then
        f_R_fitOf_J4 x3 x4 x5 x6 x7 0 h
      else
        f_R_fitOf_J4 x3 x4 x5 x6 x7 1 h
set_option maxHeartbeats 4000000 in
theorem b_R_fitOf_L3 {E : pE} {r : Option Value} {hr : pH} {x3 : Int32} {x4 : Int32} {h : pH} {x5 : Int32} {x6 : Int32} {x7 : Int32}  {b : ((Int32 × Int32 × Int32) ⊕ ((Int32 × Int32) ⊕ (Int32 × pH)))} (e : f_R_fitOf_L3 x3 x4 h x5 x6 x7 = some b) (k : (Sum.elim (fun s : (Int32 × Int32 × Int32) => Go E M_R_fitOf 63 [some (.ref 79), none, none, some (.int x3), some (.int x4), some (.int s.1), some (.int s.2.1), some (.int s.2.2), none, none, none] [] h r hr) (Sum.elim (fun s : (Int32 × Int32) => Go E M_R_fitOf 45 [some (.ref 79), none, none, some (.int s.1), some (.int s.2), none, none, none, none, none, none] [] h r hr) (fun v : (Int32 × pH) => r = some (.int v.1) ∧ hr = v.2))) b) : Go E M_R_fitOf 63 [some (.ref 79), none, none, some (.int x3), some (.int x4), some (.int x5), some (.int x6), some (.int x7), none, none, none] [] h r hr := by
  unfold f_R_fitOf_L3 at e
  refine sl_ok ok_R_fitOf [.iload 7, .aload_n 0] (pc1 := 66) (ls1 := [some (.ref 79), none, none, some (.int x3), some (.int x4), some (.int x5), some (.int x6), some (.int x7), none, none, none]) (st1 := [.ref 79, .int x7]) (h1 := h) (P := True) (by decide +kernel) rfl trivial ?_
  refine q_callV ok_R_all (as := []) (st := [.int x7]) ⟨wd_151, wd_152, wd_153, wd_7, ds_R_all, Nat.le_of_ble_eq_true rfl, Nat.le_of_ble_eq_true rfl⟩ (s_R_all ) rfl ⟨rfl, rfl⟩ (ci := 12) rfl (fun v hv => by cases hv; rfl) (Nat.le_of_ble_eq_true rfl) (by decide +kernel) rfl ?_
  refine q_icmp_ge (off := 112) (tgt := 181) (by decide +kernel) (by decide) (fun c_1 => ?_) (fun c_1 => ?_)
  · have e := it_t c_1 e
    refine sl_ok ok_R_fitOf [.iload_n 3, .iload 5, .iload 6] (pc1 := 186) (ls1 := [some (.ref 79), none, none, some (.int x3), some (.int x4), some (.int x5), some (.int x6), some (.int x7), none, none, none]) (st1 := [.int x6, .int x5, .int x3]) (h1 := h) (P := True) (by decide +kernel) rfl trivial ?_
    refine q_callS ok_R_lesser (as := [.int x5, .int x6]) (st := [.int x3]) ⟨wd_275, wd_276, wd_7, ds_R_lesser, Nat.le_of_ble_eq_true rfl, Nat.le_of_ble_eq_true rfl⟩ (s_R_lesser ) rfl (fun v hv => by cases hv; rfl) (Nat.le_of_ble_eq_true rfl) (by decide +kernel) rfl ?_
    refine q_callS ok_R_lesser (as := [.int x3, .int (f_R_lesser x5 x6)]) (st := []) ⟨wd_275, wd_276, wd_7, ds_R_lesser, Nat.le_of_ble_eq_true rfl, Nat.le_of_ble_eq_true rfl⟩ (s_R_lesser ) rfl (fun v hv => by cases hv; rfl) (Nat.le_of_ble_eq_true rfl) (by decide +kernel) rfl ?_
    refine sl_ok ok_R_fitOf [.istore_n 3, .iinc 4 1] (pc1 := 196) (ls1 := [some (.ref 79), none, none, some (.int (f_R_lesser x3 (f_R_lesser x5 x6))), some (.int (x4 + 1)), some (.int x5), some (.int x6), some (.int x7), none, none, none]) (st1 := []) (h1 := h) (P := True) (by decide +kernel) rfl trivial ?_
    refine q_goto (off := -151) (tgt := 45) (by decide) (by decide +kernel) ?_
    cases e
    refine Go.sb [some (.ref 79), none, none, some (.int (f_R_lesser x3 (f_R_lesser x5 x6))), some (.int (x4 + 1)), none, none, none, none, none, none] (And.intro rfl (And.intro rfl (And.intro rfl trivial))) ?_
    exact k
  · have e := it_f c_1 e
    refine sl_ok ok_R_fitOf [.iload 4] (pc1 := 74) (ls1 := [some (.ref 79), none, none, some (.int x3), some (.int x4), some (.int x5), some (.int x6), some (.int x7), none, none, none]) (st1 := [.int x4]) (h1 := h) (P := True) (by decide +kernel) rfl trivial ?_
    refine q_if_lt (off := 22) (tgt := 96) (by decide +kernel) (by decide) (fun c_2 => ?_) (fun c_2 => ?_)
    · have e := it_t c_2 e
      refine sl_ok ok_R_fitOf [.iconst 0] (pc1 := 97) (ls1 := [some (.ref 79), none, none, some (.int x3), some (.int x4), some (.int x5), some (.int x6), some (.int x7), none, none, none]) (st1 := [.int 0]) (h1 := h) (P := True) (by decide +kernel) rfl trivial ?_
      exact b_R_fitOf_J4  e k
    · have e := it_f c_2 e
      refine sl_ok ok_R_fitOf [.aload_n 0, .iload 7] (pc1 := 80) (ls1 := [some (.ref 79), none, none, some (.int x3), some (.int x4), some (.int x5), some (.int x6), some (.int x7), none, none, none]) (st1 := [.int x7, .ref 79]) (h1 := h) (P := True) (by decide +kernel) rfl trivial ?_
      obtain ⟨v_3, e_4, e⟩ := bi_s e
      refine q_callV ok_R_x (as := [.int x7]) (st := []) ⟨wd_154, wd_155, wd_156, wd_7, ds_R_x, Nat.le_of_ble_eq_true rfl, Nat.le_of_ble_eq_true rfl⟩ (s_R_x  e_4) rfl ⟨rfl, rfl⟩ (ci := 12) rfl (fun v hv => by cases hv; rfl) (Nat.le_of_ble_eq_true rfl) (by decide +kernel) rfl ?_
      refine sl_ok ok_R_fitOf [.aload_n 0, .iload 4] (pc1 := 86) (ls1 := [some (.ref 79), none, none, some (.int x3), some (.int x4), some (.int x5), some (.int x6), some (.int x7), none, none, none]) (st1 := [.int x4, .ref 79, .int v_3]) (h1 := h) (P := True) (by decide +kernel) rfl trivial ?_
      obtain ⟨v_5, e_6, e⟩ := bi_s e
      refine q_callV ok_R_x (as := [.int x4]) (st := [.int v_3]) ⟨wd_154, wd_155, wd_156, wd_7, ds_R_x, Nat.le_of_ble_eq_true rfl, Nat.le_of_ble_eq_true rfl⟩ (s_R_x  e_6) rfl ⟨rfl, rfl⟩ (ci := 12) rfl (fun v hv => by cases hv; rfl) (Nat.le_of_ble_eq_true rfl) (by decide +kernel) rfl ?_
      refine q_icmp_gt (off := 7) (tgt := 96) (by decide +kernel) (by decide) (fun c_7 => ?_) (fun c_7 => ?_)
      · have e := it_t c_7 e
        refine sl_ok ok_R_fitOf [.iconst 0] (pc1 := 97) (ls1 := [some (.ref 79), none, none, some (.int x3), some (.int x4), some (.int x5), some (.int x6), some (.int x7), none, none, none]) (st1 := [.int 0]) (h1 := h) (P := True) (by decide +kernel) rfl trivial ?_
        exact b_R_fitOf_J4  e k
      · have e := it_f c_7 e
        refine sl_ok ok_R_fitOf [.iconst 1] (pc1 := 93) (ls1 := [some (.ref 79), none, none, some (.int x3), some (.int x4), some (.int x5), some (.int x6), some (.int x7), none, none, none]) (st1 := [.int 1]) (h1 := h) (P := True) (by decide +kernel) rfl trivial ?_
        refine q_goto (off := 4) (tgt := 97) (by decide) (by decide +kernel) ?_
        exact b_R_fitOf_J4  e k
def f_R_fitOf_L2 (h : pH) (x3 : Int32) (x4 : Int32) : Option ((Int32 × Int32) ⊕ (Int32 × pH)) :=
  if (f_R_all h) ≤ x4 then
    some (.inr (x3, h))
  else
    lp (fun s => f_R_fitOf_L3 x3 x4 h s.1 s.2.1 s.2.2) lpN (0, 0, 0)
set_option maxHeartbeats 4000000 in
theorem b_R_fitOf_L2 {E : pE} {r : Option Value} {hr : pH} {h : pH} {x3 : Int32} {x4 : Int32}  {b : ((Int32 × Int32) ⊕ (Int32 × pH))} (e : f_R_fitOf_L2 h x3 x4 = some b) (k : (Sum.elim (fun s : (Int32 × Int32) => Go E M_R_fitOf 45 [some (.ref 79), none, none, some (.int s.1), some (.int s.2), none, none, none, none, none, none] [] h r hr) (fun v : (Int32 × pH) => r = some (.int v.1) ∧ hr = v.2)) b) : Go E M_R_fitOf 45 [some (.ref 79), none, none, some (.int x3), some (.int x4), none, none, none, none, none, none] [] h r hr := by
  unfold f_R_fitOf_L2 at e
  refine sl_ok ok_R_fitOf [.iload 4, .aload_n 0] (pc1 := 48) (ls1 := [some (.ref 79), none, none, some (.int x3), some (.int x4), none, none, none, none, none, none]) (st1 := [.ref 79, .int x4]) (h1 := h) (P := True) (by decide +kernel) rfl trivial ?_
  refine q_callV ok_R_all (as := []) (st := [.int x4]) ⟨wd_151, wd_152, wd_153, wd_7, ds_R_all, Nat.le_of_ble_eq_true rfl, Nat.le_of_ble_eq_true rfl⟩ (s_R_all ) rfl ⟨rfl, rfl⟩ (ci := 12) rfl (fun v hv => by cases hv; rfl) (Nat.le_of_ble_eq_true rfl) (by decide +kernel) rfl ?_
  refine q_icmp_ge (off := 148) (tgt := 199) (by decide +kernel) (by decide) (fun c_1 => ?_) (fun c_1 => ?_)
  · have e := it_t c_1 e
    refine sl_ok ok_R_fitOf [.iload_n 3] (pc1 := 200) (ls1 := [some (.ref 79), none, none, some (.int x3), some (.int x4), none, none, none, none, none, none]) (st1 := [.int x3]) (h1 := h) (P := True) (by decide +kernel) rfl trivial ?_
    cases e
    exact q_iret rfl k.1 k.2 (by decide +kernel)
  · have e := it_f c_1 e
    refine sl_ok ok_R_fitOf [.iconst 0, .istore 5, .iconst 0, .istore 6, .iconst 0, .istore 7] (pc1 := 63) (ls1 := [some (.ref 79), none, none, some (.int x3), some (.int x4), some (.int 0), some (.int 0), some (.int 0), none, none, none]) (st1 := []) (h1 := h) (P := True) (by decide +kernel) rfl trivial ?_
    exact lp_in e (fun s => Go E M_R_fitOf 63 [some (.ref 79), none, none, some (.int x3), some (.int x4), some (.int s.1), some (.int s.2.1), some (.int s.2.2), none, none, none] [] h r hr) (Sum.elim (fun s : (Int32 × Int32) => Go E M_R_fitOf 45 [some (.ref 79), none, none, some (.int s.1), some (.int s.2), none, none, none, none, none, none] [] h r hr) (fun v : (Int32 × pH) => r = some (.int v.1) ∧ hr = v.2)) (fun _ _ e k => b_R_fitOf_L3  e k) k
def f_R_fitOf_L1 (x1 : Int32) (x2 : Int32) (x3 : Int32) (h : pH) : Option ((Int32 × pH) ⊕ (Int32 × pH)) :=
  if (f_R_all h) ≤ x3 then
    mi (lp (fun s => f_R_fitOf_L2 h s.1 s.2) lpN ((f_R_all h), (-1)))
  else
    (f_R_y x3 h).bind fun v_2 =>
    (f_R_x x3 h).bind fun v_4 =>
    if x3 < 0 ∨ 12 ≤ x3.toNatClampNeg then none else
    some (.inl ((x3 + 1), (sI h 102 x3.toNatClampNeg ((v_2 - (x1 * v_4)) - x2))))
set_option maxHeartbeats 4000000 in
theorem b_R_fitOf_L1 {E : pE} {r : Option Value} {hr : pH} {x1 : Int32} {x2 : Int32} {x3 : Int32} {h : pH}  {b : ((Int32 × pH) ⊕ (Int32 × pH))} (e : f_R_fitOf_L1 x1 x2 x3 h = some b) (k : (Sum.elim (fun s : (Int32 × pH) => Go E M_R_fitOf 2 [some (.ref 79), some (.int x1), some (.int x2), some (.int s.1), none, none, none, none, none, none, none] [] s.2 r hr) (fun v : (Int32 × pH) => r = some (.int v.1) ∧ hr = v.2)) b) : Go E M_R_fitOf 2 [some (.ref 79), some (.int x1), some (.int x2), some (.int x3), none, none, none, none, none, none, none] [] h r hr := by
  unfold f_R_fitOf_L1 at e
  refine sl_ok ok_R_fitOf [.iload_n 3, .aload_n 0] (pc1 := 4) (ls1 := [some (.ref 79), some (.int x1), some (.int x2), some (.int x3), none, none, none, none, none, none, none]) (st1 := [.ref 79, .int x3]) (h1 := h) (P := True) (by decide +kernel) rfl trivial ?_
  refine q_callV ok_R_all (as := []) (st := [.int x3]) ⟨wd_151, wd_152, wd_153, wd_7, ds_R_all, Nat.le_of_ble_eq_true rfl, Nat.le_of_ble_eq_true rfl⟩ (s_R_all ) rfl ⟨rfl, rfl⟩ (ci := 12) rfl (fun v hv => by cases hv; rfl) (Nat.le_of_ble_eq_true rfl) (by decide +kernel) rfl ?_
  refine q_icmp_ge (off := 30) (tgt := 37) (by decide +kernel) (by decide) (fun c_1 => ?_) (fun c_1 => ?_)
  · have e := it_t c_1 e
    refine sl_ok ok_R_fitOf [.aload_n 0] (pc1 := 38) (ls1 := [some (.ref 79), some (.int x1), some (.int x2), some (.int x3), none, none, none, none, none, none, none]) (st1 := [.ref 79]) (h1 := h) (P := True) (by decide +kernel) rfl trivial ?_
    refine q_callV ok_R_all (as := []) (st := []) ⟨wd_151, wd_152, wd_153, wd_7, ds_R_all, Nat.le_of_ble_eq_true rfl, Nat.le_of_ble_eq_true rfl⟩ (s_R_all ) rfl ⟨rfl, rfl⟩ (ci := 12) rfl (fun v hv => by cases hv; rfl) (Nat.le_of_ble_eq_true rfl) (by decide +kernel) rfl ?_
    refine sl_ok ok_R_fitOf [.istore_n 3, .iconst (-1), .istore 4] (pc1 := 45) (ls1 := [some (.ref 79), some (.int x1), some (.int x2), some (.int (f_R_all h)), some (.int (-1)), none, none, none, none, none, none]) (st1 := []) (h1 := h) (P := True) (by decide +kernel) rfl trivial ?_
    refine Go.sb [some (.ref 79), none, none, some (.int (f_R_all h)), some (.int (-1)), none, none, none, none, none, none] (And.intro rfl (And.intro rfl (And.intro rfl trivial))) ?_
    obtain ⟨_, e9, rfl⟩ := mi_s e
    have e := e9
    exact lp_in e (fun s => Go E M_R_fitOf 45 [some (.ref 79), none, none, some (.int s.1), some (.int s.2), none, none, none, none, none, none] [] h r hr) (fun v : (Int32 × pH) => r = some (.int v.1) ∧ hr = v.2) (fun _ _ e k => b_R_fitOf_L2  e k) k
  · have e := it_f c_1 e
    refine sl_ok ok_R_fitOf [.aload_n 0, .getfield 86, .iload_n 3, .aload_n 0, .iload_n 3] (pc1 := 17) (ls1 := [some (.ref 79), some (.int x1), some (.int x2), some (.int x3), none, none, none, none, none, none, none]) (st1 := [.int x3, .ref 79, .int x3, .ref 102]) (h1 := h) (P := (ak 79 = 0 ∧ cx 79 = 12) ∧ True) (by decide +kernel) rfl ⟨⟨rfl, rfl⟩, trivial⟩ ?_
    obtain ⟨v_2, e_3, e⟩ := bi_s e
    refine q_callV ok_R_y (as := [.int x3]) (st := [.int x3, .ref 102]) ⟨wd_157, wd_158, wd_159, wd_7, ds_R_y, Nat.le_of_ble_eq_true rfl, Nat.le_of_ble_eq_true rfl⟩ (s_R_y  e_3) rfl ⟨rfl, rfl⟩ (ci := 12) rfl (fun v hv => by cases hv; rfl) (Nat.le_of_ble_eq_true rfl) (by decide +kernel) rfl ?_
    refine sl_ok ok_R_fitOf [.iload_n 1, .aload_n 0, .iload_n 3] (pc1 := 23) (ls1 := [some (.ref 79), some (.int x1), some (.int x2), some (.int x3), none, none, none, none, none, none, none]) (st1 := [.int x3, .ref 79, .int x1, .int v_2, .int x3, .ref 102]) (h1 := h) (P := True) (by decide +kernel) rfl trivial ?_
    obtain ⟨v_4, e_5, e⟩ := bi_s e
    refine q_callV ok_R_x (as := [.int x3]) (st := [.int x1, .int v_2, .int x3, .ref 102]) ⟨wd_154, wd_155, wd_156, wd_7, ds_R_x, Nat.le_of_ble_eq_true rfl, Nat.le_of_ble_eq_true rfl⟩ (s_R_x  e_5) rfl ⟨rfl, rfl⟩ (ci := 12) rfl (fun v hv => by cases hv; rfl) (Nat.le_of_ble_eq_true rfl) (by decide +kernel) rfl ?_
    obtain ⟨g_6, e⟩ := it_g e
    refine sl_ok ok_R_fitOf [.imul, .isub, .iload_n 2, .isub, .iastore, .iinc 3 1] (pc1 := 34) (ls1 := [some (.ref 79), some (.int x1), some (.int x2), some (.int (x3 + 1)), none, none, none, none, none, none, none]) (st1 := []) (h1 := (sI h 102 x3.toNatClampNeg ((v_2 - (x1 * v_4)) - x2))) (P := (ak 102 = 1 ∧ ¬ (x3 < 0 ∨ cx 102 ≤ x3.toNatClampNeg)) ∧ True) (by decide +kernel) rfl ⟨⟨rfl, g_6⟩, trivial⟩ ?_
    refine q_goto (off := -32) (tgt := 2) (by decide) (by decide +kernel) ?_
    cases e
    exact k
def f_R_fitOf (x1 : Int32) (x2 : Int32) (h : pH) : Option (Int32 × pH) :=
  lp (fun s => f_R_fitOf_L1 x1 x2 s.1 s.2) lpN (0, h)
set_option maxHeartbeats 4000000 in
theorem b_R_fitOf {E : pE} {r : Option Value} {hr : pH} {x1 : Int32} {x2 : Int32} {h : pH}  {b : (Int32 × pH)} (e : f_R_fitOf x1 x2 h = some b) (k : (fun v : (Int32 × pH) => r = some (.int v.1) ∧ hr = v.2) b) : Go E M_R_fitOf 0 [some (.ref 79), some (.int x1), some (.int x2), none, none, none, none, none, none, none, none] [] h r hr := by
  unfold f_R_fitOf at e
  refine sl_ok ok_R_fitOf [.iconst 0, .istore_n 3] (pc1 := 2) (ls1 := [some (.ref 79), some (.int x1), some (.int x2), some (.int 0), none, none, none, none, none, none, none]) (st1 := []) (h1 := h) (P := True) (by decide +kernel) rfl trivial ?_
  exact lp_in e (fun s => Go E M_R_fitOf 2 [some (.ref 79), some (.int x1), some (.int x2), some (.int s.1), none, none, none, none, none, none, none] [] s.2 r hr) (fun v : (Int32 × pH) => r = some (.int v.1) ∧ hr = v.2) (fun _ _ e k => b_R_fitOf_L1  e k) k
theorem s_R_fitOf {E : pE} {x1 : Int32} {x2 : Int32} {h : pH}  {v : (Int32 × pH)} (e : f_R_fitOf x1 x2 h = some v) : Ct E M_R_fitOf [.ref 79, .int x1, .int x2] h (some (.int v.1)) v.2 :=
  Ct_of ok_R_fitOf [some (.ref 79), some (.int x1), some (.int x2), none, none, none, none, none, none, none, none] (Nat.le_of_ble_eq_true rfl) rfl (b_R_fitOf  e ⟨rfl, rfl⟩)
def f_R_fit (x1 : Int32) (x2 : Int32) (h : pH) : Option (Int32 × pH) :=
  if (f_R_in x1 ((-100) : Int32) (100 : Int32)) = 0 then
    some ((-1), h)
  else
    if (f_R_in x2 ((-10000) : Int32) (10000 : Int32)) = 0 then
      some ((-1), h)
    else
      (f_R_fitOf x1 x2 h).bind fun v_3 =>
      some (v_3.1, v_3.2)
set_option maxHeartbeats 4000000 in
theorem b_R_fit {E : pE} {r : Option Value} {hr : pH} {x1 : Int32} {x2 : Int32} {h : pH}  {b : (Int32 × pH)} (e : f_R_fit x1 x2 h = some b) (k : (fun v : (Int32 × pH) => r = some (.int v.1) ∧ hr = v.2) b) : Go E M_R_fit 0 [some (.ref 79), some (.int x1), some (.int x2)] [] h r hr := by
  unfold f_R_fit at e
  refine sl_ok ok_R_fit [.iload_n 1, .bipush (-100), .bipush 100] (pc1 := 5) (ls1 := [some (.ref 79), some (.int x1), some (.int x2)]) (st1 := [.int 100, .int (-100), .int x1]) (h1 := h) (P := True) (by decide +kernel) rfl trivial ?_
  refine q_callS ok_R_in (as := [.int x1, .int (-100), .int 100]) (st := []) ⟨wd_127, wd_128, wd_7, ds_R_in, Nat.le_of_ble_eq_true rfl, Nat.le_of_ble_eq_true rfl⟩ (s_R_in ) rfl (fun v hv => by cases hv; rfl) (Nat.le_of_ble_eq_true rfl) (by decide +kernel) rfl ?_
  refine q_if_eq (off := 25) (tgt := 33) (by decide +kernel) (by decide) (fun c_1 => ?_) (fun c_1 => ?_)
  · have e := it_t c_1 e
    refine sl_ok ok_R_fit [.iconst (-1)] (pc1 := 34) (ls1 := [some (.ref 79), some (.int x1), some (.int x2)]) (st1 := [.int (-1)]) (h1 := h) (P := True) (by decide +kernel) rfl trivial ?_
    cases e
    exact q_iret rfl k.1 k.2 (by decide +kernel)
  · have e := it_f c_1 e
    refine sl_ok ok_R_fit [.iload_n 2, .sipush (-10000), .sipush 10000] (pc1 := 18) (ls1 := [some (.ref 79), some (.int x1), some (.int x2)]) (st1 := [.int 10000, .int (-10000), .int x2]) (h1 := h) (P := True) (by decide +kernel) rfl trivial ?_
    refine q_callS ok_R_in (as := [.int x2, .int (-10000), .int 10000]) (st := []) ⟨wd_127, wd_128, wd_7, ds_R_in, Nat.le_of_ble_eq_true rfl, Nat.le_of_ble_eq_true rfl⟩ (s_R_in ) rfl (fun v hv => by cases hv; rfl) (Nat.le_of_ble_eq_true rfl) (by decide +kernel) rfl ?_
    refine q_if_eq (off := 12) (tgt := 33) (by decide +kernel) (by decide) (fun c_2 => ?_) (fun c_2 => ?_)
    · have e := it_t c_2 e
      refine sl_ok ok_R_fit [.iconst (-1)] (pc1 := 34) (ls1 := [some (.ref 79), some (.int x1), some (.int x2)]) (st1 := [.int (-1)]) (h1 := h) (P := True) (by decide +kernel) rfl trivial ?_
      cases e
      exact q_iret rfl k.1 k.2 (by decide +kernel)
    · have e := it_f c_2 e
      refine sl_ok ok_R_fit [.aload_n 0, .iload_n 1, .iload_n 2] (pc1 := 27) (ls1 := [some (.ref 79), some (.int x1), some (.int x2)]) (st1 := [.int x2, .int x1, .ref 79]) (h1 := h) (P := True) (by decide +kernel) rfl trivial ?_
      obtain ⟨v_3, e_4, e⟩ := bi_s e
      refine q_callV ok_R_fitOf (as := [.int x1, .int x2]) (st := []) ⟨wd_474, wd_475, wd_476, wd_7, ds_R_fitOf, Nat.le_of_ble_eq_true rfl, Nat.le_of_ble_eq_true rfl⟩ (s_R_fitOf  e_4) rfl ⟨rfl, rfl⟩ (ci := 12) rfl (fun v hv => by cases hv; rfl) (Nat.le_of_ble_eq_true rfl) (by decide +kernel) rfl ?_
      refine q_goto (off := 4) (tgt := 34) (by decide) (by decide +kernel) ?_
      cases e
      exact q_iret rfl k.1 k.2 (by decide +kernel)
theorem s_R_fit {E : pE} {x1 : Int32} {x2 : Int32} {h : pH}  {v : (Int32 × pH)} (e : f_R_fit x1 x2 h = some v) : Ct E M_R_fit [.ref 79, .int x1, .int x2] h (some (.int v.1)) v.2 :=
  Ct_of ok_R_fit [some (.ref 79), some (.int x1), some (.int x2)] (Nat.le_of_ble_eq_true rfl) rfl (b_R_fit  e ⟨rfl, rfl⟩)
def f_Fits_noteFit_J1 (x1 : Int32) (h : pH) : pH :=
  if x1 = (hI h 26 2) then
    (sI h 26 3 ((hI h 26 3) + 1))
  else
    h
set_option maxHeartbeats 4000000 in
theorem b_Fits_noteFit_J1 {E : pE} {r : Option Value} {hr : pH} {x1 : Int32} {h : pH}  {b : pH} (e : f_Fits_noteFit_J1 x1 h = b) (k : (fun v : pH => r = none ∧ hr = v) b) : Go E M_Fits_noteFit 28 [some (.ref 26), some (.int x1), none, none] [] h r hr := by
  unfold f_Fits_noteFit_J1 at e
  refine sl_ok ok_Fits_noteFit [.iload_n 1, .aload_n 0, .getfield 41] (pc1 := 33) (ls1 := [some (.ref 26), some (.int x1), none, none]) (st1 := [.int (hI h 26 2), .int x1]) (h1 := h) (P := (ak 26 = 0 ∧ cx 26 = 3) ∧ True) (by decide +kernel) rfl ⟨⟨rfl, rfl⟩, trivial⟩ ?_
  refine q_icmp_ne (off := 13) (tgt := 46) (by decide +kernel) (by decide) (fun c_1 => ?_) (fun c_1 => ?_)
  · have e := it_f c_1 e
    cases e
    exact q_vret rfl k.1 k.2 (by decide +kernel)
  · have e := it_t c_1 e
    refine sl_ok ok_Fits_noteFit [.aload_n 0, .dup, .getfield 52, .iconst 1, .iadd, .putfield 52] (pc1 := 46) (ls1 := [some (.ref 26), some (.int x1), none, none]) (st1 := []) (h1 := (sI h 26 3 ((hI h 26 3) + 1))) (P := (ak 26 = 0 ∧ cx 26 = 3) ∧ (ak 26 = 0 ∧ cx 26 = 3) ∧ True) (by decide +kernel) rfl ⟨⟨rfl, rfl⟩, ⟨rfl, rfl⟩, trivial⟩ ?_
    cases e
    exact q_vret rfl k.1 k.2 (by decide +kernel)
def f_Fits_noteFit (x1 : Int32) (x2 : Int32) (x3 : Int32) (h : pH) : pH :=
  if x1 ≤ (hI h 26 2) then
    f_Fits_noteFit_J1 x1 h
  else
    f_Fits_noteFit_J1 x1 (sI (sI (sI (sI h 26 2 x1) 26 3 0) 26 4 x2) 26 5 x3)
set_option maxHeartbeats 4000000 in
theorem b_Fits_noteFit {E : pE} {r : Option Value} {hr : pH} {x1 : Int32} {x2 : Int32} {x3 : Int32} {h : pH}  {b : pH} (e : f_Fits_noteFit x1 x2 x3 h = b) (k : (fun v : pH => r = none ∧ hr = v) b) : Go E M_Fits_noteFit 0 [some (.ref 26), some (.int x1), some (.int x2), some (.int x3)] [] h r hr := by
  unfold f_Fits_noteFit at e
  refine sl_ok ok_Fits_noteFit [.iload_n 1, .aload_n 0, .getfield 41] (pc1 := 5) (ls1 := [some (.ref 26), some (.int x1), some (.int x2), some (.int x3)]) (st1 := [.int (hI h 26 2), .int x1]) (h1 := h) (P := (ak 26 = 0 ∧ cx 26 = 3) ∧ True) (by decide +kernel) rfl ⟨⟨rfl, rfl⟩, trivial⟩ ?_
  refine q_icmp_le (off := 23) (tgt := 28) (by decide +kernel) (by decide) (fun c_1 => ?_) (fun c_1 => ?_)
  · have e := it_t c_1 e
    refine Go.sb [some (.ref 26), some (.int x1), none, none] (And.intro rfl (And.intro rfl trivial)) ?_
    exact b_Fits_noteFit_J1  e k
  · have e := it_f c_1 e
    refine sl_ok ok_Fits_noteFit [.aload_n 0, .iload_n 1, .putfield 41, .aload_n 0, .iconst 0, .putfield 52, .aload_n 0, .iload_n 2, .putfield 55, .aload_n 0, .iload_n 3, .putfield 58] (pc1 := 28) (ls1 := [some (.ref 26), some (.int x1), some (.int x2), some (.int x3)]) (st1 := []) (h1 := (sI (sI (sI (sI h 26 2 x1) 26 3 0) 26 4 x2) 26 5 x3)) (P := (ak 26 = 0 ∧ cx 26 = 3) ∧ (ak 26 = 0 ∧ cx 26 = 3) ∧ (ak 26 = 0 ∧ cx 26 = 3) ∧ (ak 26 = 0 ∧ cx 26 = 3) ∧ True) (by decide +kernel) rfl ⟨⟨rfl, rfl⟩, ⟨rfl, rfl⟩, ⟨rfl, rfl⟩, ⟨rfl, rfl⟩, trivial⟩ ?_
    refine Go.sb [some (.ref 26), some (.int x1), none, none] (And.intro rfl (And.intro rfl trivial)) ?_
    exact b_Fits_noteFit_J1  e k
theorem s_Fits_noteFit {E : pE} {x1 : Int32} {x2 : Int32} {x3 : Int32} {h : pH}  : Ct E M_Fits_noteFit [.ref 26, .int x1, .int x2, .int x3] h none (f_Fits_noteFit x1 x2 x3 h) :=
  Ct_of ok_Fits_noteFit [some (.ref 26), some (.int x1), some (.int x2), some (.int x3)] (Nat.le_of_ble_eq_true rfl) rfl (b_Fits_noteFit  rfl ⟨rfl, rfl⟩)
def f_Fits_search_L2 (o1 : Nat) (x2 : Int32) (x3 : Int32) (h : pH) : Option ((Int32 × pH) ⊕ ((Int32 × pH) ⊕ pH)) :=
  if 50 < x3 then
    some (.inr (.inl ((x2 + 1), h)))
  else
    (f_Fits_fitOf o1 x2 x3 h).bind fun v_2 =>
    some (.inl ((x3 + 1), (f_Fits_noteFit v_2 x2 x3 h)))
set_option maxHeartbeats 4000000 in
theorem b_Fits_search_L2 {E : pE} {r : Option Value} {hr : pH} {o1 : Nat} {x2 : Int32} {x3 : Int32} {h : pH} (ho1 : ak o1 = 0 ∧ cx o1 = 0) {b : ((Int32 × pH) ⊕ ((Int32 × pH) ⊕ pH))} (e : f_Fits_search_L2 o1 x2 x3 h = some b) (k : (Sum.elim (fun s : (Int32 × pH) => Go E M_Fits_search 42 [some (.ref 26), some (.ref o1), some (.int x2), some (.int s.1)] [] s.2 r hr) (Sum.elim (fun s : (Int32 × pH) => Go E M_Fits_search 33 [some (.ref 26), some (.ref o1), some (.int s.1), none] [] s.2 r hr) (fun v : pH => r = none ∧ hr = v))) b) : Go E M_Fits_search 42 [some (.ref 26), some (.ref o1), some (.int x2), some (.int x3)] [] h r hr := by
  unfold f_Fits_search_L2 at e
  refine sl_ok ok_Fits_search [.iload_n 3, .bipush 50] (pc1 := 45) (ls1 := [some (.ref 26), some (.ref o1), some (.int x2), some (.int x3)]) (st1 := [.int 50, .int x3]) (h1 := h) (P := True) (by decide +kernel) rfl trivial ?_
  refine q_icmp_gt (off := 22) (tgt := 67) (by decide +kernel) (by decide) (fun c_1 => ?_) (fun c_1 => ?_)
  · have e := it_t c_1 e
    refine sl_ok ok_Fits_search [.iinc 2 1] (pc1 := 70) (ls1 := [some (.ref 26), some (.ref o1), some (.int (x2 + 1)), some (.int x3)]) (st1 := []) (h1 := h) (P := True) (by decide +kernel) rfl trivial ?_
    refine q_goto (off := -37) (tgt := 33) (by decide) (by decide +kernel) ?_
    cases e
    refine Go.sb [some (.ref 26), some (.ref o1), some (.int (x2 + 1)), none] (And.intro rfl (And.intro rfl (And.intro rfl trivial))) ?_
    exact k
  · have e := it_f c_1 e
    refine sl_ok ok_Fits_search [.aload_n 0, .aload_n 0, .aload_n 1, .iload_n 2, .iload_n 3] (pc1 := 53) (ls1 := [some (.ref 26), some (.ref o1), some (.int x2), some (.int x3)]) (st1 := [.int x3, .int x2, .ref o1, .ref 26, .ref 26]) (h1 := h) (P := True) (by decide +kernel) rfl trivial ?_
    obtain ⟨v_2, e_3, e⟩ := bi_s e
    refine q_callV ok_Fits_fitOf (as := [.ref o1, .int x2, .int x3]) (st := [.ref 26]) ⟨wd_478, wd_472, wd_473, wd_470, ds_Fits_fitOf, Nat.le_of_ble_eq_true rfl, Nat.le_of_ble_eq_true rfl⟩ (s_Fits_fitOf ho1 e_3) rfl ⟨rfl, rfl⟩ (ci := 3) rfl (fun v hv => by cases hv; rfl) (Nat.le_of_ble_eq_true rfl) (by decide +kernel) rfl ?_
    refine sl_ok ok_Fits_search [.iload_n 2, .iload_n 3] (pc1 := 58) (ls1 := [some (.ref 26), some (.ref o1), some (.int x2), some (.int x3)]) (st1 := [.int x3, .int x2, .int v_2, .ref 26]) (h1 := h) (P := True) (by decide +kernel) rfl trivial ?_
    refine q_callV ok_Fits_noteFit (as := [.int v_2, .int x2, .int x3]) (st := []) ⟨wd_479, wd_480, wd_481, wd_470, ds_Fits_noteFit, Nat.le_of_ble_eq_true rfl, Nat.le_of_ble_eq_true rfl⟩ (s_Fits_noteFit ) rfl ⟨rfl, rfl⟩ (ci := 3) rfl (fun v hv => by cases hv) (Nat.le_of_ble_eq_true rfl) (by decide +kernel) rfl ?_
    refine sl_ok ok_Fits_search [.iinc 3 1] (pc1 := 64) (ls1 := [some (.ref 26), some (.ref o1), some (.int x2), some (.int (x3 + 1))]) (st1 := []) (h1 := (f_Fits_noteFit v_2 x2 x3 h)) (P := True) (by decide +kernel) rfl trivial ?_
    refine q_goto (off := -22) (tgt := 42) (by decide) (by decide +kernel) ?_
    cases e
    exact k
def f_Fits_search_L1 (o1 : Nat) (x2 : Int32) (h : pH) : Option ((Int32 × pH) ⊕ pH) :=
  if 10 < x2 then
    some (.inr h)
  else
    lp (fun s => f_Fits_search_L2 o1 x2 s.1 s.2) lpN ((-50), h)
set_option maxHeartbeats 4000000 in
theorem b_Fits_search_L1 {E : pE} {r : Option Value} {hr : pH} {o1 : Nat} {x2 : Int32} {h : pH} (ho1 : ak o1 = 0 ∧ cx o1 = 0) {b : ((Int32 × pH) ⊕ pH)} (e : f_Fits_search_L1 o1 x2 h = some b) (k : (Sum.elim (fun s : (Int32 × pH) => Go E M_Fits_search 33 [some (.ref 26), some (.ref o1), some (.int s.1), none] [] s.2 r hr) (fun v : pH => r = none ∧ hr = v)) b) : Go E M_Fits_search 33 [some (.ref 26), some (.ref o1), some (.int x2), none] [] h r hr := by
  unfold f_Fits_search_L1 at e
  refine sl_ok ok_Fits_search [.iload_n 2, .bipush 10] (pc1 := 36) (ls1 := [some (.ref 26), some (.ref o1), some (.int x2), none]) (st1 := [.int 10, .int x2]) (h1 := h) (P := True) (by decide +kernel) rfl trivial ?_
  refine q_icmp_gt (off := 37) (tgt := 73) (by decide +kernel) (by decide) (fun c_1 => ?_) (fun c_1 => ?_)
  · have e := it_t c_1 e
    cases e
    exact q_vret rfl k.1 k.2 (by decide +kernel)
  · have e := it_f c_1 e
    refine sl_ok ok_Fits_search [.bipush (-50), .istore_n 3] (pc1 := 42) (ls1 := [some (.ref 26), some (.ref o1), some (.int x2), some (.int (-50))]) (st1 := []) (h1 := h) (P := True) (by decide +kernel) rfl trivial ?_
    exact lp_in e (fun s => Go E M_Fits_search 42 [some (.ref 26), some (.ref o1), some (.int x2), some (.int s.1)] [] s.2 r hr) (Sum.elim (fun s : (Int32 × pH) => Go E M_Fits_search 33 [some (.ref 26), some (.ref o1), some (.int s.1), none] [] s.2 r hr) (fun v : pH => r = none ∧ hr = v)) (fun _ _ e k => b_Fits_search_L2 ho1 e k) k
def f_Fits_search (o1 : Nat) (h : pH) : Option pH :=
  if (hI h 26 1) = (hI h o1 4) then
    some h
  else
    (f_Fits_arrange o1 (sI h 26 1 (hI h o1 4))).bind fun v_2 =>
    lp (fun s => f_Fits_search_L1 o1 s.1 s.2) lpN ((-10), (sI v_2 26 2 (-1)))
set_option maxHeartbeats 4000000 in
theorem b_Fits_search {E : pE} {r : Option Value} {hr : pH} {o1 : Nat} {h : pH} (ho1 : ak o1 = 0 ∧ cx o1 = 0) {b : pH} (e : f_Fits_search o1 h = some b) (k : (fun v : pH => r = none ∧ hr = v) b) : Go E M_Fits_search 0 [some (.ref 26), some (.ref o1), none, none] [] h r hr := by
  unfold f_Fits_search at e
  refine sl_ok ok_Fits_search [.aload_n 0, .getfield 15, .aload_n 1, .getfield 36] (pc1 := 8) (ls1 := [some (.ref 26), some (.ref o1), none, none]) (st1 := [.int (hI h o1 4), .int (hI h 26 1)]) (h1 := h) (P := (ak 26 = 0 ∧ cx 26 = 3) ∧ (ak o1 = 0 ∧ cx o1 = 0) ∧ True) (by decide +kernel) rfl ⟨⟨rfl, rfl⟩, ho1, trivial⟩ ?_
  refine q_icmp_ne (off := 4) (tgt := 12) (by decide +kernel) (by decide) (fun c_1 => ?_) (fun c_1 => ?_)
  · have e := it_f c_1 e
    refine sl_ok ok_Fits_search [.aload_n 0, .aload_n 1, .getfield 36, .putfield 15, .aload_n 0, .aload_n 1] (pc1 := 22) (ls1 := [some (.ref 26), some (.ref o1), none, none]) (st1 := [.ref o1, .ref 26]) (h1 := (sI h 26 1 (hI h o1 4))) (P := (ak o1 = 0 ∧ cx o1 = 0) ∧ (ak 26 = 0 ∧ cx 26 = 3) ∧ True) (by decide +kernel) rfl ⟨ho1, ⟨rfl, rfl⟩, trivial⟩ ?_
    obtain ⟨v_2, e_3, e⟩ := bi_s e
    refine q_callV ok_Fits_arrange (as := [.ref o1]) (st := []) ⟨wd_477, wd_468, wd_469, wd_470, ds_Fits_arrange, Nat.le_of_ble_eq_true rfl, Nat.le_of_ble_eq_true rfl⟩ (s_Fits_arrange ho1 e_3) rfl ⟨rfl, rfl⟩ (ci := 3) rfl (fun v hv => by cases hv) (Nat.le_of_ble_eq_true rfl) (by decide +kernel) rfl ?_
    refine sl_ok ok_Fits_search [.aload_n 0, .iconst (-1), .putfield 41, .bipush (-10), .istore_n 2] (pc1 := 33) (ls1 := [some (.ref 26), some (.ref o1), some (.int (-10)), none]) (st1 := []) (h1 := (sI v_2 26 2 (-1))) (P := (ak 26 = 0 ∧ cx 26 = 3) ∧ True) (by decide +kernel) rfl ⟨⟨rfl, rfl⟩, trivial⟩ ?_
    exact lp_in e (fun s => Go E M_Fits_search 33 [some (.ref 26), some (.ref o1), some (.int s.1), none] [] s.2 r hr) (fun v : pH => r = none ∧ hr = v) (fun _ _ e k => b_Fits_search_L1 ho1 e k) k
  · have e := it_t c_1 e
    cases e
    exact q_vret rfl k.1 k.2 (by decide +kernel)
theorem s_Fits_search {E : pE} {o1 : Nat} {h : pH} (ho1 : ak o1 = 0 ∧ cx o1 = 0) {v : pH} (e : f_Fits_search o1 h = some v) : Ct E M_Fits_search [.ref 26, .ref o1] h none v :=
  Ct_of ok_Fits_search [some (.ref 26), some (.ref o1), none, none] (Nat.le_of_ble_eq_true rfl) rfl (b_Fits_search ho1 e ⟨rfl, rfl⟩)
def f_C_best (x1 : Int32) (h : pH) : Option (Int32 × pH) :=
  (f_Fits_search 8 h).bind fun v_1 =>
  if x1 = 0 then
    some ((hI v_1 26 2), v_1)
  else
    if x1 = 1 then
      some ((hI v_1 26 4), v_1)
    else
      if x1 = 2 then
        some ((hI v_1 26 5), v_1)
      else
        if x1 = 3 then
          some ((hI v_1 26 3), v_1)
        else
          some ((-100000), v_1)
set_option maxHeartbeats 4000000 in
theorem b_C_best {E : pE} {r : Option Value} {hr : pH} {x1 : Int32} {h : pH}  {b : (Int32 × pH)} (e : f_C_best x1 h = some b) (k : (fun v : (Int32 × pH) => r = some (.int v.1) ∧ hr = v.2) b) : Go E M_C_best 0 [some (.ref 0), some (.int x1)] [] h r hr := by
  unfold f_C_best at e
  refine sl_ok ok_C_best [.aload_n 0, .getfield 66, .aload_n 0, .getfield 28] (pc1 := 8) (ls1 := [some (.ref 0), some (.int x1)]) (st1 := [.ref 8, .ref 26]) (h1 := h) (P := (ak 0 = 0 ∧ cx 0 = 11) ∧ (ak 0 = 0 ∧ cx 0 = 11) ∧ True) (by decide +kernel) rfl ⟨⟨rfl, rfl⟩, ⟨rfl, rfl⟩, trivial⟩ ?_
  obtain ⟨v_1, e_2, e⟩ := bi_s e
  refine q_callV ok_Fits_search (as := [.ref 8]) (st := []) ⟨wd_482, wd_483, wd_484, wd_470, ds_Fits_search, Nat.le_of_ble_eq_true rfl, Nat.le_of_ble_eq_true rfl⟩ (s_Fits_search ⟨rfl, rfl⟩ e_2) rfl ⟨rfl, rfl⟩ (ci := 3) rfl (fun v hv => by cases hv) (Nat.le_of_ble_eq_true rfl) (by decide +kernel) rfl ?_
  refine sl_ok ok_C_best [.iload_n 1] (pc1 := 12) (ls1 := [some (.ref 0), some (.int x1)]) (st1 := [.int x1]) (h1 := v_1) (P := True) (by decide +kernel) rfl trivial ?_
  by_cases c_3 : x1 = 0
  · have e := it_t c_3 e
    refine q_tableIn (off := 32) (tgt := 44) (by decide +kernel : decode (mB M_C_best) 12 = .ok (.tableswitch 64 0 3 #[32, 40, 48, 56], 32)) (by rw [c_3]; decide) (by rw [c_3]; decide) (by rw [c_3]; decide) (by decide) ?_
    refine sl_ok ok_C_best [.aload_n 0, .getfield 66, .getfield 344] (pc1 := 51) (ls1 := [some (.ref 0), some (.int x1)]) (st1 := [.int (hI v_1 26 2)]) (h1 := v_1) (P := (ak 0 = 0 ∧ cx 0 = 11) ∧ (ak 26 = 0 ∧ cx 26 = 3) ∧ True) (by decide +kernel) rfl ⟨⟨rfl, rfl⟩, ⟨rfl, rfl⟩, trivial⟩ ?_
    cases e
    exact q_iret rfl k.1 k.2 (by decide +kernel)
  · have e := it_f c_3 e
    by_cases c_4 : x1 = 1
    · have e := it_t c_4 e
      refine q_tableIn (off := 40) (tgt := 52) (by decide +kernel : decode (mB M_C_best) 12 = .ok (.tableswitch 64 0 3 #[32, 40, 48, 56], 32)) (by rw [c_4]; decide) (by rw [c_4]; decide) (by rw [c_4]; decide) (by decide) ?_
      refine sl_ok ok_C_best [.aload_n 0, .getfield 66, .getfield 345] (pc1 := 59) (ls1 := [some (.ref 0), some (.int x1)]) (st1 := [.int (hI v_1 26 4)]) (h1 := v_1) (P := (ak 0 = 0 ∧ cx 0 = 11) ∧ (ak 26 = 0 ∧ cx 26 = 3) ∧ True) (by decide +kernel) rfl ⟨⟨rfl, rfl⟩, ⟨rfl, rfl⟩, trivial⟩ ?_
      cases e
      exact q_iret rfl k.1 k.2 (by decide +kernel)
    · have e := it_f c_4 e
      by_cases c_5 : x1 = 2
      · have e := it_t c_5 e
        refine q_tableIn (off := 48) (tgt := 60) (by decide +kernel : decode (mB M_C_best) 12 = .ok (.tableswitch 64 0 3 #[32, 40, 48, 56], 32)) (by rw [c_5]; decide) (by rw [c_5]; decide) (by rw [c_5]; decide) (by decide) ?_
        refine sl_ok ok_C_best [.aload_n 0, .getfield 66, .getfield 348] (pc1 := 67) (ls1 := [some (.ref 0), some (.int x1)]) (st1 := [.int (hI v_1 26 5)]) (h1 := v_1) (P := (ak 0 = 0 ∧ cx 0 = 11) ∧ (ak 26 = 0 ∧ cx 26 = 3) ∧ True) (by decide +kernel) rfl ⟨⟨rfl, rfl⟩, ⟨rfl, rfl⟩, trivial⟩ ?_
        cases e
        exact q_iret rfl k.1 k.2 (by decide +kernel)
      · have e := it_f c_5 e
        by_cases c_6 : x1 = 3
        · have e := it_t c_6 e
          refine q_tableIn (off := 56) (tgt := 68) (by decide +kernel : decode (mB M_C_best) 12 = .ok (.tableswitch 64 0 3 #[32, 40, 48, 56], 32)) (by rw [c_6]; decide) (by rw [c_6]; decide) (by rw [c_6]; decide) (by decide) ?_
          refine sl_ok ok_C_best [.aload_n 0, .getfield 66, .getfield 351] (pc1 := 75) (ls1 := [some (.ref 0), some (.int x1)]) (st1 := [.int (hI v_1 26 3)]) (h1 := v_1) (P := (ak 0 = 0 ∧ cx 0 = 11) ∧ (ak 26 = 0 ∧ cx 26 = 3) ∧ True) (by decide +kernel) rfl ⟨⟨rfl, rfl⟩, ⟨rfl, rfl⟩, trivial⟩ ?_
          cases e
          exact q_iret rfl k.1 k.2 (by decide +kernel)
        · have e := it_f c_6 e
          refine q_tableOut (tgt := 76) (by decide +kernel : decode (mB M_C_best) 12 = .ok (.tableswitch 64 0 3 #[32, 40, 48, 56], 32)) (sw_out [0, 1, 2, 3] (by decide) ⟨c_3, c_4, c_5, c_6, trivial⟩) (by decide) ?_
          refine sl_ok ok_C_best [.ldc 170] (pc1 := 78) (ls1 := [some (.ref 0), some (.int x1)]) (st1 := [.int (-100000)]) (h1 := v_1) (P := True) (by decide +kernel) rfl trivial ?_
          cases e
          exact q_iret rfl k.1 k.2 (by decide +kernel)
theorem s_C_best {E : pE} {x1 : Int32} {h : pH}  {v : (Int32 × pH)} (e : f_C_best x1 h = some v) : Ct E M_C_best [.ref 0, .int x1] h (some (.int v.1)) v.2 :=
  Ct_of ok_C_best [some (.ref 0), some (.int x1)] (Nat.le_of_ble_eq_true rfl) rfl (b_C_best  e ⟨rfl, rfl⟩)
def f_R_best_J3 (x1 : Int32) (x2 : Int32) (x3 : Int32) (x4 : Int32) (x5 : Int32) (x6 : Int32) (x7 : Int32) (x8 : Int32) (h : pH) : Option ((Int32 × Int32 × Int32 × Int32 × Int32 × pH) ⊕ ((Int32 × Int32 × Int32 × Int32 × Int32 × pH) ⊕ (Int32 × pH))) :=
  if x8 = x2 then
    some (.inl (x2, x3, x4, (x5 + 1), (x7 + 1), h))
  else
    some (.inl (x2, x3, x4, x5, (x7 + 1), h))
set_option maxHeartbeats 4000000 in
theorem b_R_best_J3 {E : pE} {r : Option Value} {hr : pH} {x1 : Int32} {x2 : Int32} {x3 : Int32} {x4 : Int32} {x5 : Int32} {x6 : Int32} {x7 : Int32} {x8 : Int32} {h : pH}  {b : ((Int32 × Int32 × Int32 × Int32 × Int32 × pH) ⊕ ((Int32 × Int32 × Int32 × Int32 × Int32 × pH) ⊕ (Int32 × pH)))} (e : f_R_best_J3 x1 x2 x3 x4 x5 x6 x7 x8 h = some b) (k : (Sum.elim (fun s : (Int32 × Int32 × Int32 × Int32 × Int32 × pH) => Go E M_R_best 37 [some (.ref 79), some (.int x1), some (.int s.1), some (.int s.2.1), some (.int s.2.2.1), some (.int s.2.2.2.1), some (.int x6), some (.int s.2.2.2.2.1), none] [] s.2.2.2.2.2 r hr) (Sum.elim (fun s : (Int32 × Int32 × Int32 × Int32 × Int32 × pH) => Go E M_R_best 26 [some (.ref 79), some (.int x1), some (.int s.1), some (.int s.2.1), some (.int s.2.2.1), some (.int s.2.2.2.1), some (.int s.2.2.2.2.1), none, none] [] s.2.2.2.2.2 r hr) (fun v : (Int32 × pH) => r = some (.int v.1) ∧ hr = v.2))) b) : Go E M_R_best 73 [some (.ref 79), some (.int x1), some (.int x2), some (.int x3), some (.int x4), some (.int x5), some (.int x6), some (.int x7), some (.int x8)] [] h r hr := by
  unfold f_R_best_J3 at e
  refine sl_ok ok_R_best [.iload 8, .iload_n 2] (pc1 := 76) (ls1 := [some (.ref 79), some (.int x1), some (.int x2), some (.int x3), some (.int x4), some (.int x5), some (.int x6), some (.int x7), some (.int x8)]) (st1 := [.int x2, .int x8]) (h1 := h) (P := True) (by decide +kernel) rfl trivial ?_
  refine q_icmp_ne (off := 6) (tgt := 82) (by decide +kernel) (by decide) (fun c_1 => ?_) (fun c_1 => ?_)
  · have e := it_f c_1 e
    refine sl_ok ok_R_best [.iinc 7 1] (pc1 := 85) (ls1 := [some (.ref 79), some (.int x1), some (.int x2), some (.int x3), some (.int x4), some (.int x5), some (.int x6), some (.int (x7 + 1)), some (.int x8)]) (st1 := []) (h1 := h) (P := True) (by decide +kernel) rfl trivial ?_
    refine q_goto (off := -48) (tgt := 37) (by decide) (by decide +kernel) ?_
    cases e
    refine Go.sb [some (.ref 79), some (.int x1), some (.int x2), some (.int x3), some (.int x4), some (.int x5), some (.int x6), some (.int (x7 + 1)), none] (And.intro rfl (And.intro rfl (And.intro rfl (And.intro rfl (And.intro rfl (And.intro rfl (And.intro rfl (And.intro rfl trivial)))))))) ?_
    exact k
  · have e := it_t c_1 e
    refine sl_ok ok_R_best [.iinc 5 1, .iinc 7 1] (pc1 := 85) (ls1 := [some (.ref 79), some (.int x1), some (.int x2), some (.int x3), some (.int x4), some (.int (x5 + 1)), some (.int x6), some (.int (x7 + 1)), some (.int x8)]) (st1 := []) (h1 := h) (P := True) (by decide +kernel) rfl trivial ?_
    refine q_goto (off := -48) (tgt := 37) (by decide) (by decide +kernel) ?_
    cases e
    refine Go.sb [some (.ref 79), some (.int x1), some (.int x2), some (.int x3), some (.int x4), some (.int (x5 + 1)), some (.int x6), some (.int (x7 + 1)), none] (And.intro rfl (And.intro rfl (And.intro rfl (And.intro rfl (And.intro rfl (And.intro rfl (And.intro rfl (And.intro rfl trivial)))))))) ?_
    exact k
def f_R_best_L2 (x1 : Int32) (x6 : Int32) (x2 : Int32) (x3 : Int32) (x4 : Int32) (x5 : Int32) (x7 : Int32) (h : pH) : Option ((Int32 × Int32 × Int32 × Int32 × Int32 × pH) ⊕ ((Int32 × Int32 × Int32 × Int32 × Int32 × pH) ⊕ (Int32 × pH))) :=
  if 50 < x7 then
    some (.inr (.inl (x2, x3, x4, x5, (x6 + 1), h)))
  else
    (f_R_fitOf x6 x7 h).bind fun v_2 =>
    if v_2.1 ≤ x2 then
      f_R_best_J3 x1 x2 x3 x4 x5 x6 x7 v_2.1 v_2.2
    else
      f_R_best_J3 x1 v_2.1 x6 x7 0 x6 x7 v_2.1 v_2.2
set_option maxHeartbeats 4000000 in
theorem b_R_best_L2 {E : pE} {r : Option Value} {hr : pH} {x1 : Int32} {x6 : Int32} {x2 : Int32} {x3 : Int32} {x4 : Int32} {x5 : Int32} {x7 : Int32} {h : pH}  {b : ((Int32 × Int32 × Int32 × Int32 × Int32 × pH) ⊕ ((Int32 × Int32 × Int32 × Int32 × Int32 × pH) ⊕ (Int32 × pH)))} (e : f_R_best_L2 x1 x6 x2 x3 x4 x5 x7 h = some b) (k : (Sum.elim (fun s : (Int32 × Int32 × Int32 × Int32 × Int32 × pH) => Go E M_R_best 37 [some (.ref 79), some (.int x1), some (.int s.1), some (.int s.2.1), some (.int s.2.2.1), some (.int s.2.2.2.1), some (.int x6), some (.int s.2.2.2.2.1), none] [] s.2.2.2.2.2 r hr) (Sum.elim (fun s : (Int32 × Int32 × Int32 × Int32 × Int32 × pH) => Go E M_R_best 26 [some (.ref 79), some (.int x1), some (.int s.1), some (.int s.2.1), some (.int s.2.2.1), some (.int s.2.2.2.1), some (.int s.2.2.2.2.1), none, none] [] s.2.2.2.2.2 r hr) (fun v : (Int32 × pH) => r = some (.int v.1) ∧ hr = v.2))) b) : Go E M_R_best 37 [some (.ref 79), some (.int x1), some (.int x2), some (.int x3), some (.int x4), some (.int x5), some (.int x6), some (.int x7), none] [] h r hr := by
  unfold f_R_best_L2 at e
  refine sl_ok ok_R_best [.iload 7, .bipush 50] (pc1 := 41) (ls1 := [some (.ref 79), some (.int x1), some (.int x2), some (.int x3), some (.int x4), some (.int x5), some (.int x6), some (.int x7), none]) (st1 := [.int 50, .int x7]) (h1 := h) (P := True) (by decide +kernel) rfl trivial ?_
  refine q_icmp_gt (off := 47) (tgt := 88) (by decide +kernel) (by decide) (fun c_1 => ?_) (fun c_1 => ?_)
  · have e := it_t c_1 e
    refine sl_ok ok_R_best [.iinc 6 1] (pc1 := 91) (ls1 := [some (.ref 79), some (.int x1), some (.int x2), some (.int x3), some (.int x4), some (.int x5), some (.int (x6 + 1)), some (.int x7), none]) (st1 := []) (h1 := h) (P := True) (by decide +kernel) rfl trivial ?_
    refine q_goto (off := -65) (tgt := 26) (by decide) (by decide +kernel) ?_
    cases e
    refine Go.sb [some (.ref 79), some (.int x1), some (.int x2), some (.int x3), some (.int x4), some (.int x5), some (.int (x6 + 1)), none, none] (And.intro rfl (And.intro rfl (And.intro rfl (And.intro rfl (And.intro rfl (And.intro rfl (And.intro rfl trivial))))))) ?_
    exact k
  · have e := it_f c_1 e
    refine sl_ok ok_R_best [.aload_n 0, .iload 6, .iload 7] (pc1 := 49) (ls1 := [some (.ref 79), some (.int x1), some (.int x2), some (.int x3), some (.int x4), some (.int x5), some (.int x6), some (.int x7), none]) (st1 := [.int x7, .int x6, .ref 79]) (h1 := h) (P := True) (by decide +kernel) rfl trivial ?_
    obtain ⟨v_2, e_3, e⟩ := bi_s e
    refine q_callV ok_R_fitOf (as := [.int x6, .int x7]) (st := []) ⟨wd_474, wd_475, wd_476, wd_7, ds_R_fitOf, Nat.le_of_ble_eq_true rfl, Nat.le_of_ble_eq_true rfl⟩ (s_R_fitOf  e_3) rfl ⟨rfl, rfl⟩ (ci := 12) rfl (fun v hv => by cases hv; rfl) (Nat.le_of_ble_eq_true rfl) (by decide +kernel) rfl ?_
    refine sl_ok ok_R_best [.istore 8, .iload 8, .iload_n 2] (pc1 := 57) (ls1 := [some (.ref 79), some (.int x1), some (.int x2), some (.int x3), some (.int x4), some (.int x5), some (.int x6), some (.int x7), some (.int v_2.1)]) (st1 := [.int x2, .int v_2.1]) (h1 := v_2.2) (P := True) (by decide +kernel) rfl trivial ?_
    refine q_icmp_le (off := 16) (tgt := 73) (by decide +kernel) (by decide) (fun c_4 => ?_) (fun c_4 => ?_)
    · have e := it_t c_4 e
      exact b_R_best_J3  e k
    · have e := it_f c_4 e
      refine sl_ok ok_R_best [.iload 8, .istore_n 2, .iload 6, .istore_n 3, .iload 7, .istore 4, .iconst 0, .istore 5] (pc1 := 73) (ls1 := [some (.ref 79), some (.int x1), some (.int v_2.1), some (.int x6), some (.int x7), some (.int 0), some (.int x6), some (.int x7), some (.int v_2.1)]) (st1 := []) (h1 := v_2.2) (P := True) (by decide +kernel) rfl trivial ?_
      exact b_R_best_J3  e k
def f_R_best_L1 (x1 : Int32) (x2 : Int32) (x3 : Int32) (x4 : Int32) (x5 : Int32) (x6 : Int32) (h : pH) : Option ((Int32 × Int32 × Int32 × Int32 × Int32 × pH) ⊕ (Int32 × pH)) :=
  if 10 < x6 then
    if x1 = 0 then
      some (.inr (x2, h))
    else
      if x1 = 1 then
        some (.inr (x3, h))
      else
        if x1 = 2 then
          some (.inr (x4, h))
        else
          some (.inr (x5, h))
  else
    lp (fun s => f_R_best_L2 x1 x6 s.1 s.2.1 s.2.2.1 s.2.2.2.1 s.2.2.2.2.1 s.2.2.2.2.2) lpN (x2, x3, x4, x5, (-50), h)
set_option maxHeartbeats 4000000 in
theorem b_R_best_L1 {E : pE} {r : Option Value} {hr : pH} {x1 : Int32} {x2 : Int32} {x3 : Int32} {x4 : Int32} {x5 : Int32} {x6 : Int32} {h : pH}  {b : ((Int32 × Int32 × Int32 × Int32 × Int32 × pH) ⊕ (Int32 × pH))} (e : f_R_best_L1 x1 x2 x3 x4 x5 x6 h = some b) (k : (Sum.elim (fun s : (Int32 × Int32 × Int32 × Int32 × Int32 × pH) => Go E M_R_best 26 [some (.ref 79), some (.int x1), some (.int s.1), some (.int s.2.1), some (.int s.2.2.1), some (.int s.2.2.2.1), some (.int s.2.2.2.2.1), none, none] [] s.2.2.2.2.2 r hr) (fun v : (Int32 × pH) => r = some (.int v.1) ∧ hr = v.2)) b) : Go E M_R_best 26 [some (.ref 79), some (.int x1), some (.int x2), some (.int x3), some (.int x4), some (.int x5), some (.int x6), none, none] [] h r hr := by
  unfold f_R_best_L1 at e
  refine sl_ok ok_R_best [.iload 6, .bipush 10] (pc1 := 30) (ls1 := [some (.ref 79), some (.int x1), some (.int x2), some (.int x3), some (.int x4), some (.int x5), some (.int x6), none, none]) (st1 := [.int 10, .int x6]) (h1 := h) (P := True) (by decide +kernel) rfl trivial ?_
  refine q_icmp_gt (off := 64) (tgt := 94) (by decide +kernel) (by decide) (fun c_1 => ?_) (fun c_1 => ?_)
  · have e := it_t c_1 e
    refine sl_ok ok_R_best [.iload_n 1] (pc1 := 95) (ls1 := [some (.ref 79), some (.int x1), some (.int x2), some (.int x3), some (.int x4), some (.int x5), some (.int x6), none, none]) (st1 := [.int x1]) (h1 := h) (P := True) (by decide +kernel) rfl trivial ?_
    refine q_if_ne (off := 7) (tgt := 102) (by decide +kernel) (by decide) (fun c_2 => ?_) (fun c_2 => ?_)
    · have e := it_f c_2 e
      refine sl_ok ok_R_best [.iload_n 1, .iconst 1] (pc1 := 104) (ls1 := [some (.ref 79), some (.int x1), some (.int x2), some (.int x3), some (.int x4), some (.int x5), some (.int x6), none, none]) (st1 := [.int 1, .int x1]) (h1 := h) (P := True) (by decide +kernel) rfl trivial ?_
      refine q_icmp_ne (off := 7) (tgt := 111) (by decide +kernel) (by decide) (fun c_3 => ?_) (fun c_3 => ?_)
      · have e := it_f c_3 e
        refine sl_ok ok_R_best [.iload_n 1, .iconst 2] (pc1 := 113) (ls1 := [some (.ref 79), some (.int x1), some (.int x2), some (.int x3), some (.int x4), some (.int x5), some (.int x6), none, none]) (st1 := [.int 2, .int x1]) (h1 := h) (P := True) (by decide +kernel) rfl trivial ?_
        refine q_icmp_ne (off := 8) (tgt := 121) (by decide +kernel) (by decide) (fun c_4 => ?_) (fun c_4 => ?_)
        · have e := it_f c_4 e
          refine sl_ok ok_R_best [.iload 5] (pc1 := 123) (ls1 := [some (.ref 79), some (.int x1), some (.int x2), some (.int x3), some (.int x4), some (.int x5), some (.int x6), none, none]) (st1 := [.int x5]) (h1 := h) (P := True) (by decide +kernel) rfl trivial ?_
          cases e
          exact q_iret rfl k.1 k.2 (by decide +kernel)
        · have e := it_t c_4 e
          refine sl_ok ok_R_best [.iload 4] (pc1 := 118) (ls1 := [some (.ref 79), some (.int x1), some (.int x2), some (.int x3), some (.int x4), some (.int x5), some (.int x6), none, none]) (st1 := [.int x4]) (h1 := h) (P := True) (by decide +kernel) rfl trivial ?_
          refine q_goto (off := 5) (tgt := 123) (by decide) (by decide +kernel) ?_
          cases e
          exact q_iret rfl k.1 k.2 (by decide +kernel)
      · have e := it_t c_3 e
        refine sl_ok ok_R_best [.iload_n 3] (pc1 := 108) (ls1 := [some (.ref 79), some (.int x1), some (.int x2), some (.int x3), some (.int x4), some (.int x5), some (.int x6), none, none]) (st1 := [.int x3]) (h1 := h) (P := True) (by decide +kernel) rfl trivial ?_
        refine q_goto (off := 15) (tgt := 123) (by decide) (by decide +kernel) ?_
        cases e
        exact q_iret rfl k.1 k.2 (by decide +kernel)
    · have e := it_t c_2 e
      refine sl_ok ok_R_best [.iload_n 2] (pc1 := 99) (ls1 := [some (.ref 79), some (.int x1), some (.int x2), some (.int x3), some (.int x4), some (.int x5), some (.int x6), none, none]) (st1 := [.int x2]) (h1 := h) (P := True) (by decide +kernel) rfl trivial ?_
      refine q_goto (off := 24) (tgt := 123) (by decide) (by decide +kernel) ?_
      cases e
      exact q_iret rfl k.1 k.2 (by decide +kernel)
  · have e := it_f c_1 e
    refine sl_ok ok_R_best [.bipush (-50), .istore 7] (pc1 := 37) (ls1 := [some (.ref 79), some (.int x1), some (.int x2), some (.int x3), some (.int x4), some (.int x5), some (.int x6), some (.int (-50)), none]) (st1 := []) (h1 := h) (P := True) (by decide +kernel) rfl trivial ?_
    exact lp_in e (fun s => Go E M_R_best 37 [some (.ref 79), some (.int x1), some (.int s.1), some (.int s.2.1), some (.int s.2.2.1), some (.int s.2.2.2.1), some (.int x6), some (.int s.2.2.2.2.1), none] [] s.2.2.2.2.2 r hr) (Sum.elim (fun s : (Int32 × Int32 × Int32 × Int32 × Int32 × pH) => Go E M_R_best 26 [some (.ref 79), some (.int x1), some (.int s.1), some (.int s.2.1), some (.int s.2.2.1), some (.int s.2.2.2.1), some (.int s.2.2.2.2.1), none, none] [] s.2.2.2.2.2 r hr) (fun v : (Int32 × pH) => r = some (.int v.1) ∧ hr = v.2)) (fun _ _ e k => b_R_best_L2  e k) k
def f_R_best (x1 : Int32) (h : pH) : Option (Int32 × pH) :=
  if (f_R_in x1 (0 : Int32) (3 : Int32)) = 0 then
    some ((-100000), h)
  else
    lp (fun s => f_R_best_L1 x1 s.1 s.2.1 s.2.2.1 s.2.2.2.1 s.2.2.2.2.1 s.2.2.2.2.2) lpN ((-1), 0, 0, 0, (-10), h)
set_option maxHeartbeats 4000000 in
theorem b_R_best {E : pE} {r : Option Value} {hr : pH} {x1 : Int32} {h : pH}  {b : (Int32 × pH)} (e : f_R_best x1 h = some b) (k : (fun v : (Int32 × pH) => r = some (.int v.1) ∧ hr = v.2) b) : Go E M_R_best 0 [some (.ref 79), some (.int x1), none, none, none, none, none, none, none] [] h r hr := by
  unfold f_R_best at e
  refine sl_ok ok_R_best [.iload_n 1, .iconst 0, .iconst 3] (pc1 := 3) (ls1 := [some (.ref 79), some (.int x1), none, none, none, none, none, none, none]) (st1 := [.int 3, .int 0, .int x1]) (h1 := h) (P := True) (by decide +kernel) rfl trivial ?_
  refine q_callS ok_R_in (as := [.int x1, .int 0, .int 3]) (st := []) ⟨wd_127, wd_128, wd_7, ds_R_in, Nat.le_of_ble_eq_true rfl, Nat.le_of_ble_eq_true rfl⟩ (s_R_in ) rfl (fun v hv => by cases hv; rfl) (Nat.le_of_ble_eq_true rfl) (by decide +kernel) rfl ?_
  refine q_if_ne (off := 6) (tgt := 12) (by decide +kernel) (by decide) (fun c_1 => ?_) (fun c_1 => ?_)
  · have e := it_f c_1 e
    refine sl_ok ok_R_best [.iconst (-1), .istore_n 2, .iconst 0, .istore_n 3, .iconst 0, .istore 4, .iconst 0, .istore 5, .bipush (-10), .istore 6] (pc1 := 26) (ls1 := [some (.ref 79), some (.int x1), some (.int (-1)), some (.int 0), some (.int 0), some (.int 0), some (.int (-10)), none, none]) (st1 := []) (h1 := h) (P := True) (by decide +kernel) rfl trivial ?_
    exact lp_in e (fun s => Go E M_R_best 26 [some (.ref 79), some (.int x1), some (.int s.1), some (.int s.2.1), some (.int s.2.2.1), some (.int s.2.2.2.1), some (.int s.2.2.2.2.1), none, none] [] s.2.2.2.2.2 r hr) (fun v : (Int32 × pH) => r = some (.int v.1) ∧ hr = v.2) (fun _ _ e k => b_R_best_L1  e k) k
  · have e := it_t c_1 e
    refine sl_ok ok_R_best [.ldc 220] (pc1 := 11) (ls1 := [some (.ref 79), some (.int x1), none, none, none, none, none, none, none]) (st1 := [.int (-100000)]) (h1 := h) (P := True) (by decide +kernel) rfl trivial ?_
    cases e
    exact q_iret rfl k.1 k.2 (by decide +kernel)
theorem s_R_best {E : pE} {x1 : Int32} {h : pH}  {v : (Int32 × pH)} (e : f_R_best x1 h = some v) : Ct E M_R_best [.ref 79, .int x1] h (some (.int v.1)) v.2 :=
  Ct_of ok_R_best [some (.ref 79), some (.int x1), none, none, none, none, none, none, none] (Nat.le_of_ble_eq_true rfl) rfl (b_R_best  e ⟨rfl, rfl⟩)
