def f_Depths_bound_L2 (o1 : Nat) (x2 : Int32) (x4 : Int32) (x3 : Int32) (x5 : Int32) (h : pH) : Option ((Int32 × Int32 × pH) ⊕ ((Int32 × Int32 × pH) ⊕ pH)) :=
  if (hI h o1 3) < x5 then
    some (.inr (.inl (x3, (x4 + 1), h)))
  else
    if 1681 ≤ x3 then
      some (.inl ((x3 + 1), (x5 + 1), h))
    else
      if x3 < 0 ∨ 1681 ≤ x3.toNatClampNeg then none else
      if (hI h 18 x3.toNatClampNeg) < x2 then
        some (.inl ((x3 + 1), (x5 + 1), h))
      else
        some (.inl ((x3 + 1), (x5 + 1), (sI (sI (sI (sI (sI h 17 8 ((hI h 17 8) + 1)) 17 9 (jmin (hI (sI h 17 8 ((hI h 17 8) + 1)) 17 9) x5)) 17 10 (jmax (hI (sI (sI h 17 8 ((hI h 17 8) + 1)) 17 9 (jmin (hI (sI h 17 8 ((hI h 17 8) + 1)) 17 9) x5)) 17 10) x5)) 17 11 (jmin (hI (sI (sI (sI h 17 8 ((hI h 17 8) + 1)) 17 9 (jmin (hI (sI h 17 8 ((hI h 17 8) + 1)) 17 9) x5)) 17 10 (jmax (hI (sI (sI h 17 8 ((hI h 17 8) + 1)) 17 9 (jmin (hI (sI h 17 8 ((hI h 17 8) + 1)) 17 9) x5)) 17 10) x5)) 17 11) x4)) 17 12 (jmax (hI (sI (sI (sI (sI h 17 8 ((hI h 17 8) + 1)) 17 9 (jmin (hI (sI h 17 8 ((hI h 17 8) + 1)) 17 9) x5)) 17 10 (jmax (hI (sI (sI h 17 8 ((hI h 17 8) + 1)) 17 9 (jmin (hI (sI h 17 8 ((hI h 17 8) + 1)) 17 9) x5)) 17 10) x5)) 17 11 (jmin (hI (sI (sI (sI h 17 8 ((hI h 17 8) + 1)) 17 9 (jmin (hI (sI h 17 8 ((hI h 17 8) + 1)) 17 9) x5)) 17 10 (jmax (hI (sI (sI h 17 8 ((hI h 17 8) + 1)) 17 9 (jmin (hI (sI h 17 8 ((hI h 17 8) + 1)) 17 9) x5)) 17 10) x5)) 17 11) x4)) 17 12) x4))))
set_option maxHeartbeats 4000000 in
theorem b_Depths_bound_L2 {E : pE} {r : Option Value} {hr : pH} {o1 : Nat} {x2 : Int32} {x4 : Int32} {x3 : Int32} {x5 : Int32} {h : pH} (ho1 : ak o1 = 0 ∧ cx o1 = 0) {b : ((Int32 × Int32 × pH) ⊕ ((Int32 × Int32 × pH) ⊕ pH))} (e : f_Depths_bound_L2 o1 x2 x4 x3 x5 h = some b) (k : (Sum.elim (fun s : (Int32 × Int32 × pH) => Go E M_Depths_bound 54 [some (.ref 17), some (.ref o1), some (.int x2), some (.int s.1), some (.int x4), some (.int s.2.1)] [] s.2.2 r hr) (Sum.elim (fun s : (Int32 × Int32 × pH) => Go E M_Depths_bound 38 [some (.ref 17), some (.ref o1), some (.int x2), some (.int s.1), some (.int s.2.1), none] [] s.2.2 r hr) (fun v : pH => r = none ∧ hr = v))) b) : Go E M_Depths_bound 54 [some (.ref 17), some (.ref o1), some (.int x2), some (.int x3), some (.int x4), some (.int x5)] [] h r hr := by
  unfold f_Depths_bound_L2 at e
  refine sl_ok ok_Depths_bound [.iload 5, .aload_n 1, .getfield 53] (pc1 := 60) (ls1 := [some (.ref 17), some (.ref o1), some (.int x2), some (.int x3), some (.int x4), some (.int x5)]) (st1 := [.int (hI h o1 3), .int x5]) (h1 := h) (P := (ak o1 = 0 ∧ cx o1 = 0) ∧ True) (by decide +kernel) rfl ⟨ho1, trivial⟩ ?_
  refine q_icmp_gt (off := 91) (tgt := 151) (by decide +kernel) (by decide) (fun c_1 => ?_) (fun c_1 => ?_)
  · have e := it_t c_1 e
    refine sl_ok ok_Depths_bound [.iinc 4 1] (pc1 := 154) (ls1 := [some (.ref 17), some (.ref o1), some (.int x2), some (.int x3), some (.int (x4 + 1)), some (.int x5)]) (st1 := []) (h1 := h) (P := True) (by decide +kernel) rfl trivial ?_
    refine q_goto (off := -116) (tgt := 38) (by decide) (by decide +kernel) ?_
    cases e
    refine Go.sb [some (.ref 17), some (.ref o1), some (.int x2), some (.int x3), some (.int (x4 + 1)), none] (And.intro rfl (And.intro rfl (And.intro rfl (And.intro rfl (And.intro rfl trivial))))) ?_
    exact k
  · have e := it_f c_1 e
    refine sl_ok ok_Depths_bound [.iload_n 3, .sipush 1681] (pc1 := 67) (ls1 := [some (.ref 17), some (.ref o1), some (.int x2), some (.int x3), some (.int x4), some (.int x5)]) (st1 := [.int 1681, .int x3]) (h1 := h) (P := True) (by decide +kernel) rfl trivial ?_
    refine q_icmp_ge (off := 75) (tgt := 142) (by decide +kernel) (by decide) (fun c_2 => ?_) (fun c_2 => ?_)
    · have e := it_t c_2 e
      refine sl_ok ok_Depths_bound [.iinc 3 1, .iinc 5 1] (pc1 := 148) (ls1 := [some (.ref 17), some (.ref o1), some (.int x2), some (.int (x3 + 1)), some (.int x4), some (.int (x5 + 1))]) (st1 := []) (h1 := h) (P := True) (by decide +kernel) rfl trivial ?_
      refine q_goto (off := -94) (tgt := 54) (by decide) (by decide +kernel) ?_
      cases e
      exact k
    · have e := it_f c_2 e
      obtain ⟨g_3, e⟩ := it_g e
      refine sl_ok ok_Depths_bound [.aload_n 0, .getfield 9, .iload_n 3, .iaload, .iload_n 2] (pc1 := 77) (ls1 := [some (.ref 17), some (.ref o1), some (.int x2), some (.int x3), some (.int x4), some (.int x5)]) (st1 := [.int x2, .int (hI h 18 x3.toNatClampNeg)]) (h1 := h) (P := (ak 17 = 0 ∧ cx 17 = 2) ∧ (ak 18 = 1 ∧ ¬ (x3 < 0 ∨ cx 18 ≤ x3.toNatClampNeg)) ∧ True) (by decide +kernel) rfl ⟨⟨rfl, rfl⟩, ⟨rfl, g_3⟩, trivial⟩ ?_
      refine q_icmp_lt (off := 65) (tgt := 142) (by decide +kernel) (by decide) (fun c_4 => ?_) (fun c_4 => ?_)
      · have e := it_t c_4 e
        refine sl_ok ok_Depths_bound [.iinc 3 1, .iinc 5 1] (pc1 := 148) (ls1 := [some (.ref 17), some (.ref o1), some (.int x2), some (.int (x3 + 1)), some (.int x4), some (.int (x5 + 1))]) (st1 := []) (h1 := h) (P := True) (by decide +kernel) rfl trivial ?_
        refine q_goto (off := -94) (tgt := 54) (by decide) (by decide +kernel) ?_
        cases e
        exact k
      · have e := it_f c_4 e
        refine sl_ok ok_Depths_bound [.aload_n 0, .dup, .getfield 76, .iconst 1, .iadd, .putfield 76, .aload_n 0, .aload_n 0, .getfield 79, .iload 5] (pc1 := 97) (ls1 := [some (.ref 17), some (.ref o1), some (.int x2), some (.int x3), some (.int x4), some (.int x5)]) (st1 := [.int x5, .int (hI (sI h 17 8 ((hI h 17 8) + 1)) 17 9), .ref 17]) (h1 := (sI h 17 8 ((hI h 17 8) + 1))) (P := (ak 17 = 0 ∧ cx 17 = 2) ∧ (ak 17 = 0 ∧ cx 17 = 2) ∧ (ak 17 = 0 ∧ cx 17 = 2) ∧ True) (by decide +kernel) rfl ⟨⟨rfl, rfl⟩, ⟨rfl, rfl⟩, ⟨rfl, rfl⟩, trivial⟩ ?_
        refine q_mmin wd_213 (Nat.le_of_ble_eq_true rfl) (Nat.le_of_ble_eq_true rfl) (by decide +kernel) ?_
        refine sl_ok ok_Depths_bound [.putfield 79, .aload_n 0, .aload_n 0, .getfield 82, .iload 5] (pc1 := 110) (ls1 := [some (.ref 17), some (.ref o1), some (.int x2), some (.int x3), some (.int x4), some (.int x5)]) (st1 := [.int x5, .int (hI (sI (sI h 17 8 ((hI h 17 8) + 1)) 17 9 (jmin (hI (sI h 17 8 ((hI h 17 8) + 1)) 17 9) x5)) 17 10), .ref 17]) (h1 := (sI (sI h 17 8 ((hI h 17 8) + 1)) 17 9 (jmin (hI (sI h 17 8 ((hI h 17 8) + 1)) 17 9) x5))) (P := (ak 17 = 0 ∧ cx 17 = 2) ∧ (ak 17 = 0 ∧ cx 17 = 2) ∧ True) (by decide +kernel) rfl ⟨⟨rfl, rfl⟩, ⟨rfl, rfl⟩, trivial⟩ ?_
        refine q_mmax wd_394 (Nat.le_of_ble_eq_true rfl) (Nat.le_of_ble_eq_true rfl) (by decide +kernel) ?_
        refine sl_ok ok_Depths_bound [.putfield 82, .aload_n 0, .aload_n 0, .getfield 85, .iload 4] (pc1 := 123) (ls1 := [some (.ref 17), some (.ref o1), some (.int x2), some (.int x3), some (.int x4), some (.int x5)]) (st1 := [.int x4, .int (hI (sI (sI (sI h 17 8 ((hI h 17 8) + 1)) 17 9 (jmin (hI (sI h 17 8 ((hI h 17 8) + 1)) 17 9) x5)) 17 10 (jmax (hI (sI (sI h 17 8 ((hI h 17 8) + 1)) 17 9 (jmin (hI (sI h 17 8 ((hI h 17 8) + 1)) 17 9) x5)) 17 10) x5)) 17 11), .ref 17]) (h1 := (sI (sI (sI h 17 8 ((hI h 17 8) + 1)) 17 9 (jmin (hI (sI h 17 8 ((hI h 17 8) + 1)) 17 9) x5)) 17 10 (jmax (hI (sI (sI h 17 8 ((hI h 17 8) + 1)) 17 9 (jmin (hI (sI h 17 8 ((hI h 17 8) + 1)) 17 9) x5)) 17 10) x5))) (P := (ak 17 = 0 ∧ cx 17 = 2) ∧ (ak 17 = 0 ∧ cx 17 = 2) ∧ True) (by decide +kernel) rfl ⟨⟨rfl, rfl⟩, ⟨rfl, rfl⟩, trivial⟩ ?_
        refine q_mmin wd_213 (Nat.le_of_ble_eq_true rfl) (Nat.le_of_ble_eq_true rfl) (by decide +kernel) ?_
        refine sl_ok ok_Depths_bound [.putfield 85, .aload_n 0, .aload_n 0, .getfield 88, .iload 4] (pc1 := 136) (ls1 := [some (.ref 17), some (.ref o1), some (.int x2), some (.int x3), some (.int x4), some (.int x5)]) (st1 := [.int x4, .int (hI (sI (sI (sI (sI h 17 8 ((hI h 17 8) + 1)) 17 9 (jmin (hI (sI h 17 8 ((hI h 17 8) + 1)) 17 9) x5)) 17 10 (jmax (hI (sI (sI h 17 8 ((hI h 17 8) + 1)) 17 9 (jmin (hI (sI h 17 8 ((hI h 17 8) + 1)) 17 9) x5)) 17 10) x5)) 17 11 (jmin (hI (sI (sI (sI h 17 8 ((hI h 17 8) + 1)) 17 9 (jmin (hI (sI h 17 8 ((hI h 17 8) + 1)) 17 9) x5)) 17 10 (jmax (hI (sI (sI h 17 8 ((hI h 17 8) + 1)) 17 9 (jmin (hI (sI h 17 8 ((hI h 17 8) + 1)) 17 9) x5)) 17 10) x5)) 17 11) x4)) 17 12), .ref 17]) (h1 := (sI (sI (sI (sI h 17 8 ((hI h 17 8) + 1)) 17 9 (jmin (hI (sI h 17 8 ((hI h 17 8) + 1)) 17 9) x5)) 17 10 (jmax (hI (sI (sI h 17 8 ((hI h 17 8) + 1)) 17 9 (jmin (hI (sI h 17 8 ((hI h 17 8) + 1)) 17 9) x5)) 17 10) x5)) 17 11 (jmin (hI (sI (sI (sI h 17 8 ((hI h 17 8) + 1)) 17 9 (jmin (hI (sI h 17 8 ((hI h 17 8) + 1)) 17 9) x5)) 17 10 (jmax (hI (sI (sI h 17 8 ((hI h 17 8) + 1)) 17 9 (jmin (hI (sI h 17 8 ((hI h 17 8) + 1)) 17 9) x5)) 17 10) x5)) 17 11) x4))) (P := (ak 17 = 0 ∧ cx 17 = 2) ∧ (ak 17 = 0 ∧ cx 17 = 2) ∧ True) (by decide +kernel) rfl ⟨⟨rfl, rfl⟩, ⟨rfl, rfl⟩, trivial⟩ ?_
        refine q_mmax wd_394 (Nat.le_of_ble_eq_true rfl) (Nat.le_of_ble_eq_true rfl) (by decide +kernel) ?_
        refine sl_ok ok_Depths_bound [.putfield 88, .iinc 3 1, .iinc 5 1] (pc1 := 148) (ls1 := [some (.ref 17), some (.ref o1), some (.int x2), some (.int (x3 + 1)), some (.int x4), some (.int (x5 + 1))]) (st1 := []) (h1 := (sI (sI (sI (sI (sI h 17 8 ((hI h 17 8) + 1)) 17 9 (jmin (hI (sI h 17 8 ((hI h 17 8) + 1)) 17 9) x5)) 17 10 (jmax (hI (sI (sI h 17 8 ((hI h 17 8) + 1)) 17 9 (jmin (hI (sI h 17 8 ((hI h 17 8) + 1)) 17 9) x5)) 17 10) x5)) 17 11 (jmin (hI (sI (sI (sI h 17 8 ((hI h 17 8) + 1)) 17 9 (jmin (hI (sI h 17 8 ((hI h 17 8) + 1)) 17 9) x5)) 17 10 (jmax (hI (sI (sI h 17 8 ((hI h 17 8) + 1)) 17 9 (jmin (hI (sI h 17 8 ((hI h 17 8) + 1)) 17 9) x5)) 17 10) x5)) 17 11) x4)) 17 12 (jmax (hI (sI (sI (sI (sI h 17 8 ((hI h 17 8) + 1)) 17 9 (jmin (hI (sI h 17 8 ((hI h 17 8) + 1)) 17 9) x5)) 17 10 (jmax (hI (sI (sI h 17 8 ((hI h 17 8) + 1)) 17 9 (jmin (hI (sI h 17 8 ((hI h 17 8) + 1)) 17 9) x5)) 17 10) x5)) 17 11 (jmin (hI (sI (sI (sI h 17 8 ((hI h 17 8) + 1)) 17 9 (jmin (hI (sI h 17 8 ((hI h 17 8) + 1)) 17 9) x5)) 17 10 (jmax (hI (sI (sI h 17 8 ((hI h 17 8) + 1)) 17 9 (jmin (hI (sI h 17 8 ((hI h 17 8) + 1)) 17 9) x5)) 17 10) x5)) 17 11) x4)) 17 12) x4))) (P := (ak 17 = 0 ∧ cx 17 = 2) ∧ True) (by decide +kernel) rfl ⟨⟨rfl, rfl⟩, trivial⟩ ?_
        refine q_goto (off := -94) (tgt := 54) (by decide) (by decide +kernel) ?_
        cases e
        exact k
def f_Depths_bound_L1 (o1 : Nat) (x2 : Int32) (x3 : Int32) (x4 : Int32) (h : pH) : Option ((Int32 × Int32 × pH) ⊕ pH) :=
  if (hI h o1 3) < x4 then
    some (.inr h)
  else
    lp (fun s => f_Depths_bound_L2 o1 x2 x4 s.1 s.2.1 s.2.2) lpN (x3, (-(hI h o1 3)), h)
set_option maxHeartbeats 4000000 in
theorem b_Depths_bound_L1 {E : pE} {r : Option Value} {hr : pH} {o1 : Nat} {x2 : Int32} {x3 : Int32} {x4 : Int32} {h : pH} (ho1 : ak o1 = 0 ∧ cx o1 = 0) {b : ((Int32 × Int32 × pH) ⊕ pH)} (e : f_Depths_bound_L1 o1 x2 x3 x4 h = some b) (k : (Sum.elim (fun s : (Int32 × Int32 × pH) => Go E M_Depths_bound 38 [some (.ref 17), some (.ref o1), some (.int x2), some (.int s.1), some (.int s.2.1), none] [] s.2.2 r hr) (fun v : pH => r = none ∧ hr = v)) b) : Go E M_Depths_bound 38 [some (.ref 17), some (.ref o1), some (.int x2), some (.int x3), some (.int x4), none] [] h r hr := by
  unfold f_Depths_bound_L1 at e
  refine sl_ok ok_Depths_bound [.iload 4, .aload_n 1, .getfield 53] (pc1 := 44) (ls1 := [some (.ref 17), some (.ref o1), some (.int x2), some (.int x3), some (.int x4), none]) (st1 := [.int (hI h o1 3), .int x4]) (h1 := h) (P := (ak o1 = 0 ∧ cx o1 = 0) ∧ True) (by decide +kernel) rfl ⟨ho1, trivial⟩ ?_
  refine q_icmp_gt (off := 113) (tgt := 157) (by decide +kernel) (by decide) (fun c_1 => ?_) (fun c_1 => ?_)
  · have e := it_t c_1 e
    cases e
    exact q_vret rfl k.1 k.2 (by decide +kernel)
  · have e := it_f c_1 e
    refine sl_ok ok_Depths_bound [.aload_n 1, .getfield 53, .ineg, .istore 5] (pc1 := 54) (ls1 := [some (.ref 17), some (.ref o1), some (.int x2), some (.int x3), some (.int x4), some (.int (-(hI h o1 3)))]) (st1 := []) (h1 := h) (P := (ak o1 = 0 ∧ cx o1 = 0) ∧ True) (by decide +kernel) rfl ⟨ho1, trivial⟩ ?_
    exact lp_in e (fun s => Go E M_Depths_bound 54 [some (.ref 17), some (.ref o1), some (.int x2), some (.int s.1), some (.int x4), some (.int s.2.1)] [] s.2.2 r hr) (Sum.elim (fun s : (Int32 × Int32 × pH) => Go E M_Depths_bound 38 [some (.ref 17), some (.ref o1), some (.int x2), some (.int s.1), some (.int s.2.1), none] [] s.2.2 r hr) (fun v : pH => r = none ∧ hr = v)) (fun _ _ e k => b_Depths_bound_L2 ho1 e k) k
def f_Depths_bound (o1 : Nat) (x2 : Int32) (h : pH) : Option pH :=
  lp (fun s => f_Depths_bound_L1 o1 x2 s.1 s.2.1 s.2.2) lpN (0, (-(hI (sI (sI (sI (sI (sI h 17 8 0) 17 9 20) 17 10 (-20)) 17 11 20) 17 12 (-20)) o1 3)), (sI (sI (sI (sI (sI h 17 8 0) 17 9 20) 17 10 (-20)) 17 11 20) 17 12 (-20)))
set_option maxHeartbeats 4000000 in
theorem b_Depths_bound {E : pE} {r : Option Value} {hr : pH} {o1 : Nat} {x2 : Int32} {h : pH} (ho1 : ak o1 = 0 ∧ cx o1 = 0) {b : pH} (e : f_Depths_bound o1 x2 h = some b) (k : (fun v : pH => r = none ∧ hr = v) b) : Go E M_Depths_bound 0 [some (.ref 17), some (.ref o1), some (.int x2), none, none, none] [] h r hr := by
  unfold f_Depths_bound at e
  refine sl_ok ok_Depths_bound [.aload_n 0, .iconst 0, .putfield 76, .aload_n 0, .bipush 20, .putfield 79, .aload_n 0, .bipush (-20), .putfield 82, .aload_n 0, .bipush 20, .putfield 85, .aload_n 0, .bipush (-20), .putfield 88, .iconst 0, .istore_n 3, .aload_n 1, .getfield 53, .ineg, .istore 4] (pc1 := 38) (ls1 := [some (.ref 17), some (.ref o1), some (.int x2), some (.int 0), some (.int (-(hI (sI (sI (sI (sI (sI h 17 8 0) 17 9 20) 17 10 (-20)) 17 11 20) 17 12 (-20)) o1 3))), none]) (st1 := []) (h1 := (sI (sI (sI (sI (sI h 17 8 0) 17 9 20) 17 10 (-20)) 17 11 20) 17 12 (-20))) (P := (ak 17 = 0 ∧ cx 17 = 2) ∧ (ak 17 = 0 ∧ cx 17 = 2) ∧ (ak 17 = 0 ∧ cx 17 = 2) ∧ (ak 17 = 0 ∧ cx 17 = 2) ∧ (ak 17 = 0 ∧ cx 17 = 2) ∧ (ak o1 = 0 ∧ cx o1 = 0) ∧ True) (by decide +kernel) rfl ⟨⟨rfl, rfl⟩, ⟨rfl, rfl⟩, ⟨rfl, rfl⟩, ⟨rfl, rfl⟩, ⟨rfl, rfl⟩, ho1, trivial⟩ ?_
  exact lp_in e (fun s => Go E M_Depths_bound 38 [some (.ref 17), some (.ref o1), some (.int x2), some (.int s.1), some (.int s.2.1), none] [] s.2.2 r hr) (fun v : pH => r = none ∧ hr = v) (fun _ _ e k => b_Depths_bound_L1 ho1 e k) k
theorem s_Depths_bound {E : pE} {o1 : Nat} {x2 : Int32} {h : pH} (ho1 : ak o1 = 0 ∧ cx o1 = 0) {v : pH} (e : f_Depths_bound o1 x2 h = some v) : Ct E M_Depths_bound [.ref 17, .ref o1, .int x2] h none v :=
  Ct_of ok_Depths_bound [some (.ref 17), some (.ref o1), some (.int x2), none, none, none] (Nat.le_of_ble_eq_true rfl) rfl (b_Depths_bound ho1 e ⟨rfl, rfl⟩)
def f_C_region (x1 : Int32) (x2 : Int32) (h : pH) : Option (Int32 × pH) :=
  if x2 < 0 then
    some ((-100000), h)
  else
    if x2 ≤ 4 then
      (f_Depths_survey 8 h).bind fun v_3 =>
      (f_Depths_bound 8 x1 v_3).bind fun v_5 =>
      if x2 = 0 then
        some ((hI v_5 17 8), v_5)
      else
        if (hI v_5 17 8) = 0 then
          some ((-100000), v_5)
        else
          if x2 = 1 then
            some ((hI v_5 17 9), v_5)
          else
            if x2 = 2 then
              some ((hI v_5 17 10), v_5)
            else
              if x2 = 3 then
                some ((hI v_5 17 11), v_5)
              else
                some ((hI v_5 17 12), v_5)
    else
      some ((-100000), h)
set_option maxHeartbeats 4000000 in
theorem b_C_region {E : pE} {r : Option Value} {hr : pH} {x1 : Int32} {x2 : Int32} {h : pH}  {b : (Int32 × pH)} (e : f_C_region x1 x2 h = some b) (k : (fun v : (Int32 × pH) => r = some (.int v.1) ∧ hr = v.2) b) : Go E M_C_region 0 [some (.ref 0), some (.int x1), some (.int x2)] [] h r hr := by
  unfold f_C_region at e
  refine sl_ok ok_C_region [.iload_n 2] (pc1 := 1) (ls1 := [some (.ref 0), some (.int x1), some (.int x2)]) (st1 := [.int x2]) (h1 := h) (P := True) (by decide +kernel) rfl trivial ?_
  refine q_if_lt (off := 8) (tgt := 9) (by decide +kernel) (by decide) (fun c_1 => ?_) (fun c_1 => ?_)
  · have e := it_t c_1 e
    refine sl_ok ok_C_region [.ldc 170] (pc1 := 11) (ls1 := [some (.ref 0), some (.int x1), some (.int x2)]) (st1 := [.int (-100000)]) (h1 := h) (P := True) (by decide +kernel) rfl trivial ?_
    cases e
    exact q_iret rfl k.1 k.2 (by decide +kernel)
  · have e := it_f c_1 e
    refine sl_ok ok_C_region [.iload_n 2, .iconst 4] (pc1 := 6) (ls1 := [some (.ref 0), some (.int x1), some (.int x2)]) (st1 := [.int 4, .int x2]) (h1 := h) (P := True) (by decide +kernel) rfl trivial ?_
    refine q_icmp_le (off := 6) (tgt := 12) (by decide +kernel) (by decide) (fun c_2 => ?_) (fun c_2 => ?_)
    · have e := it_t c_2 e
      refine sl_ok ok_C_region [.aload_n 0, .getfield 45, .aload_n 0, .getfield 28] (pc1 := 20) (ls1 := [some (.ref 0), some (.int x1), some (.int x2)]) (st1 := [.ref 8, .ref 17]) (h1 := h) (P := (ak 0 = 0 ∧ cx 0 = 11) ∧ (ak 0 = 0 ∧ cx 0 = 11) ∧ True) (by decide +kernel) rfl ⟨⟨rfl, rfl⟩, ⟨rfl, rfl⟩, trivial⟩ ?_
      obtain ⟨v_3, e_4, e⟩ := bi_s e
      refine q_callV ok_Depths_survey (as := [.ref 8]) (st := []) ⟨wd_388, wd_389, wd_390, wd_217, ds_Depths_survey, Nat.le_of_ble_eq_true rfl, Nat.le_of_ble_eq_true rfl⟩ (s_Depths_survey ⟨rfl, rfl⟩ e_4) rfl ⟨rfl, rfl⟩ (ci := 2) rfl (fun v hv => by cases hv) (Nat.le_of_ble_eq_true rfl) (by decide +kernel) rfl ?_
      refine sl_ok ok_C_region [.aload_n 0, .getfield 45, .aload_n 0, .getfield 28, .iload_n 1] (pc1 := 32) (ls1 := [some (.ref 0), some (.int x1), some (.int x2)]) (st1 := [.int x1, .ref 8, .ref 17]) (h1 := v_3) (P := (ak 0 = 0 ∧ cx 0 = 11) ∧ (ak 0 = 0 ∧ cx 0 = 11) ∧ True) (by decide +kernel) rfl ⟨⟨rfl, rfl⟩, ⟨rfl, rfl⟩, trivial⟩ ?_
      obtain ⟨v_5, e_6, e⟩ := bi_s e
      refine q_callV ok_Depths_bound (as := [.ref 8, .int x1]) (st := []) ⟨wd_395, wd_396, wd_397, wd_217, ds_Depths_bound, Nat.le_of_ble_eq_true rfl, Nat.le_of_ble_eq_true rfl⟩ (s_Depths_bound ⟨rfl, rfl⟩ e_6) rfl ⟨rfl, rfl⟩ (ci := 2) rfl (fun v hv => by cases hv) (Nat.le_of_ble_eq_true rfl) (by decide +kernel) rfl ?_
      refine sl_ok ok_C_region [.iload_n 2] (pc1 := 36) (ls1 := [some (.ref 0), some (.int x1), some (.int x2)]) (st1 := [.int x2]) (h1 := v_5) (P := True) (by decide +kernel) rfl trivial ?_
      refine q_if_ne (off := 11) (tgt := 47) (by decide +kernel) (by decide) (fun c_7 => ?_) (fun c_7 => ?_)
      · have e := it_f c_7 e
        refine sl_ok ok_C_region [.aload_n 0, .getfield 45, .getfield 280] (pc1 := 54) (ls1 := [some (.ref 0), some (.int x1), some (.int x2)]) (st1 := [.int (hI v_5 17 8)]) (h1 := v_5) (P := (ak 0 = 0 ∧ cx 0 = 11) ∧ (ak 17 = 0 ∧ cx 17 = 2) ∧ True) (by decide +kernel) rfl ⟨⟨rfl, rfl⟩, ⟨rfl, rfl⟩, trivial⟩ ?_
        refine q_if_ne (off := 6) (tgt := 60) (by decide +kernel) (by decide) (fun c_8 => ?_) (fun c_8 => ?_)
        · have e := it_f c_8 e
          refine sl_ok ok_C_region [.iload_n 2] (pc1 := 61) (ls1 := [some (.ref 0), some (.int x1), some (.int x2)]) (st1 := [.int x2]) (h1 := v_5) (P := True) (by decide +kernel) rfl trivial ?_
          by_cases c_9 : x2 = 1
          · have e := it_t c_9 e
            refine q_tableIn (off := 27) (tgt := 88) (by decide +kernel : decode (mB M_C_region) 61 = .ok (.tableswitch 51 1 3 #[27, 35, 43], 27)) (by rw [c_9]; decide) (by rw [c_9]; decide) (by rw [c_9]; decide) (by decide) ?_
            refine sl_ok ok_C_region [.aload_n 0, .getfield 45, .getfield 283] (pc1 := 95) (ls1 := [some (.ref 0), some (.int x1), some (.int x2)]) (st1 := [.int (hI v_5 17 9)]) (h1 := v_5) (P := (ak 0 = 0 ∧ cx 0 = 11) ∧ (ak 17 = 0 ∧ cx 17 = 2) ∧ True) (by decide +kernel) rfl ⟨⟨rfl, rfl⟩, ⟨rfl, rfl⟩, trivial⟩ ?_
            cases e
            exact q_iret rfl k.1 k.2 (by decide +kernel)
          · have e := it_f c_9 e
            by_cases c_10 : x2 = 2
            · have e := it_t c_10 e
              refine q_tableIn (off := 35) (tgt := 96) (by decide +kernel : decode (mB M_C_region) 61 = .ok (.tableswitch 51 1 3 #[27, 35, 43], 27)) (by rw [c_10]; decide) (by rw [c_10]; decide) (by rw [c_10]; decide) (by decide) ?_
              refine sl_ok ok_C_region [.aload_n 0, .getfield 45, .getfield 286] (pc1 := 103) (ls1 := [some (.ref 0), some (.int x1), some (.int x2)]) (st1 := [.int (hI v_5 17 10)]) (h1 := v_5) (P := (ak 0 = 0 ∧ cx 0 = 11) ∧ (ak 17 = 0 ∧ cx 17 = 2) ∧ True) (by decide +kernel) rfl ⟨⟨rfl, rfl⟩, ⟨rfl, rfl⟩, trivial⟩ ?_
              cases e
              exact q_iret rfl k.1 k.2 (by decide +kernel)
            · have e := it_f c_10 e
              by_cases c_11 : x2 = 3
              · have e := it_t c_11 e
                refine q_tableIn (off := 43) (tgt := 104) (by decide +kernel : decode (mB M_C_region) 61 = .ok (.tableswitch 51 1 3 #[27, 35, 43], 27)) (by rw [c_11]; decide) (by rw [c_11]; decide) (by rw [c_11]; decide) (by decide) ?_
                refine sl_ok ok_C_region [.aload_n 0, .getfield 45, .getfield 289] (pc1 := 111) (ls1 := [some (.ref 0), some (.int x1), some (.int x2)]) (st1 := [.int (hI v_5 17 11)]) (h1 := v_5) (P := (ak 0 = 0 ∧ cx 0 = 11) ∧ (ak 17 = 0 ∧ cx 17 = 2) ∧ True) (by decide +kernel) rfl ⟨⟨rfl, rfl⟩, ⟨rfl, rfl⟩, trivial⟩ ?_
                cases e
                exact q_iret rfl k.1 k.2 (by decide +kernel)
              · have e := it_f c_11 e
                refine q_tableOut (tgt := 112) (by decide +kernel : decode (mB M_C_region) 61 = .ok (.tableswitch 51 1 3 #[27, 35, 43], 27)) (sw_out [1, 2, 3] (by decide) ⟨c_9, c_10, c_11, trivial⟩) (by decide) ?_
                refine sl_ok ok_C_region [.aload_n 0, .getfield 45, .getfield 292] (pc1 := 119) (ls1 := [some (.ref 0), some (.int x1), some (.int x2)]) (st1 := [.int (hI v_5 17 12)]) (h1 := v_5) (P := (ak 0 = 0 ∧ cx 0 = 11) ∧ (ak 17 = 0 ∧ cx 17 = 2) ∧ True) (by decide +kernel) rfl ⟨⟨rfl, rfl⟩, ⟨rfl, rfl⟩, trivial⟩ ?_
                cases e
                exact q_iret rfl k.1 k.2 (by decide +kernel)
        · have e := it_t c_8 e
          refine sl_ok ok_C_region [.ldc 170] (pc1 := 59) (ls1 := [some (.ref 0), some (.int x1), some (.int x2)]) (st1 := [.int (-100000)]) (h1 := v_5) (P := True) (by decide +kernel) rfl trivial ?_
          cases e
          exact q_iret rfl k.1 k.2 (by decide +kernel)
      · have e := it_t c_7 e
        refine sl_ok ok_C_region [.aload_n 0, .getfield 45, .getfield 280] (pc1 := 46) (ls1 := [some (.ref 0), some (.int x1), some (.int x2)]) (st1 := [.int (hI v_5 17 8)]) (h1 := v_5) (P := (ak 0 = 0 ∧ cx 0 = 11) ∧ (ak 17 = 0 ∧ cx 17 = 2) ∧ True) (by decide +kernel) rfl ⟨⟨rfl, rfl⟩, ⟨rfl, rfl⟩, trivial⟩ ?_
        cases e
        exact q_iret rfl k.1 k.2 (by decide +kernel)
    · have e := it_f c_2 e
      refine sl_ok ok_C_region [.ldc 170] (pc1 := 11) (ls1 := [some (.ref 0), some (.int x1), some (.int x2)]) (st1 := [.int (-100000)]) (h1 := h) (P := True) (by decide +kernel) rfl trivial ?_
      cases e
      exact q_iret rfl k.1 k.2 (by decide +kernel)
theorem s_C_region {E : pE} {x1 : Int32} {x2 : Int32} {h : pH}  {v : (Int32 × pH)} (e : f_C_region x1 x2 h = some v) : Ct E M_C_region [.ref 0, .int x1, .int x2] h (some (.int v.1)) v.2 :=
  Ct_of ok_C_region [some (.ref 0), some (.int x1), some (.int x2)] (Nat.le_of_ble_eq_true rfl) rfl (b_C_region  e ⟨rfl, rfl⟩)
def f_R_region_J4 (x1 : Int32) (x2 : Int32) (x3 : Int32) (x4 : Int32) (x5 : Int32) (x6 : Int32) (x7 : Int32) (x8 : Int32) (t0 : Int32) (h : pH) : Option ((Int32 × Int32 × Int32) ⊕ ((Int32 × Int32 × Int32) ⊕ Int32)) :=
  if x5 = (-100000) then
    some (.inl (x4, x8, (x7 + 1)))
  else
    if t0 = 0 then
      if x8 ≤ x5 then
        some (.inl (x4, x5, (x7 + 1)))
      else
        some (.inl (x4, x8, (x7 + 1)))
    else
      if x5 ≤ x8 then
        some (.inl (x4, x5, (x7 + 1)))
      else
        some (.inl (x4, x8, (x7 + 1)))
set_option maxHeartbeats 4000000 in
theorem b_R_region_J4 {E : pE} {r : Option Value} {hr : pH} {x1 : Int32} {x2 : Int32} {x3 : Int32} {x4 : Int32} {x5 : Int32} {x6 : Int32} {x7 : Int32} {x8 : Int32} {t0 : Int32} {h : pH}  {b : ((Int32 × Int32 × Int32) ⊕ ((Int32 × Int32 × Int32) ⊕ Int32))} (e : f_R_region_J4 x1 x2 x3 x4 x5 x6 x7 x8 t0 h = some b) (k : (Sum.elim (fun s : (Int32 × Int32 × Int32) => Go E M_R_region 40 [some (.ref 79), some (.int x1), some (.int x2), some (.int x3), some (.int s.1), some (.int s.2.1), some (.int x6), some (.int s.2.2), none, none] [] h r hr) (Sum.elim (fun s : (Int32 × Int32 × Int32) => Go E M_R_region 30 [some (.ref 79), some (.int x1), some (.int x2), some (.int x3), some (.int s.1), some (.int s.2.1), some (.int s.2.2), none, none, none] [] h r hr) (fun v : Int32 => r = some (.int v) ∧ hr = h))) b) : Go E M_R_region 90 [some (.ref 79), some (.int x1), some (.int x2), some (.int x3), some (.int x4), some (.int x5), some (.int x6), some (.int x7), some (.int x8), none] [.int t0] h r hr := by
  unfold f_R_region_J4 at e
  refine sl_ok ok_R_region [.istore 9, .iload 5, .ldc 220] (pc1 := 96) (ls1 := [some (.ref 79), some (.int x1), some (.int x2), some (.int x3), some (.int x4), some (.int x5), some (.int x6), some (.int x7), some (.int x8), some (.int t0)]) (st1 := [.int (-100000), .int x5]) (h1 := h) (P := True) (by decide +kernel) rfl trivial ?_
  refine q_icmp_eq (off := 25) (tgt := 121) (by decide +kernel) (by decide) (fun c_1 => ?_) (fun c_1 => ?_)
  · have e := it_t c_1 e
    refine sl_ok ok_R_region [.iload 8, .istore 5, .iinc 7 1] (pc1 := 128) (ls1 := [some (.ref 79), some (.int x1), some (.int x2), some (.int x3), some (.int x4), some (.int x8), some (.int x6), some (.int (x7 + 1)), some (.int x8), some (.int t0)]) (st1 := []) (h1 := h) (P := True) (by decide +kernel) rfl trivial ?_
    refine q_goto (off := -88) (tgt := 40) (by decide) (by decide +kernel) ?_
    cases e
    refine Go.sb [some (.ref 79), some (.int x1), some (.int x2), some (.int x3), some (.int x4), some (.int x8), some (.int x6), some (.int (x7 + 1)), none, none] (And.intro rfl (And.intro rfl (And.intro rfl (And.intro rfl (And.intro rfl (And.intro rfl (And.intro rfl (And.intro rfl trivial)))))))) ?_
    exact k
  · have e := it_f c_1 e
    refine sl_ok ok_R_region [.iload 9] (pc1 := 101) (ls1 := [some (.ref 79), some (.int x1), some (.int x2), some (.int x3), some (.int x4), some (.int x5), some (.int x6), some (.int x7), some (.int x8), some (.int t0)]) (st1 := [.int t0]) (h1 := h) (P := True) (by decide +kernel) rfl trivial ?_
    refine q_if_eq (off := 13) (tgt := 114) (by decide +kernel) (by decide) (fun c_2 => ?_) (fun c_2 => ?_)
    · have e := it_t c_2 e
      refine sl_ok ok_R_region [.iload 8, .iload 5] (pc1 := 118) (ls1 := [some (.ref 79), some (.int x1), some (.int x2), some (.int x3), some (.int x4), some (.int x5), some (.int x6), some (.int x7), some (.int x8), some (.int t0)]) (st1 := [.int x5, .int x8]) (h1 := h) (P := True) (by decide +kernel) rfl trivial ?_
      refine q_icmp_le (off := 7) (tgt := 125) (by decide +kernel) (by decide) (fun c_3 => ?_) (fun c_3 => ?_)
      · have e := it_t c_3 e
        refine sl_ok ok_R_region [.iinc 7 1] (pc1 := 128) (ls1 := [some (.ref 79), some (.int x1), some (.int x2), some (.int x3), some (.int x4), some (.int x5), some (.int x6), some (.int (x7 + 1)), some (.int x8), some (.int t0)]) (st1 := []) (h1 := h) (P := True) (by decide +kernel) rfl trivial ?_
        refine q_goto (off := -88) (tgt := 40) (by decide) (by decide +kernel) ?_
        cases e
        refine Go.sb [some (.ref 79), some (.int x1), some (.int x2), some (.int x3), some (.int x4), some (.int x5), some (.int x6), some (.int (x7 + 1)), none, none] (And.intro rfl (And.intro rfl (And.intro rfl (And.intro rfl (And.intro rfl (And.intro rfl (And.intro rfl (And.intro rfl trivial)))))))) ?_
        exact k
      · have e := it_f c_3 e
        refine sl_ok ok_R_region [.iload 8, .istore 5, .iinc 7 1] (pc1 := 128) (ls1 := [some (.ref 79), some (.int x1), some (.int x2), some (.int x3), some (.int x4), some (.int x8), some (.int x6), some (.int (x7 + 1)), some (.int x8), some (.int t0)]) (st1 := []) (h1 := h) (P := True) (by decide +kernel) rfl trivial ?_
        refine q_goto (off := -88) (tgt := 40) (by decide) (by decide +kernel) ?_
        cases e
        refine Go.sb [some (.ref 79), some (.int x1), some (.int x2), some (.int x3), some (.int x4), some (.int x8), some (.int x6), some (.int (x7 + 1)), none, none] (And.intro rfl (And.intro rfl (And.intro rfl (And.intro rfl (And.intro rfl (And.intro rfl (And.intro rfl (And.intro rfl trivial)))))))) ?_
        exact k
    · have e := it_f c_2 e
      refine sl_ok ok_R_region [.iload 8, .iload 5] (pc1 := 108) (ls1 := [some (.ref 79), some (.int x1), some (.int x2), some (.int x3), some (.int x4), some (.int x5), some (.int x6), some (.int x7), some (.int x8), some (.int t0)]) (st1 := [.int x5, .int x8]) (h1 := h) (P := True) (by decide +kernel) rfl trivial ?_
      refine q_icmp_ge (off := 17) (tgt := 125) (by decide +kernel) (by decide) (fun c_4 => ?_) (fun c_4 => ?_)
      · have e := it_t c_4 e
        refine sl_ok ok_R_region [.iinc 7 1] (pc1 := 128) (ls1 := [some (.ref 79), some (.int x1), some (.int x2), some (.int x3), some (.int x4), some (.int x5), some (.int x6), some (.int (x7 + 1)), some (.int x8), some (.int t0)]) (st1 := []) (h1 := h) (P := True) (by decide +kernel) rfl trivial ?_
        refine q_goto (off := -88) (tgt := 40) (by decide) (by decide +kernel) ?_
        cases e
        refine Go.sb [some (.ref 79), some (.int x1), some (.int x2), some (.int x3), some (.int x4), some (.int x5), some (.int x6), some (.int (x7 + 1)), none, none] (And.intro rfl (And.intro rfl (And.intro rfl (And.intro rfl (And.intro rfl (And.intro rfl (And.intro rfl (And.intro rfl trivial)))))))) ?_
        exact k
      · have e := it_f c_4 e
        refine q_goto (off := 10) (tgt := 121) (by decide) (by decide +kernel) ?_
        refine sl_ok ok_R_region [.iload 8, .istore 5, .iinc 7 1] (pc1 := 128) (ls1 := [some (.ref 79), some (.int x1), some (.int x2), some (.int x3), some (.int x4), some (.int x8), some (.int x6), some (.int (x7 + 1)), some (.int x8), some (.int t0)]) (st1 := []) (h1 := h) (P := True) (by decide +kernel) rfl trivial ?_
        refine q_goto (off := -88) (tgt := 40) (by decide) (by decide +kernel) ?_
        cases e
        refine Go.sb [some (.ref 79), some (.int x1), some (.int x2), some (.int x3), some (.int x4), some (.int x8), some (.int x6), some (.int (x7 + 1)), none, none] (And.intro rfl (And.intro rfl (And.intro rfl (And.intro rfl (And.intro rfl (And.intro rfl (And.intro rfl (And.intro rfl trivial)))))))) ?_
        exact k
def f_R_region_J3 (x1 : Int32) (x2 : Int32) (x3 : Int32) (x4 : Int32) (x5 : Int32) (x6 : Int32) (x7 : Int32) (t0 : Int32) (h : pH) : Option ((Int32 × Int32 × Int32) ⊕ ((Int32 × Int32 × Int32) ⊕ Int32)) :=
  if (jrem x2 2) = 1 then
    f_R_region_J4 x1 x2 x3 x4 x5 x6 x7 t0 1 h
  else
    f_R_region_J4 x1 x2 x3 x4 x5 x6 x7 t0 0 h
set_option maxHeartbeats 4000000 in
theorem b_R_region_J3 {E : pE} {r : Option Value} {hr : pH} {x1 : Int32} {x2 : Int32} {x3 : Int32} {x4 : Int32} {x5 : Int32} {x6 : Int32} {x7 : Int32} {t0 : Int32} {h : pH}  {b : ((Int32 × Int32 × Int32) ⊕ ((Int32 × Int32 × Int32) ⊕ Int32))} (e : f_R_region_J3 x1 x2 x3 x4 x5 x6 x7 t0 h = some b) (k : (Sum.elim (fun s : (Int32 × Int32 × Int32) => Go E M_R_region 40 [some (.ref 79), some (.int x1), some (.int x2), some (.int x3), some (.int s.1), some (.int s.2.1), some (.int x6), some (.int s.2.2), none, none] [] h r hr) (Sum.elim (fun s : (Int32 × Int32 × Int32) => Go E M_R_region 30 [some (.ref 79), some (.int x1), some (.int x2), some (.int x3), some (.int s.1), some (.int s.2.1), some (.int s.2.2), none, none, none] [] h r hr) (fun v : Int32 => r = some (.int v) ∧ hr = h))) b) : Go E M_R_region 76 [some (.ref 79), some (.int x1), some (.int x2), some (.int x3), some (.int x4), some (.int x5), some (.int x6), some (.int x7), none, none] [.int t0] h r hr := by
  unfold f_R_region_J3 at e
  refine sl_ok ok_R_region [.istore 8, .iload_n 2, .iconst 2, .irem, .iconst 1] (pc1 := 82) (ls1 := [some (.ref 79), some (.int x1), some (.int x2), some (.int x3), some (.int x4), some (.int x5), some (.int x6), some (.int x7), some (.int t0), none]) (st1 := [.int 1, .int (jrem x2 2)]) (h1 := h) (P := (¬ (2 : Int32) = 0) ∧ True) (by decide +kernel) rfl ⟨(by decide), trivial⟩ ?_
  refine q_icmp_ne (off := 7) (tgt := 89) (by decide +kernel) (by decide) (fun c_1 => ?_) (fun c_1 => ?_)
  · have e := it_f c_1 e
    refine sl_ok ok_R_region [.iconst 0] (pc1 := 90) (ls1 := [some (.ref 79), some (.int x1), some (.int x2), some (.int x3), some (.int x4), some (.int x5), some (.int x6), some (.int x7), some (.int t0), none]) (st1 := [.int 0]) (h1 := h) (P := True) (by decide +kernel) rfl trivial ?_
    exact b_R_region_J4  e k
  · have e := it_t c_1 e
    refine sl_ok ok_R_region [.iconst 1] (pc1 := 86) (ls1 := [some (.ref 79), some (.int x1), some (.int x2), some (.int x3), some (.int x4), some (.int x5), some (.int x6), some (.int x7), some (.int t0), none]) (st1 := [.int 1]) (h1 := h) (P := True) (by decide +kernel) rfl trivial ?_
    refine q_goto (off := 4) (tgt := 90) (by decide) (by decide +kernel) ?_
    exact b_R_region_J4  e k
def f_R_region_L2 (x1 : Int32) (x2 : Int32) (x3 : Int32) (x6 : Int32) (h : pH) (x4 : Int32) (x5 : Int32) (x7 : Int32) : Option ((Int32 × Int32 × Int32) ⊕ ((Int32 × Int32 × Int32) ⊕ Int32)) :=
  if x3 < x7 then
    some (.inr (.inl (x4, x5, (x6 + 1))))
  else
    (f_R_depthOf x7 x6 h).bind fun v_2 =>
    if x1 ≤ v_2 then
      if 3 ≤ x2 then
        f_R_region_J3 x1 x2 x3 (x4 + 1) x5 x6 x7 x6 h
      else
        f_R_region_J3 x1 x2 x3 (x4 + 1) x5 x6 x7 x7 h
    else
      some (.inl (x4, x5, (x7 + 1)))
set_option maxHeartbeats 4000000 in
theorem b_R_region_L2 {E : pE} {r : Option Value} {hr : pH} {x1 : Int32} {x2 : Int32} {x3 : Int32} {x6 : Int32} {h : pH} {x4 : Int32} {x5 : Int32} {x7 : Int32}  {b : ((Int32 × Int32 × Int32) ⊕ ((Int32 × Int32 × Int32) ⊕ Int32))} (e : f_R_region_L2 x1 x2 x3 x6 h x4 x5 x7 = some b) (k : (Sum.elim (fun s : (Int32 × Int32 × Int32) => Go E M_R_region 40 [some (.ref 79), some (.int x1), some (.int x2), some (.int x3), some (.int s.1), some (.int s.2.1), some (.int x6), some (.int s.2.2), none, none] [] h r hr) (Sum.elim (fun s : (Int32 × Int32 × Int32) => Go E M_R_region 30 [some (.ref 79), some (.int x1), some (.int x2), some (.int x3), some (.int s.1), some (.int s.2.1), some (.int s.2.2), none, none, none] [] h r hr) (fun v : Int32 => r = some (.int v) ∧ hr = h))) b) : Go E M_R_region 40 [some (.ref 79), some (.int x1), some (.int x2), some (.int x3), some (.int x4), some (.int x5), some (.int x6), some (.int x7), none, none] [] h r hr := by
  unfold f_R_region_L2 at e
  refine sl_ok ok_R_region [.iload 7, .iload_n 3] (pc1 := 43) (ls1 := [some (.ref 79), some (.int x1), some (.int x2), some (.int x3), some (.int x4), some (.int x5), some (.int x6), some (.int x7), none, none]) (st1 := [.int x3, .int x7]) (h1 := h) (P := True) (by decide +kernel) rfl trivial ?_
  refine q_icmp_gt (off := 88) (tgt := 131) (by decide +kernel) (by decide) (fun c_1 => ?_) (fun c_1 => ?_)
  · have e := it_t c_1 e
    refine sl_ok ok_R_region [.iinc 6 1] (pc1 := 134) (ls1 := [some (.ref 79), some (.int x1), some (.int x2), some (.int x3), some (.int x4), some (.int x5), some (.int (x6 + 1)), some (.int x7), none, none]) (st1 := []) (h1 := h) (P := True) (by decide +kernel) rfl trivial ?_
    refine q_goto (off := -104) (tgt := 30) (by decide) (by decide +kernel) ?_
    cases e
    refine Go.sb [some (.ref 79), some (.int x1), some (.int x2), some (.int x3), some (.int x4), some (.int x5), some (.int (x6 + 1)), none, none, none] (And.intro rfl (And.intro rfl (And.intro rfl (And.intro rfl (And.intro rfl (And.intro rfl (And.intro rfl trivial))))))) ?_
    exact k
  · have e := it_f c_1 e
    refine sl_ok ok_R_region [.aload_n 0, .iload 7, .iload 6] (pc1 := 51) (ls1 := [some (.ref 79), some (.int x1), some (.int x2), some (.int x3), some (.int x4), some (.int x5), some (.int x6), some (.int x7), none, none]) (st1 := [.int x6, .int x7, .ref 79]) (h1 := h) (P := True) (by decide +kernel) rfl trivial ?_
    obtain ⟨v_2, e_3, e⟩ := bi_s e
    refine q_callV ok_R_depthOf (as := [.int x7, .int x6]) (st := []) ⟨wd_295, wd_296, wd_297, wd_7, ds_R_depthOf, Nat.le_of_ble_eq_true rfl, Nat.le_of_ble_eq_true rfl⟩ (s_R_depthOf  e_3) rfl ⟨rfl, rfl⟩ (ci := 12) rfl (fun v hv => by cases hv; rfl) (Nat.le_of_ble_eq_true rfl) (by decide +kernel) rfl ?_
    refine sl_ok ok_R_region [.iload_n 1] (pc1 := 55) (ls1 := [some (.ref 79), some (.int x1), some (.int x2), some (.int x3), some (.int x4), some (.int x5), some (.int x6), some (.int x7), none, none]) (st1 := [.int x1, .int v_2]) (h1 := h) (P := True) (by decide +kernel) rfl trivial ?_
    refine q_icmp_ge (off := 6) (tgt := 61) (by decide +kernel) (by decide) (fun c_4 => ?_) (fun c_4 => ?_)
    · have e := it_t c_4 e
      refine sl_ok ok_R_region [.iinc 4 1, .iload_n 2, .iconst 3] (pc1 := 66) (ls1 := [some (.ref 79), some (.int x1), some (.int x2), some (.int x3), some (.int (x4 + 1)), some (.int x5), some (.int x6), some (.int x7), none, none]) (st1 := [.int 3, .int x2]) (h1 := h) (P := True) (by decide +kernel) rfl trivial ?_
      refine q_icmp_ge (off := 8) (tgt := 74) (by decide +kernel) (by decide) (fun c_5 => ?_) (fun c_5 => ?_)
      · have e := it_t c_5 e
        refine sl_ok ok_R_region [.iload 6] (pc1 := 76) (ls1 := [some (.ref 79), some (.int x1), some (.int x2), some (.int x3), some (.int (x4 + 1)), some (.int x5), some (.int x6), some (.int x7), none, none]) (st1 := [.int x6]) (h1 := h) (P := True) (by decide +kernel) rfl trivial ?_
        exact b_R_region_J3  e k
      · have e := it_f c_5 e
        refine sl_ok ok_R_region [.iload 7] (pc1 := 71) (ls1 := [some (.ref 79), some (.int x1), some (.int x2), some (.int x3), some (.int (x4 + 1)), some (.int x5), some (.int x6), some (.int x7), none, none]) (st1 := [.int x7]) (h1 := h) (P := True) (by decide +kernel) rfl trivial ?_
        refine q_goto (off := 5) (tgt := 76) (by decide) (by decide +kernel) ?_
        exact b_R_region_J3  e k
    · have e := it_f c_4 e
      refine q_goto (off := 67) (tgt := 125) (by decide) (by decide +kernel) ?_
      refine sl_ok ok_R_region [.iinc 7 1] (pc1 := 128) (ls1 := [some (.ref 79), some (.int x1), some (.int x2), some (.int x3), some (.int x4), some (.int x5), some (.int x6), some (.int (x7 + 1)), none, none]) (st1 := []) (h1 := h) (P := True) (by decide +kernel) rfl trivial ?_
      refine q_goto (off := -88) (tgt := 40) (by decide) (by decide +kernel) ?_
      cases e
      exact k
def f_R_region_L1 (x1 : Int32) (x2 : Int32) (x3 : Int32) (h : pH) (x4 : Int32) (x5 : Int32) (x6 : Int32) : Option ((Int32 × Int32 × Int32) ⊕ Int32) :=
  if x3 < x6 then
    if x2 = 0 then
      some (.inr x4)
    else
      some (.inr x5)
  else
    lp (fun s => f_R_region_L2 x1 x2 x3 x6 h s.1 s.2.1 s.2.2) lpN (x4, x5, (-x3))
set_option maxHeartbeats 4000000 in
theorem b_R_region_L1 {E : pE} {r : Option Value} {hr : pH} {x1 : Int32} {x2 : Int32} {x3 : Int32} {h : pH} {x4 : Int32} {x5 : Int32} {x6 : Int32}  {b : ((Int32 × Int32 × Int32) ⊕ Int32)} (e : f_R_region_L1 x1 x2 x3 h x4 x5 x6 = some b) (k : (Sum.elim (fun s : (Int32 × Int32 × Int32) => Go E M_R_region 30 [some (.ref 79), some (.int x1), some (.int x2), some (.int x3), some (.int s.1), some (.int s.2.1), some (.int s.2.2), none, none, none] [] h r hr) (fun v : Int32 => r = some (.int v) ∧ hr = h)) b) : Go E M_R_region 30 [some (.ref 79), some (.int x1), some (.int x2), some (.int x3), some (.int x4), some (.int x5), some (.int x6), none, none, none] [] h r hr := by
  unfold f_R_region_L1 at e
  refine sl_ok ok_R_region [.iload 6, .iload_n 3] (pc1 := 33) (ls1 := [some (.ref 79), some (.int x1), some (.int x2), some (.int x3), some (.int x4), some (.int x5), some (.int x6), none, none, none]) (st1 := [.int x3, .int x6]) (h1 := h) (P := True) (by decide +kernel) rfl trivial ?_
  refine q_icmp_gt (off := 104) (tgt := 137) (by decide +kernel) (by decide) (fun c_1 => ?_) (fun c_1 => ?_)
  · have e := it_t c_1 e
    refine sl_ok ok_R_region [.iload_n 2] (pc1 := 138) (ls1 := [some (.ref 79), some (.int x1), some (.int x2), some (.int x3), some (.int x4), some (.int x5), some (.int x6), none, none, none]) (st1 := [.int x2]) (h1 := h) (P := True) (by decide +kernel) rfl trivial ?_
    refine q_if_ne (off := 8) (tgt := 146) (by decide +kernel) (by decide) (fun c_2 => ?_) (fun c_2 => ?_)
    · have e := it_f c_2 e
      refine sl_ok ok_R_region [.iload 5] (pc1 := 148) (ls1 := [some (.ref 79), some (.int x1), some (.int x2), some (.int x3), some (.int x4), some (.int x5), some (.int x6), none, none, none]) (st1 := [.int x5]) (h1 := h) (P := True) (by decide +kernel) rfl trivial ?_
      cases e
      exact q_iret rfl k.1 k.2 (by decide +kernel)
    · have e := it_t c_2 e
      refine sl_ok ok_R_region [.iload 4] (pc1 := 143) (ls1 := [some (.ref 79), some (.int x1), some (.int x2), some (.int x3), some (.int x4), some (.int x5), some (.int x6), none, none, none]) (st1 := [.int x4]) (h1 := h) (P := True) (by decide +kernel) rfl trivial ?_
      refine q_goto (off := 5) (tgt := 148) (by decide) (by decide +kernel) ?_
      cases e
      exact q_iret rfl k.1 k.2 (by decide +kernel)
  · have e := it_f c_1 e
    refine sl_ok ok_R_region [.iload_n 3, .ineg, .istore 7] (pc1 := 40) (ls1 := [some (.ref 79), some (.int x1), some (.int x2), some (.int x3), some (.int x4), some (.int x5), some (.int x6), some (.int (-x3)), none, none]) (st1 := []) (h1 := h) (P := True) (by decide +kernel) rfl trivial ?_
    exact lp_in e (fun s => Go E M_R_region 40 [some (.ref 79), some (.int x1), some (.int x2), some (.int x3), some (.int s.1), some (.int s.2.1), some (.int x6), some (.int s.2.2), none, none] [] h r hr) (Sum.elim (fun s : (Int32 × Int32 × Int32) => Go E M_R_region 30 [some (.ref 79), some (.int x1), some (.int x2), some (.int x3), some (.int s.1), some (.int s.2.1), some (.int s.2.2), none, none, none] [] h r hr) (fun v : Int32 => r = some (.int v) ∧ hr = h)) (fun _ _ e k => b_R_region_L2  e k) k
def f_R_region (x1 : Int32) (x2 : Int32) (h : pH) : Option Int32 :=
  if (f_R_in x2 (0 : Int32) (4 : Int32)) = 0 then
    some (-100000)
  else
    lp (fun s => f_R_region_L1 x1 x2 (hI h 87 1) h s.1 s.2.1 s.2.2) lpN (0, (-100000), (-(hI h 87 1)))
set_option maxHeartbeats 4000000 in
theorem b_R_region {E : pE} {r : Option Value} {hr : pH} {x1 : Int32} {x2 : Int32} {h : pH}  {b : Int32} (e : f_R_region x1 x2 h = some b) (k : (fun v : Int32 => r = some (.int v) ∧ hr = h) b) : Go E M_R_region 0 [some (.ref 79), some (.int x1), some (.int x2), none, none, none, none, none, none, none] [] h r hr := by
  unfold f_R_region at e
  refine sl_ok ok_R_region [.iload_n 2, .iconst 0, .iconst 4] (pc1 := 3) (ls1 := [some (.ref 79), some (.int x1), some (.int x2), none, none, none, none, none, none, none]) (st1 := [.int 4, .int 0, .int x2]) (h1 := h) (P := True) (by decide +kernel) rfl trivial ?_
  refine q_callS ok_R_in (as := [.int x2, .int 0, .int 4]) (st := []) ⟨wd_127, wd_128, wd_7, ds_R_in, Nat.le_of_ble_eq_true rfl, Nat.le_of_ble_eq_true rfl⟩ (s_R_in ) rfl (fun v hv => by cases hv; rfl) (Nat.le_of_ble_eq_true rfl) (by decide +kernel) rfl ?_
  refine q_if_ne (off := 6) (tgt := 12) (by decide +kernel) (by decide) (fun c_1 => ?_) (fun c_1 => ?_)
  · have e := it_f c_1 e
    refine sl_ok ok_R_region [.aload_n 0, .getfield 40, .iconst 1, .iaload, .istore_n 3, .iconst 0, .istore 4, .ldc 220, .istore 5, .iload_n 3, .ineg, .istore 6] (pc1 := 30) (ls1 := [some (.ref 79), some (.int x1), some (.int x2), some (.int (hI h 87 1)), some (.int 0), some (.int (-100000)), some (.int (-(hI h 87 1))), none, none, none]) (st1 := []) (h1 := h) (P := (ak 79 = 0 ∧ cx 79 = 12) ∧ (ak 87 = 1 ∧ ¬ ((1 : Int32) < 0 ∨ cx 87 ≤ (1 : Int32).toNatClampNeg)) ∧ True) (by decide +kernel) rfl ⟨⟨rfl, rfl⟩, ⟨rfl, (by decide)⟩, trivial⟩ ?_
    exact lp_in e (fun s => Go E M_R_region 30 [some (.ref 79), some (.int x1), some (.int x2), some (.int (hI h 87 1)), some (.int s.1), some (.int s.2.1), some (.int s.2.2), none, none, none] [] h r hr) (fun v : Int32 => r = some (.int v) ∧ hr = h) (fun _ _ e k => b_R_region_L1  e k) k
  · have e := it_t c_1 e
    refine sl_ok ok_R_region [.ldc 220] (pc1 := 11) (ls1 := [some (.ref 79), some (.int x1), some (.int x2), none, none, none, none, none, none, none]) (st1 := [.int (-100000)]) (h1 := h) (P := True) (by decide +kernel) rfl trivial ?_
    cases e
    exact q_iret rfl k.1 k.2 (by decide +kernel)
theorem s_R_region {E : pE} {x1 : Int32} {x2 : Int32} {h : pH}  {v : Int32} (e : f_R_region x1 x2 h = some v) : Ct E M_R_region [.ref 79, .int x1, .int x2] h (some (.int v)) h :=
  Ct_of ok_R_region [some (.ref 79), some (.int x1), some (.int x2), none, none, none, none, none, none, none] (Nat.le_of_ble_eq_true rfl) rfl (b_R_region  e ⟨rfl, rfl⟩)
def f_Shapes_leastOf (x0 : Int32) : Int32 :=
  (f_J_bitCount ((x0 &&& (-x0)) - 1))
set_option maxHeartbeats 4000000 in
theorem b_Shapes_leastOf {E : pE} {r : Option Value} {hr : pH} {x0 : Int32} {h : pH}  {b : Int32} (e : f_Shapes_leastOf x0 = b) (k : (fun v : Int32 => r = some (.int v) ∧ hr = h) b) : Go E M_Shapes_leastOf 0 [some (.int x0)] [] h r hr := by
  unfold f_Shapes_leastOf at e
  refine sl_ok ok_Shapes_leastOf [.iload_n 0, .iload_n 0, .ineg, .iand, .iconst 1, .isub] (pc1 := 6) (ls1 := [some (.int x0)]) (st1 := [.int ((x0 &&& (-x0)) - 1)]) (h1 := h) (P := True) (by decide +kernel) rfl trivial ?_
  refine q_callS ok_J_bitCount (as := [.int ((x0 &&& (-x0)) - 1)]) (st := []) ⟨wd_398, wd_302, wd_303, ds_J_bitCount, Nat.le_of_ble_eq_true rfl, Nat.le_of_ble_eq_true rfl⟩ (s_J_bitCount ) rfl (fun v hv => by cases hv; rfl) (Nat.le_of_ble_eq_true rfl) (by decide +kernel) rfl ?_
  cases e
  exact q_iret rfl k.1 k.2 (by decide +kernel)
theorem s_Shapes_leastOf {E : pE} {x0 : Int32} {h : pH}  : Ct E M_Shapes_leastOf [.int x0] h (some (.int (f_Shapes_leastOf x0))) h :=
  Ct_of ok_Shapes_leastOf [some (.int x0)] (Nat.le_of_ble_eq_true rfl) rfl (b_Shapes_leastOf  rfl ⟨rfl, rfl⟩)
def f_Shapes_covers_J2 (x10 : Int32) (t0 : Int32) (h : pH) : Option Int32 :=
  if x10 = 0 then
    some 1
  else
    if t0 = 0 then
      some 1
    else
      some 0
set_option maxHeartbeats 4000000 in
theorem b_Shapes_covers_J2 {E : pE} {r : Option Value} {hr : pH} {x10 : Int32} {t0 : Int32} {h : pH}  {b : Int32} (e : f_Shapes_covers_J2 x10 t0 h = some b) (k : (fun v : Int32 => r = some (.int v) ∧ hr = h) b) : Go E M_Shapes_covers 146 [none, none, none, none, none, none, none, none, none, none, some (.int x10), none] [.int t0] h r hr := by
  unfold f_Shapes_covers_J2 at e
  refine sl_ok ok_Shapes_covers [.istore 11, .iload 10] (pc1 := 150) (ls1 := [none, none, none, none, none, none, none, none, none, none, some (.int x10), some (.int t0)]) (st1 := [.int x10]) (h1 := h) (P := True) (by decide +kernel) rfl trivial ?_
  refine q_if_eq (off := 8) (tgt := 158) (by decide +kernel) (by decide) (fun c_1 => ?_) (fun c_1 => ?_)
  · have e := it_t c_1 e
    refine sl_ok ok_Shapes_covers [.iconst 1] (pc1 := 159) (ls1 := [none, none, none, none, none, none, none, none, none, none, some (.int x10), some (.int t0)]) (st1 := [.int 1]) (h1 := h) (P := True) (by decide +kernel) rfl trivial ?_
    refine q_goto (off := 4) (tgt := 163) (by decide) (by decide +kernel) ?_
    cases e
    exact q_zret rfl (Or.inr rfl) k.1 k.2 (by decide +kernel)
  · have e := it_f c_1 e
    refine sl_ok ok_Shapes_covers [.iload 11] (pc1 := 155) (ls1 := [none, none, none, none, none, none, none, none, none, none, some (.int x10), some (.int t0)]) (st1 := [.int t0]) (h1 := h) (P := True) (by decide +kernel) rfl trivial ?_
    refine q_if_ne (off := 7) (tgt := 162) (by decide +kernel) (by decide) (fun c_2 => ?_) (fun c_2 => ?_)
    · have e := it_f c_2 e
      refine sl_ok ok_Shapes_covers [.iconst 0] (pc1 := 163) (ls1 := [none, none, none, none, none, none, none, none, none, none, some (.int x10), some (.int t0)]) (st1 := [.int 0]) (h1 := h) (P := True) (by decide +kernel) rfl trivial ?_
      cases e
      exact q_zret rfl (Or.inl rfl) k.1 k.2 (by decide +kernel)
    · have e := it_t c_2 e
      refine sl_ok ok_Shapes_covers [.iconst 1] (pc1 := 159) (ls1 := [none, none, none, none, none, none, none, none, none, none, some (.int x10), some (.int t0)]) (st1 := [.int 1]) (h1 := h) (P := True) (by decide +kernel) rfl trivial ?_
      refine q_goto (off := 4) (tgt := 163) (by decide) (by decide +kernel) ?_
      cases e
      exact q_zret rfl (Or.inr rfl) k.1 k.2 (by decide +kernel)
def f_Shapes_covers_J1 (x7 : Int32) (x8 : Int32) (x9 : Int32) (t0 : Int32) (h : pH) : Option Int32 :=
  if x7 < 0 then
    f_Shapes_covers_J2 t0 1 h
  else
    if x8 < 0 then
      f_Shapes_covers_J2 t0 1 h
    else
      if 0 ≤ x9 then
        f_Shapes_covers_J2 t0 0 h
      else
        f_Shapes_covers_J2 t0 1 h
set_option maxHeartbeats 4000000 in
theorem b_Shapes_covers_J1 {E : pE} {r : Option Value} {hr : pH} {x7 : Int32} {x8 : Int32} {x9 : Int32} {t0 : Int32} {h : pH}  {b : Int32} (e : f_Shapes_covers_J1 x7 x8 x9 t0 h = some b) (k : (fun v : Int32 => r = some (.int v) ∧ hr = h) b) : Go E M_Shapes_covers 124 [none, none, none, none, none, none, none, some (.int x7), some (.int x8), some (.int x9), none, none] [.int t0] h r hr := by
  unfold f_Shapes_covers_J1 at e
  refine sl_ok ok_Shapes_covers [.istore 10, .iload 7] (pc1 := 128) (ls1 := [none, none, none, none, none, none, none, some (.int x7), some (.int x8), some (.int x9), some (.int t0), none]) (st1 := [.int x7]) (h1 := h) (P := True) (by decide +kernel) rfl trivial ?_
  refine q_if_lt (off := 13) (tgt := 141) (by decide +kernel) (by decide) (fun c_1 => ?_) (fun c_1 => ?_)
  · have e := it_t c_1 e
    refine sl_ok ok_Shapes_covers [.iconst 1] (pc1 := 142) (ls1 := [none, none, none, none, none, none, none, some (.int x7), some (.int x8), some (.int x9), some (.int t0), none]) (st1 := [.int 1]) (h1 := h) (P := True) (by decide +kernel) rfl trivial ?_
    refine q_goto (off := 4) (tgt := 146) (by decide) (by decide +kernel) ?_
    refine Go.sb [none, none, none, none, none, none, none, none, none, none, some (.int t0), none] (And.intro rfl trivial) ?_
    exact b_Shapes_covers_J2  e k
  · have e := it_f c_1 e
    refine sl_ok ok_Shapes_covers [.iload 8] (pc1 := 133) (ls1 := [none, none, none, none, none, none, none, some (.int x7), some (.int x8), some (.int x9), some (.int t0), none]) (st1 := [.int x8]) (h1 := h) (P := True) (by decide +kernel) rfl trivial ?_
    refine q_if_lt (off := 8) (tgt := 141) (by decide +kernel) (by decide) (fun c_2 => ?_) (fun c_2 => ?_)
    · have e := it_t c_2 e
      refine sl_ok ok_Shapes_covers [.iconst 1] (pc1 := 142) (ls1 := [none, none, none, none, none, none, none, some (.int x7), some (.int x8), some (.int x9), some (.int t0), none]) (st1 := [.int 1]) (h1 := h) (P := True) (by decide +kernel) rfl trivial ?_
      refine q_goto (off := 4) (tgt := 146) (by decide) (by decide +kernel) ?_
      refine Go.sb [none, none, none, none, none, none, none, none, none, none, some (.int t0), none] (And.intro rfl trivial) ?_
      exact b_Shapes_covers_J2  e k
    · have e := it_f c_2 e
      refine sl_ok ok_Shapes_covers [.iload 9] (pc1 := 138) (ls1 := [none, none, none, none, none, none, none, some (.int x7), some (.int x8), some (.int x9), some (.int t0), none]) (st1 := [.int x9]) (h1 := h) (P := True) (by decide +kernel) rfl trivial ?_
      refine q_if_ge (off := 7) (tgt := 145) (by decide +kernel) (by decide) (fun c_3 => ?_) (fun c_3 => ?_)
      · have e := it_t c_3 e
        refine sl_ok ok_Shapes_covers [.iconst 0] (pc1 := 146) (ls1 := [none, none, none, none, none, none, none, some (.int x7), some (.int x8), some (.int x9), some (.int t0), none]) (st1 := [.int 0]) (h1 := h) (P := True) (by decide +kernel) rfl trivial ?_
        refine Go.sb [none, none, none, none, none, none, none, none, none, none, some (.int t0), none] (And.intro rfl trivial) ?_
        exact b_Shapes_covers_J2  e k
      · have e := it_f c_3 e
        refine sl_ok ok_Shapes_covers [.iconst 1] (pc1 := 142) (ls1 := [none, none, none, none, none, none, none, some (.int x7), some (.int x8), some (.int x9), some (.int t0), none]) (st1 := [.int 1]) (h1 := h) (P := True) (by decide +kernel) rfl trivial ?_
        refine q_goto (off := 4) (tgt := 146) (by decide) (by decide +kernel) ?_
        refine Go.sb [none, none, none, none, none, none, none, none, none, none, some (.int t0), none] (And.intro rfl trivial) ?_
        exact b_Shapes_covers_J2  e k
def f_Shapes_covers (o0 : Nat) (x1 : Int32) (x2 : Int32) (x3 : Int32) (h : pH) : Option Int32 :=
  if (f_Cloud_has o0 (f_Shapes_leastOf x1) h) = 0 then
    some 0
  else
    if (f_Cloud_has o0 (f_Shapes_leastOf (x1 &&& ((jshl 1 (f_Shapes_leastOf x1)) ^^^ (-1)))) h) = 0 then
      some 0
    else
      if (f_Cloud_has o0 (f_Shapes_leastOf ((x1 &&& ((jshl 1 (f_Shapes_leastOf x1)) ^^^ (-1))) &&& ((jshl 1 (f_Shapes_leastOf (x1 &&& ((jshl 1 (f_Shapes_leastOf x1)) ^^^ (-1))))) ^^^ (-1)))) h) = 0 then
        some 0
      else
        (f_Cloud_turnAt o0 (f_Shapes_leastOf x1) (f_Shapes_leastOf (x1 &&& ((jshl 1 (f_Shapes_leastOf x1)) ^^^ (-1)))) x2 x3 h).bind fun v_4 =>
        (f_Cloud_turnAt o0 (f_Shapes_leastOf (x1 &&& ((jshl 1 (f_Shapes_leastOf x1)) ^^^ (-1)))) (f_Shapes_leastOf ((x1 &&& ((jshl 1 (f_Shapes_leastOf x1)) ^^^ (-1))) &&& ((jshl 1 (f_Shapes_leastOf (x1 &&& ((jshl 1 (f_Shapes_leastOf x1)) ^^^ (-1))))) ^^^ (-1)))) x2 x3 h).bind fun v_6 =>
        (f_Cloud_turnAt o0 (f_Shapes_leastOf ((x1 &&& ((jshl 1 (f_Shapes_leastOf x1)) ^^^ (-1))) &&& ((jshl 1 (f_Shapes_leastOf (x1 &&& ((jshl 1 (f_Shapes_leastOf x1)) ^^^ (-1))))) ^^^ (-1)))) (f_Shapes_leastOf x1) x2 x3 h).bind fun v_8 =>
        if 0 < v_4 then
          f_Shapes_covers_J1 v_4 v_6 v_8 1 h
        else
          if 0 < v_6 then
            f_Shapes_covers_J1 v_4 v_6 v_8 1 h
          else
            if v_8 ≤ 0 then
              f_Shapes_covers_J1 v_4 v_6 v_8 0 h
            else
              f_Shapes_covers_J1 v_4 v_6 v_8 1 h
set_option maxHeartbeats 4000000 in
theorem b_Shapes_covers {E : pE} {r : Option Value} {hr : pH} {o0 : Nat} {x1 : Int32} {x2 : Int32} {x3 : Int32} {h : pH} (ho0 : ak o0 = 0 ∧ cx o0 = 0) {b : Int32} (e : f_Shapes_covers o0 x1 x2 x3 h = some b) (k : (fun v : Int32 => r = some (.int v) ∧ hr = h) b) : Go E M_Shapes_covers 0 [some (.ref o0), some (.int x1), some (.int x2), some (.int x3), none, none, none, none, none, none, none, none] [] h r hr := by
  unfold f_Shapes_covers at e
  refine sl_ok ok_Shapes_covers [.iload_n 1] (pc1 := 1) (ls1 := [some (.ref o0), some (.int x1), some (.int x2), some (.int x3), none, none, none, none, none, none, none, none]) (st1 := [.int x1]) (h1 := h) (P := True) (by decide +kernel) rfl trivial ?_
  refine q_callS ok_Shapes_leastOf (as := [.int x1]) (st := []) ⟨wd_399, wd_400, wd_231, ds_Shapes_leastOf, Nat.le_of_ble_eq_true rfl, Nat.le_of_ble_eq_true rfl⟩ (s_Shapes_leastOf ) rfl (fun v hv => by cases hv; rfl) (Nat.le_of_ble_eq_true rfl) (by decide +kernel) rfl ?_
  refine sl_ok ok_Shapes_covers [.istore 4, .iload_n 1, .iconst 1, .iload 4, .ishl, .iconst (-1), .ixor, .iand] (pc1 := 14) (ls1 := [some (.ref o0), some (.int x1), some (.int x2), some (.int x3), some (.int (f_Shapes_leastOf x1)), none, none, none, none, none, none, none]) (st1 := [.int (x1 &&& ((jshl 1 (f_Shapes_leastOf x1)) ^^^ (-1)))]) (h1 := h) (P := True) (by decide +kernel) rfl trivial ?_
  refine q_callS ok_Shapes_leastOf (as := [.int (x1 &&& ((jshl 1 (f_Shapes_leastOf x1)) ^^^ (-1)))]) (st := []) ⟨wd_399, wd_400, wd_231, ds_Shapes_leastOf, Nat.le_of_ble_eq_true rfl, Nat.le_of_ble_eq_true rfl⟩ (s_Shapes_leastOf ) rfl (fun v hv => by cases hv; rfl) (Nat.le_of_ble_eq_true rfl) (by decide +kernel) rfl ?_
  refine sl_ok ok_Shapes_covers [.istore 5, .iload_n 1, .iconst 1, .iload 4, .ishl, .iconst (-1), .ixor, .iand, .iconst 1, .iload 5, .ishl, .iconst (-1), .ixor, .iand] (pc1 := 34) (ls1 := [some (.ref o0), some (.int x1), some (.int x2), some (.int x3), some (.int (f_Shapes_leastOf x1)), some (.int (f_Shapes_leastOf (x1 &&& ((jshl 1 (f_Shapes_leastOf x1)) ^^^ (-1))))), none, none, none, none, none, none]) (st1 := [.int ((x1 &&& ((jshl 1 (f_Shapes_leastOf x1)) ^^^ (-1))) &&& ((jshl 1 (f_Shapes_leastOf (x1 &&& ((jshl 1 (f_Shapes_leastOf x1)) ^^^ (-1))))) ^^^ (-1)))]) (h1 := h) (P := True) (by decide +kernel) rfl trivial ?_
  refine q_callS ok_Shapes_leastOf (as := [.int ((x1 &&& ((jshl 1 (f_Shapes_leastOf x1)) ^^^ (-1))) &&& ((jshl 1 (f_Shapes_leastOf (x1 &&& ((jshl 1 (f_Shapes_leastOf x1)) ^^^ (-1))))) ^^^ (-1)))]) (st := []) ⟨wd_399, wd_400, wd_231, ds_Shapes_leastOf, Nat.le_of_ble_eq_true rfl, Nat.le_of_ble_eq_true rfl⟩ (s_Shapes_leastOf ) rfl (fun v hv => by cases hv; rfl) (Nat.le_of_ble_eq_true rfl) (by decide +kernel) rfl ?_
  refine sl_ok ok_Shapes_covers [.istore 6, .aload_n 0, .iload 4] (pc1 := 42) (ls1 := [some (.ref o0), some (.int x1), some (.int x2), some (.int x3), some (.int (f_Shapes_leastOf x1)), some (.int (f_Shapes_leastOf (x1 &&& ((jshl 1 (f_Shapes_leastOf x1)) ^^^ (-1))))), some (.int (f_Shapes_leastOf ((x1 &&& ((jshl 1 (f_Shapes_leastOf x1)) ^^^ (-1))) &&& ((jshl 1 (f_Shapes_leastOf (x1 &&& ((jshl 1 (f_Shapes_leastOf x1)) ^^^ (-1))))) ^^^ (-1))))), none, none, none, none, none]) (st1 := [.int (f_Shapes_leastOf x1), .ref o0]) (h1 := h) (P := True) (by decide +kernel) rfl trivial ?_
  refine q_callV ok_Cloud_has (as := [.int (f_Shapes_leastOf x1)]) (st := []) ⟨wd_401, wd_173, wd_174, wd_14, ds_Cloud_has, Nat.le_of_ble_eq_true rfl, Nat.le_of_ble_eq_true rfl⟩ (s_Cloud_has ho0) rfl ho0 (ci := 0) rfl (fun v hv => by cases hv; rfl) (Nat.le_of_ble_eq_true rfl) (by decide +kernel) rfl ?_
  refine q_if_eq (off := 21) (tgt := 66) (by decide +kernel) (by decide) (fun c_1 => ?_) (fun c_1 => ?_)
  · have e := it_t c_1 e
    refine sl_ok ok_Shapes_covers [.iconst 0] (pc1 := 67) (ls1 := [some (.ref o0), some (.int x1), some (.int x2), some (.int x3), some (.int (f_Shapes_leastOf x1)), some (.int (f_Shapes_leastOf (x1 &&& ((jshl 1 (f_Shapes_leastOf x1)) ^^^ (-1))))), some (.int (f_Shapes_leastOf ((x1 &&& ((jshl 1 (f_Shapes_leastOf x1)) ^^^ (-1))) &&& ((jshl 1 (f_Shapes_leastOf (x1 &&& ((jshl 1 (f_Shapes_leastOf x1)) ^^^ (-1))))) ^^^ (-1))))), none, none, none, none, none]) (st1 := [.int 0]) (h1 := h) (P := True) (by decide +kernel) rfl trivial ?_
    cases e
    exact q_zret rfl (Or.inl rfl) k.1 k.2 (by decide +kernel)
  · have e := it_f c_1 e
    refine sl_ok ok_Shapes_covers [.aload_n 0, .iload 5] (pc1 := 51) (ls1 := [some (.ref o0), some (.int x1), some (.int x2), some (.int x3), some (.int (f_Shapes_leastOf x1)), some (.int (f_Shapes_leastOf (x1 &&& ((jshl 1 (f_Shapes_leastOf x1)) ^^^ (-1))))), some (.int (f_Shapes_leastOf ((x1 &&& ((jshl 1 (f_Shapes_leastOf x1)) ^^^ (-1))) &&& ((jshl 1 (f_Shapes_leastOf (x1 &&& ((jshl 1 (f_Shapes_leastOf x1)) ^^^ (-1))))) ^^^ (-1))))), none, none, none, none, none]) (st1 := [.int (f_Shapes_leastOf (x1 &&& ((jshl 1 (f_Shapes_leastOf x1)) ^^^ (-1)))), .ref o0]) (h1 := h) (P := True) (by decide +kernel) rfl trivial ?_
    refine q_callV ok_Cloud_has (as := [.int (f_Shapes_leastOf (x1 &&& ((jshl 1 (f_Shapes_leastOf x1)) ^^^ (-1))))]) (st := []) ⟨wd_401, wd_173, wd_174, wd_14, ds_Cloud_has, Nat.le_of_ble_eq_true rfl, Nat.le_of_ble_eq_true rfl⟩ (s_Cloud_has ho0) rfl ho0 (ci := 0) rfl (fun v hv => by cases hv; rfl) (Nat.le_of_ble_eq_true rfl) (by decide +kernel) rfl ?_
    refine q_if_eq (off := 12) (tgt := 66) (by decide +kernel) (by decide) (fun c_2 => ?_) (fun c_2 => ?_)
    · have e := it_t c_2 e
      refine sl_ok ok_Shapes_covers [.iconst 0] (pc1 := 67) (ls1 := [some (.ref o0), some (.int x1), some (.int x2), some (.int x3), some (.int (f_Shapes_leastOf x1)), some (.int (f_Shapes_leastOf (x1 &&& ((jshl 1 (f_Shapes_leastOf x1)) ^^^ (-1))))), some (.int (f_Shapes_leastOf ((x1 &&& ((jshl 1 (f_Shapes_leastOf x1)) ^^^ (-1))) &&& ((jshl 1 (f_Shapes_leastOf (x1 &&& ((jshl 1 (f_Shapes_leastOf x1)) ^^^ (-1))))) ^^^ (-1))))), none, none, none, none, none]) (st1 := [.int 0]) (h1 := h) (P := True) (by decide +kernel) rfl trivial ?_
      cases e
      exact q_zret rfl (Or.inl rfl) k.1 k.2 (by decide +kernel)
    · have e := it_f c_2 e
      refine sl_ok ok_Shapes_covers [.aload_n 0, .iload 6] (pc1 := 60) (ls1 := [some (.ref o0), some (.int x1), some (.int x2), some (.int x3), some (.int (f_Shapes_leastOf x1)), some (.int (f_Shapes_leastOf (x1 &&& ((jshl 1 (f_Shapes_leastOf x1)) ^^^ (-1))))), some (.int (f_Shapes_leastOf ((x1 &&& ((jshl 1 (f_Shapes_leastOf x1)) ^^^ (-1))) &&& ((jshl 1 (f_Shapes_leastOf (x1 &&& ((jshl 1 (f_Shapes_leastOf x1)) ^^^ (-1))))) ^^^ (-1))))), none, none, none, none, none]) (st1 := [.int (f_Shapes_leastOf ((x1 &&& ((jshl 1 (f_Shapes_leastOf x1)) ^^^ (-1))) &&& ((jshl 1 (f_Shapes_leastOf (x1 &&& ((jshl 1 (f_Shapes_leastOf x1)) ^^^ (-1))))) ^^^ (-1)))), .ref o0]) (h1 := h) (P := True) (by decide +kernel) rfl trivial ?_
      refine q_callV ok_Cloud_has (as := [.int (f_Shapes_leastOf ((x1 &&& ((jshl 1 (f_Shapes_leastOf x1)) ^^^ (-1))) &&& ((jshl 1 (f_Shapes_leastOf (x1 &&& ((jshl 1 (f_Shapes_leastOf x1)) ^^^ (-1))))) ^^^ (-1))))]) (st := []) ⟨wd_401, wd_173, wd_174, wd_14, ds_Cloud_has, Nat.le_of_ble_eq_true rfl, Nat.le_of_ble_eq_true rfl⟩ (s_Cloud_has ho0) rfl ho0 (ci := 0) rfl (fun v hv => by cases hv; rfl) (Nat.le_of_ble_eq_true rfl) (by decide +kernel) rfl ?_
      refine q_if_ne (off := 5) (tgt := 68) (by decide +kernel) (by decide) (fun c_3 => ?_) (fun c_3 => ?_)
      · have e := it_f c_3 e
        refine sl_ok ok_Shapes_covers [.aload_n 0, .iload 4, .iload 5, .iload_n 2, .iload_n 3] (pc1 := 75) (ls1 := [some (.ref o0), some (.int x1), some (.int x2), some (.int x3), some (.int (f_Shapes_leastOf x1)), some (.int (f_Shapes_leastOf (x1 &&& ((jshl 1 (f_Shapes_leastOf x1)) ^^^ (-1))))), some (.int (f_Shapes_leastOf ((x1 &&& ((jshl 1 (f_Shapes_leastOf x1)) ^^^ (-1))) &&& ((jshl 1 (f_Shapes_leastOf (x1 &&& ((jshl 1 (f_Shapes_leastOf x1)) ^^^ (-1))))) ^^^ (-1))))), none, none, none, none, none]) (st1 := [.int x3, .int x2, .int (f_Shapes_leastOf (x1 &&& ((jshl 1 (f_Shapes_leastOf x1)) ^^^ (-1)))), .int (f_Shapes_leastOf x1), .ref o0]) (h1 := h) (P := True) (by decide +kernel) rfl trivial ?_
        obtain ⟨v_4, e_5, e⟩ := bi_s e
        refine q_callV ok_Cloud_turnAt (as := [.int (f_Shapes_leastOf x1), .int (f_Shapes_leastOf (x1 &&& ((jshl 1 (f_Shapes_leastOf x1)) ^^^ (-1)))), .int x2, .int x3]) (st := []) ⟨wd_402, wd_198, wd_199, wd_14, ds_Cloud_turnAt, Nat.le_of_ble_eq_true rfl, Nat.le_of_ble_eq_true rfl⟩ (s_Cloud_turnAt ho0 e_5) rfl ho0 (ci := 0) rfl (fun v hv => by cases hv; rfl) (Nat.le_of_ble_eq_true rfl) (by decide +kernel) rfl ?_
        refine sl_ok ok_Shapes_covers [.istore 7, .aload_n 0, .iload 5, .iload 6, .iload_n 2, .iload_n 3] (pc1 := 87) (ls1 := [some (.ref o0), some (.int x1), some (.int x2), some (.int x3), some (.int (f_Shapes_leastOf x1)), some (.int (f_Shapes_leastOf (x1 &&& ((jshl 1 (f_Shapes_leastOf x1)) ^^^ (-1))))), some (.int (f_Shapes_leastOf ((x1 &&& ((jshl 1 (f_Shapes_leastOf x1)) ^^^ (-1))) &&& ((jshl 1 (f_Shapes_leastOf (x1 &&& ((jshl 1 (f_Shapes_leastOf x1)) ^^^ (-1))))) ^^^ (-1))))), some (.int v_4), none, none, none, none]) (st1 := [.int x3, .int x2, .int (f_Shapes_leastOf ((x1 &&& ((jshl 1 (f_Shapes_leastOf x1)) ^^^ (-1))) &&& ((jshl 1 (f_Shapes_leastOf (x1 &&& ((jshl 1 (f_Shapes_leastOf x1)) ^^^ (-1))))) ^^^ (-1)))), .int (f_Shapes_leastOf (x1 &&& ((jshl 1 (f_Shapes_leastOf x1)) ^^^ (-1)))), .ref o0]) (h1 := h) (P := True) (by decide +kernel) rfl trivial ?_
        obtain ⟨v_6, e_7, e⟩ := bi_s e
        refine q_callV ok_Cloud_turnAt (as := [.int (f_Shapes_leastOf (x1 &&& ((jshl 1 (f_Shapes_leastOf x1)) ^^^ (-1)))), .int (f_Shapes_leastOf ((x1 &&& ((jshl 1 (f_Shapes_leastOf x1)) ^^^ (-1))) &&& ((jshl 1 (f_Shapes_leastOf (x1 &&& ((jshl 1 (f_Shapes_leastOf x1)) ^^^ (-1))))) ^^^ (-1)))), .int x2, .int x3]) (st := []) ⟨wd_402, wd_198, wd_199, wd_14, ds_Cloud_turnAt, Nat.le_of_ble_eq_true rfl, Nat.le_of_ble_eq_true rfl⟩ (s_Cloud_turnAt ho0 e_7) rfl ho0 (ci := 0) rfl (fun v hv => by cases hv; rfl) (Nat.le_of_ble_eq_true rfl) (by decide +kernel) rfl ?_
        refine sl_ok ok_Shapes_covers [.istore 8, .aload_n 0, .iload 6, .iload 4, .iload_n 2, .iload_n 3] (pc1 := 99) (ls1 := [some (.ref o0), some (.int x1), some (.int x2), some (.int x3), some (.int (f_Shapes_leastOf x1)), some (.int (f_Shapes_leastOf (x1 &&& ((jshl 1 (f_Shapes_leastOf x1)) ^^^ (-1))))), some (.int (f_Shapes_leastOf ((x1 &&& ((jshl 1 (f_Shapes_leastOf x1)) ^^^ (-1))) &&& ((jshl 1 (f_Shapes_leastOf (x1 &&& ((jshl 1 (f_Shapes_leastOf x1)) ^^^ (-1))))) ^^^ (-1))))), some (.int v_4), some (.int v_6), none, none, none]) (st1 := [.int x3, .int x2, .int (f_Shapes_leastOf x1), .int (f_Shapes_leastOf ((x1 &&& ((jshl 1 (f_Shapes_leastOf x1)) ^^^ (-1))) &&& ((jshl 1 (f_Shapes_leastOf (x1 &&& ((jshl 1 (f_Shapes_leastOf x1)) ^^^ (-1))))) ^^^ (-1)))), .ref o0]) (h1 := h) (P := True) (by decide +kernel) rfl trivial ?_
        obtain ⟨v_8, e_9, e⟩ := bi_s e
        refine q_callV ok_Cloud_turnAt (as := [.int (f_Shapes_leastOf ((x1 &&& ((jshl 1 (f_Shapes_leastOf x1)) ^^^ (-1))) &&& ((jshl 1 (f_Shapes_leastOf (x1 &&& ((jshl 1 (f_Shapes_leastOf x1)) ^^^ (-1))))) ^^^ (-1)))), .int (f_Shapes_leastOf x1), .int x2, .int x3]) (st := []) ⟨wd_402, wd_198, wd_199, wd_14, ds_Cloud_turnAt, Nat.le_of_ble_eq_true rfl, Nat.le_of_ble_eq_true rfl⟩ (s_Cloud_turnAt ho0 e_9) rfl ho0 (ci := 0) rfl (fun v hv => by cases hv; rfl) (Nat.le_of_ble_eq_true rfl) (by decide +kernel) rfl ?_
        refine sl_ok ok_Shapes_covers [.istore 9, .iload 7] (pc1 := 106) (ls1 := [some (.ref o0), some (.int x1), some (.int x2), some (.int x3), some (.int (f_Shapes_leastOf x1)), some (.int (f_Shapes_leastOf (x1 &&& ((jshl 1 (f_Shapes_leastOf x1)) ^^^ (-1))))), some (.int (f_Shapes_leastOf ((x1 &&& ((jshl 1 (f_Shapes_leastOf x1)) ^^^ (-1))) &&& ((jshl 1 (f_Shapes_leastOf (x1 &&& ((jshl 1 (f_Shapes_leastOf x1)) ^^^ (-1))))) ^^^ (-1))))), some (.int v_4), some (.int v_6), some (.int v_8), none, none]) (st1 := [.int v_4]) (h1 := h) (P := True) (by decide +kernel) rfl trivial ?_
        refine q_if_gt (off := 13) (tgt := 119) (by decide +kernel) (by decide) (fun c_10 => ?_) (fun c_10 => ?_)
        · have e := it_t c_10 e
          refine sl_ok ok_Shapes_covers [.iconst 1] (pc1 := 120) (ls1 := [some (.ref o0), some (.int x1), some (.int x2), some (.int x3), some (.int (f_Shapes_leastOf x1)), some (.int (f_Shapes_leastOf (x1 &&& ((jshl 1 (f_Shapes_leastOf x1)) ^^^ (-1))))), some (.int (f_Shapes_leastOf ((x1 &&& ((jshl 1 (f_Shapes_leastOf x1)) ^^^ (-1))) &&& ((jshl 1 (f_Shapes_leastOf (x1 &&& ((jshl 1 (f_Shapes_leastOf x1)) ^^^ (-1))))) ^^^ (-1))))), some (.int v_4), some (.int v_6), some (.int v_8), none, none]) (st1 := [.int 1]) (h1 := h) (P := True) (by decide +kernel) rfl trivial ?_
          refine q_goto (off := 4) (tgt := 124) (by decide) (by decide +kernel) ?_
          refine Go.sb [none, none, none, none, none, none, none, some (.int v_4), some (.int v_6), some (.int v_8), none, none] (And.intro rfl (And.intro rfl (And.intro rfl trivial))) ?_
          exact b_Shapes_covers_J1  e k
        · have e := it_f c_10 e
          refine sl_ok ok_Shapes_covers [.iload 8] (pc1 := 111) (ls1 := [some (.ref o0), some (.int x1), some (.int x2), some (.int x3), some (.int (f_Shapes_leastOf x1)), some (.int (f_Shapes_leastOf (x1 &&& ((jshl 1 (f_Shapes_leastOf x1)) ^^^ (-1))))), some (.int (f_Shapes_leastOf ((x1 &&& ((jshl 1 (f_Shapes_leastOf x1)) ^^^ (-1))) &&& ((jshl 1 (f_Shapes_leastOf (x1 &&& ((jshl 1 (f_Shapes_leastOf x1)) ^^^ (-1))))) ^^^ (-1))))), some (.int v_4), some (.int v_6), some (.int v_8), none, none]) (st1 := [.int v_6]) (h1 := h) (P := True) (by decide +kernel) rfl trivial ?_
          refine q_if_gt (off := 8) (tgt := 119) (by decide +kernel) (by decide) (fun c_11 => ?_) (fun c_11 => ?_)
          · have e := it_t c_11 e
            refine sl_ok ok_Shapes_covers [.iconst 1] (pc1 := 120) (ls1 := [some (.ref o0), some (.int x1), some (.int x2), some (.int x3), some (.int (f_Shapes_leastOf x1)), some (.int (f_Shapes_leastOf (x1 &&& ((jshl 1 (f_Shapes_leastOf x1)) ^^^ (-1))))), some (.int (f_Shapes_leastOf ((x1 &&& ((jshl 1 (f_Shapes_leastOf x1)) ^^^ (-1))) &&& ((jshl 1 (f_Shapes_leastOf (x1 &&& ((jshl 1 (f_Shapes_leastOf x1)) ^^^ (-1))))) ^^^ (-1))))), some (.int v_4), some (.int v_6), some (.int v_8), none, none]) (st1 := [.int 1]) (h1 := h) (P := True) (by decide +kernel) rfl trivial ?_
            refine q_goto (off := 4) (tgt := 124) (by decide) (by decide +kernel) ?_
            refine Go.sb [none, none, none, none, none, none, none, some (.int v_4), some (.int v_6), some (.int v_8), none, none] (And.intro rfl (And.intro rfl (And.intro rfl trivial))) ?_
            exact b_Shapes_covers_J1  e k
          · have e := it_f c_11 e
            refine sl_ok ok_Shapes_covers [.iload 9] (pc1 := 116) (ls1 := [some (.ref o0), some (.int x1), some (.int x2), some (.int x3), some (.int (f_Shapes_leastOf x1)), some (.int (f_Shapes_leastOf (x1 &&& ((jshl 1 (f_Shapes_leastOf x1)) ^^^ (-1))))), some (.int (f_Shapes_leastOf ((x1 &&& ((jshl 1 (f_Shapes_leastOf x1)) ^^^ (-1))) &&& ((jshl 1 (f_Shapes_leastOf (x1 &&& ((jshl 1 (f_Shapes_leastOf x1)) ^^^ (-1))))) ^^^ (-1))))), some (.int v_4), some (.int v_6), some (.int v_8), none, none]) (st1 := [.int v_8]) (h1 := h) (P := True) (by decide +kernel) rfl trivial ?_
            refine q_if_le (off := 7) (tgt := 123) (by decide +kernel) (by decide) (fun c_12 => ?_) (fun c_12 => ?_)
            · have e := it_t c_12 e
              refine sl_ok ok_Shapes_covers [.iconst 0] (pc1 := 124) (ls1 := [some (.ref o0), some (.int x1), some (.int x2), some (.int x3), some (.int (f_Shapes_leastOf x1)), some (.int (f_Shapes_leastOf (x1 &&& ((jshl 1 (f_Shapes_leastOf x1)) ^^^ (-1))))), some (.int (f_Shapes_leastOf ((x1 &&& ((jshl 1 (f_Shapes_leastOf x1)) ^^^ (-1))) &&& ((jshl 1 (f_Shapes_leastOf (x1 &&& ((jshl 1 (f_Shapes_leastOf x1)) ^^^ (-1))))) ^^^ (-1))))), some (.int v_4), some (.int v_6), some (.int v_8), none, none]) (st1 := [.int 0]) (h1 := h) (P := True) (by decide +kernel) rfl trivial ?_
              refine Go.sb [none, none, none, none, none, none, none, some (.int v_4), some (.int v_6), some (.int v_8), none, none] (And.intro rfl (And.intro rfl (And.intro rfl trivial))) ?_
              exact b_Shapes_covers_J1  e k
            · have e := it_f c_12 e
              refine sl_ok ok_Shapes_covers [.iconst 1] (pc1 := 120) (ls1 := [some (.ref o0), some (.int x1), some (.int x2), some (.int x3), some (.int (f_Shapes_leastOf x1)), some (.int (f_Shapes_leastOf (x1 &&& ((jshl 1 (f_Shapes_leastOf x1)) ^^^ (-1))))), some (.int (f_Shapes_leastOf ((x1 &&& ((jshl 1 (f_Shapes_leastOf x1)) ^^^ (-1))) &&& ((jshl 1 (f_Shapes_leastOf (x1 &&& ((jshl 1 (f_Shapes_leastOf x1)) ^^^ (-1))))) ^^^ (-1))))), some (.int v_4), some (.int v_6), some (.int v_8), none, none]) (st1 := [.int 1]) (h1 := h) (P := True) (by decide +kernel) rfl trivial ?_
              refine q_goto (off := 4) (tgt := 124) (by decide) (by decide +kernel) ?_
              refine Go.sb [none, none, none, none, none, none, none, some (.int v_4), some (.int v_6), some (.int v_8), none, none] (And.intro rfl (And.intro rfl (And.intro rfl trivial))) ?_
              exact b_Shapes_covers_J1  e k
      · have e := it_t c_3 e
        refine sl_ok ok_Shapes_covers [.iconst 0] (pc1 := 67) (ls1 := [some (.ref o0), some (.int x1), some (.int x2), some (.int x3), some (.int (f_Shapes_leastOf x1)), some (.int (f_Shapes_leastOf (x1 &&& ((jshl 1 (f_Shapes_leastOf x1)) ^^^ (-1))))), some (.int (f_Shapes_leastOf ((x1 &&& ((jshl 1 (f_Shapes_leastOf x1)) ^^^ (-1))) &&& ((jshl 1 (f_Shapes_leastOf (x1 &&& ((jshl 1 (f_Shapes_leastOf x1)) ^^^ (-1))))) ^^^ (-1))))), none, none, none, none, none]) (st1 := [.int 0]) (h1 := h) (P := True) (by decide +kernel) rfl trivial ?_
        cases e
        exact q_zret rfl (Or.inl rfl) k.1 k.2 (by decide +kernel)
theorem s_Shapes_covers {E : pE} {o0 : Nat} {x1 : Int32} {x2 : Int32} {x3 : Int32} {h : pH} (ho0 : ak o0 = 0 ∧ cx o0 = 0) {v : Int32} (e : f_Shapes_covers o0 x1 x2 x3 h = some v) : Ct E M_Shapes_covers [.ref o0, .int x1, .int x2, .int x3] h (some (.int v)) h :=
  Ct_of ok_Shapes_covers [some (.ref o0), some (.int x1), some (.int x2), some (.int x3), none, none, none, none, none, none, none, none] (Nat.le_of_ble_eq_true rfl) rfl (b_Shapes_covers ho0 e ⟨rfl, rfl⟩)
def f_Shapes_trianglesAbout_L3 (o1 : Nat) (x2 : Int32) (x3 : Int32) (x5 : Int32) (x6 : Int32) (h : pH) (x4 : Int32) (x7 : Int32) : Option ((Int32 × Int32) ⊕ ((Int32 × Int32) ⊕ ((Int32 × Int32) ⊕ Int32))) :=
  if (hI h o1 2) ≤ x7 then
    some (.inr (.inl (x4, (x6 + 1))))
  else
    (f_Cloud_turnOf o1 x5 x6 x7 h).bind fun v_2 =>
    if v_2 = 0 then
      some (.inl (x4, (x7 + 1)))
    else
      (f_Shapes_covers o1 (((jshl 1 x5) ||| (jshl 1 x6)) ||| (jshl 1 x7)) x2 x3 h).bind fun v_5 =>
      if v_5 = 0 then
        some (.inl (x4, (x7 + 1)))
      else
        some (.inl ((x4 + 1), (x7 + 1)))
set_option maxHeartbeats 4000000 in
theorem b_Shapes_trianglesAbout_L3 {E : pE} {r : Option Value} {hr : pH} {o1 : Nat} {x2 : Int32} {x3 : Int32} {x5 : Int32} {x6 : Int32} {h : pH} {x4 : Int32} {x7 : Int32} (ho1 : ak o1 = 0 ∧ cx o1 = 0) {b : ((Int32 × Int32) ⊕ ((Int32 × Int32) ⊕ ((Int32 × Int32) ⊕ Int32)))} (e : f_Shapes_trianglesAbout_L3 o1 x2 x3 x5 x6 h x4 x7 = some b) (k : (Sum.elim (fun s : (Int32 × Int32) => Go E M_Shapes_trianglesAbout 36 [some (.ref 28), some (.ref o1), some (.int x2), some (.int x3), some (.int s.1), some (.int x5), some (.int x6), some (.int s.2)] [] h r hr) (Sum.elim (fun s : (Int32 × Int32) => Go E M_Shapes_trianglesAbout 21 [some (.ref 28), some (.ref o1), some (.int x2), some (.int x3), some (.int s.1), some (.int x5), some (.int s.2), none] [] h r hr) (Sum.elim (fun s : (Int32 × Int32) => Go E M_Shapes_trianglesAbout 6 [some (.ref 28), some (.ref o1), some (.int x2), some (.int x3), some (.int s.1), some (.int s.2), none, none] [] h r hr) (fun v : Int32 => r = some (.int v) ∧ hr = h)))) b) : Go E M_Shapes_trianglesAbout 36 [some (.ref 28), some (.ref o1), some (.int x2), some (.int x3), some (.int x4), some (.int x5), some (.int x6), some (.int x7)] [] h r hr := by
  unfold f_Shapes_trianglesAbout_L3 at e
  refine sl_ok ok_Shapes_trianglesAbout [.iload 7, .aload_n 1, .getfield 18] (pc1 := 42) (ls1 := [some (.ref 28), some (.ref o1), some (.int x2), some (.int x3), some (.int x4), some (.int x5), some (.int x6), some (.int x7)]) (st1 := [.int (hI h o1 2), .int x7]) (h1 := h) (P := (ak o1 = 0 ∧ cx o1 = 0) ∧ True) (by decide +kernel) rfl ⟨ho1, trivial⟩ ?_
  refine q_icmp_ge (off := 48) (tgt := 90) (by decide +kernel) (by decide) (fun c_1 => ?_) (fun c_1 => ?_)
  · have e := it_t c_1 e
    refine sl_ok ok_Shapes_trianglesAbout [.iinc 6 1] (pc1 := 93) (ls1 := [some (.ref 28), some (.ref o1), some (.int x2), some (.int x3), some (.int x4), some (.int x5), some (.int (x6 + 1)), some (.int x7)]) (st1 := []) (h1 := h) (P := True) (by decide +kernel) rfl trivial ?_
    refine q_goto (off := -72) (tgt := 21) (by decide) (by decide +kernel) ?_
    cases e
    refine Go.sb [some (.ref 28), some (.ref o1), some (.int x2), some (.int x3), some (.int x4), some (.int x5), some (.int (x6 + 1)), none] (And.intro rfl (And.intro rfl (And.intro rfl (And.intro rfl (And.intro rfl (And.intro rfl (And.intro rfl trivial))))))) ?_
    exact k
  · have e := it_f c_1 e
    refine sl_ok ok_Shapes_trianglesAbout [.aload_n 1, .iload 5, .iload 6, .iload 7] (pc1 := 52) (ls1 := [some (.ref 28), some (.ref o1), some (.int x2), some (.int x3), some (.int x4), some (.int x5), some (.int x6), some (.int x7)]) (st1 := [.int x7, .int x6, .int x5, .ref o1]) (h1 := h) (P := True) (by decide +kernel) rfl trivial ?_
    obtain ⟨v_2, e_3, e⟩ := bi_s e
    refine q_callV ok_Cloud_turnOf (as := [.int x5, .int x6, .int x7]) (st := []) ⟨wd_403, wd_222, wd_223, wd_14, ds_Cloud_turnOf, Nat.le_of_ble_eq_true rfl, Nat.le_of_ble_eq_true rfl⟩ (s_Cloud_turnOf ho1 e_3) rfl ho1 (ci := 0) rfl (fun v hv => by cases hv; rfl) (Nat.le_of_ble_eq_true rfl) (by decide +kernel) rfl ?_
    refine q_if_eq (off := 29) (tgt := 84) (by decide +kernel) (by decide) (fun c_4 => ?_) (fun c_4 => ?_)
    · have e := it_t c_4 e
      refine sl_ok ok_Shapes_trianglesAbout [.iinc 7 1] (pc1 := 87) (ls1 := [some (.ref 28), some (.ref o1), some (.int x2), some (.int x3), some (.int x4), some (.int x5), some (.int x6), some (.int (x7 + 1))]) (st1 := []) (h1 := h) (P := True) (by decide +kernel) rfl trivial ?_
      refine q_goto (off := -51) (tgt := 36) (by decide) (by decide +kernel) ?_
      cases e
      exact k
    · have e := it_f c_4 e
      refine sl_ok ok_Shapes_trianglesAbout [.aload_n 1, .iconst 1, .iload 5, .ishl, .iconst 1, .iload 6, .ishl, .ior, .iconst 1, .iload 7, .ishl, .ior, .iload_n 2, .iload_n 3] (pc1 := 75) (ls1 := [some (.ref 28), some (.ref o1), some (.int x2), some (.int x3), some (.int x4), some (.int x5), some (.int x6), some (.int x7)]) (st1 := [.int x3, .int x2, .int (((jshl 1 x5) ||| (jshl 1 x6)) ||| (jshl 1 x7)), .ref o1]) (h1 := h) (P := True) (by decide +kernel) rfl trivial ?_
      obtain ⟨v_5, e_6, e⟩ := bi_s e
      refine q_callS ok_Shapes_covers (as := [.ref o1, .int (((jshl 1 x5) ||| (jshl 1 x6)) ||| (jshl 1 x7)), .int x2, .int x3]) (st := []) ⟨wd_404, wd_405, wd_231, ds_Shapes_covers, Nat.le_of_ble_eq_true rfl, Nat.le_of_ble_eq_true rfl⟩ (s_Shapes_covers ho1 e_6) rfl (fun v hv => by cases hv; rfl) (Nat.le_of_ble_eq_true rfl) (by decide +kernel) rfl ?_
      refine q_if_eq (off := 6) (tgt := 84) (by decide +kernel) (by decide) (fun c_7 => ?_) (fun c_7 => ?_)
      · have e := it_t c_7 e
        refine sl_ok ok_Shapes_trianglesAbout [.iinc 7 1] (pc1 := 87) (ls1 := [some (.ref 28), some (.ref o1), some (.int x2), some (.int x3), some (.int x4), some (.int x5), some (.int x6), some (.int (x7 + 1))]) (st1 := []) (h1 := h) (P := True) (by decide +kernel) rfl trivial ?_
        refine q_goto (off := -51) (tgt := 36) (by decide) (by decide +kernel) ?_
        cases e
        exact k
      · have e := it_f c_7 e
        refine sl_ok ok_Shapes_trianglesAbout [.iinc 4 1, .iinc 7 1] (pc1 := 87) (ls1 := [some (.ref 28), some (.ref o1), some (.int x2), some (.int x3), some (.int (x4 + 1)), some (.int x5), some (.int x6), some (.int (x7 + 1))]) (st1 := []) (h1 := h) (P := True) (by decide +kernel) rfl trivial ?_
        refine q_goto (off := -51) (tgt := 36) (by decide) (by decide +kernel) ?_
        cases e
        exact k
def f_Shapes_trianglesAbout_L2 (o1 : Nat) (x2 : Int32) (x3 : Int32) (x5 : Int32) (h : pH) (x4 : Int32) (x6 : Int32) : Option ((Int32 × Int32) ⊕ ((Int32 × Int32) ⊕ Int32)) :=
  if (hI h o1 2) ≤ x6 then
    some (.inr (.inl (x4, (x5 + 1))))
  else
    lp (fun s => f_Shapes_trianglesAbout_L3 o1 x2 x3 x5 x6 h s.1 s.2) lpN (x4, (x6 + 1))
set_option maxHeartbeats 4000000 in
theorem b_Shapes_trianglesAbout_L2 {E : pE} {r : Option Value} {hr : pH} {o1 : Nat} {x2 : Int32} {x3 : Int32} {x5 : Int32} {h : pH} {x4 : Int32} {x6 : Int32} (ho1 : ak o1 = 0 ∧ cx o1 = 0) {b : ((Int32 × Int32) ⊕ ((Int32 × Int32) ⊕ Int32))} (e : f_Shapes_trianglesAbout_L2 o1 x2 x3 x5 h x4 x6 = some b) (k : (Sum.elim (fun s : (Int32 × Int32) => Go E M_Shapes_trianglesAbout 21 [some (.ref 28), some (.ref o1), some (.int x2), some (.int x3), some (.int s.1), some (.int x5), some (.int s.2), none] [] h r hr) (Sum.elim (fun s : (Int32 × Int32) => Go E M_Shapes_trianglesAbout 6 [some (.ref 28), some (.ref o1), some (.int x2), some (.int x3), some (.int s.1), some (.int s.2), none, none] [] h r hr) (fun v : Int32 => r = some (.int v) ∧ hr = h))) b) : Go E M_Shapes_trianglesAbout 21 [some (.ref 28), some (.ref o1), some (.int x2), some (.int x3), some (.int x4), some (.int x5), some (.int x6), none] [] h r hr := by
  unfold f_Shapes_trianglesAbout_L2 at e
  refine sl_ok ok_Shapes_trianglesAbout [.iload 6, .aload_n 1, .getfield 18] (pc1 := 27) (ls1 := [some (.ref 28), some (.ref o1), some (.int x2), some (.int x3), some (.int x4), some (.int x5), some (.int x6), none]) (st1 := [.int (hI h o1 2), .int x6]) (h1 := h) (P := (ak o1 = 0 ∧ cx o1 = 0) ∧ True) (by decide +kernel) rfl ⟨ho1, trivial⟩ ?_
  refine q_icmp_ge (off := 69) (tgt := 96) (by decide +kernel) (by decide) (fun c_1 => ?_) (fun c_1 => ?_)
  · have e := it_t c_1 e
    refine sl_ok ok_Shapes_trianglesAbout [.iinc 5 1] (pc1 := 99) (ls1 := [some (.ref 28), some (.ref o1), some (.int x2), some (.int x3), some (.int x4), some (.int (x5 + 1)), some (.int x6), none]) (st1 := []) (h1 := h) (P := True) (by decide +kernel) rfl trivial ?_
    refine q_goto (off := -93) (tgt := 6) (by decide) (by decide +kernel) ?_
    cases e
    refine Go.sb [some (.ref 28), some (.ref o1), some (.int x2), some (.int x3), some (.int x4), some (.int (x5 + 1)), none, none] (And.intro rfl (And.intro rfl (And.intro rfl (And.intro rfl (And.intro rfl (And.intro rfl trivial)))))) ?_
    exact k
  · have e := it_f c_1 e
    refine sl_ok ok_Shapes_trianglesAbout [.iload 6, .iconst 1, .iadd, .istore 7] (pc1 := 36) (ls1 := [some (.ref 28), some (.ref o1), some (.int x2), some (.int x3), some (.int x4), some (.int x5), some (.int x6), some (.int (x6 + 1))]) (st1 := []) (h1 := h) (P := True) (by decide +kernel) rfl trivial ?_
    exact lp_in e (fun s => Go E M_Shapes_trianglesAbout 36 [some (.ref 28), some (.ref o1), some (.int x2), some (.int x3), some (.int s.1), some (.int x5), some (.int x6), some (.int s.2)] [] h r hr) (Sum.elim (fun s : (Int32 × Int32) => Go E M_Shapes_trianglesAbout 21 [some (.ref 28), some (.ref o1), some (.int x2), some (.int x3), some (.int s.1), some (.int x5), some (.int s.2), none] [] h r hr) (Sum.elim (fun s : (Int32 × Int32) => Go E M_Shapes_trianglesAbout 6 [some (.ref 28), some (.ref o1), some (.int x2), some (.int x3), some (.int s.1), some (.int s.2), none, none] [] h r hr) (fun v : Int32 => r = some (.int v) ∧ hr = h))) (fun _ _ e k => b_Shapes_trianglesAbout_L3 ho1 e k) k
def f_Shapes_trianglesAbout_L1 (o1 : Nat) (x2 : Int32) (x3 : Int32) (h : pH) (x4 : Int32) (x5 : Int32) : Option ((Int32 × Int32) ⊕ Int32) :=
  if (hI h o1 2) ≤ x5 then
    some (.inr x4)
  else
    lp (fun s => f_Shapes_trianglesAbout_L2 o1 x2 x3 x5 h s.1 s.2) lpN (x4, (x5 + 1))
set_option maxHeartbeats 4000000 in
theorem b_Shapes_trianglesAbout_L1 {E : pE} {r : Option Value} {hr : pH} {o1 : Nat} {x2 : Int32} {x3 : Int32} {h : pH} {x4 : Int32} {x5 : Int32} (ho1 : ak o1 = 0 ∧ cx o1 = 0) {b : ((Int32 × Int32) ⊕ Int32)} (e : f_Shapes_trianglesAbout_L1 o1 x2 x3 h x4 x5 = some b) (k : (Sum.elim (fun s : (Int32 × Int32) => Go E M_Shapes_trianglesAbout 6 [some (.ref 28), some (.ref o1), some (.int x2), some (.int x3), some (.int s.1), some (.int s.2), none, none] [] h r hr) (fun v : Int32 => r = some (.int v) ∧ hr = h)) b) : Go E M_Shapes_trianglesAbout 6 [some (.ref 28), some (.ref o1), some (.int x2), some (.int x3), some (.int x4), some (.int x5), none, none] [] h r hr := by
  unfold f_Shapes_trianglesAbout_L1 at e
  refine sl_ok ok_Shapes_trianglesAbout [.iload 5, .aload_n 1, .getfield 18] (pc1 := 12) (ls1 := [some (.ref 28), some (.ref o1), some (.int x2), some (.int x3), some (.int x4), some (.int x5), none, none]) (st1 := [.int (hI h o1 2), .int x5]) (h1 := h) (P := (ak o1 = 0 ∧ cx o1 = 0) ∧ True) (by decide +kernel) rfl ⟨ho1, trivial⟩ ?_
  refine q_icmp_ge (off := 90) (tgt := 102) (by decide +kernel) (by decide) (fun c_1 => ?_) (fun c_1 => ?_)
  · have e := it_t c_1 e
    refine sl_ok ok_Shapes_trianglesAbout [.iload 4] (pc1 := 104) (ls1 := [some (.ref 28), some (.ref o1), some (.int x2), some (.int x3), some (.int x4), some (.int x5), none, none]) (st1 := [.int x4]) (h1 := h) (P := True) (by decide +kernel) rfl trivial ?_
    cases e
    exact q_iret rfl k.1 k.2 (by decide +kernel)
  · have e := it_f c_1 e
    refine sl_ok ok_Shapes_trianglesAbout [.iload 5, .iconst 1, .iadd, .istore 6] (pc1 := 21) (ls1 := [some (.ref 28), some (.ref o1), some (.int x2), some (.int x3), some (.int x4), some (.int x5), some (.int (x5 + 1)), none]) (st1 := []) (h1 := h) (P := True) (by decide +kernel) rfl trivial ?_
    exact lp_in e (fun s => Go E M_Shapes_trianglesAbout 21 [some (.ref 28), some (.ref o1), some (.int x2), some (.int x3), some (.int s.1), some (.int x5), some (.int s.2), none] [] h r hr) (Sum.elim (fun s : (Int32 × Int32) => Go E M_Shapes_trianglesAbout 6 [some (.ref 28), some (.ref o1), some (.int x2), some (.int x3), some (.int s.1), some (.int s.2), none, none] [] h r hr) (fun v : Int32 => r = some (.int v) ∧ hr = h)) (fun _ _ e k => b_Shapes_trianglesAbout_L2 ho1 e k) k
def f_Shapes_trianglesAbout (o1 : Nat) (x2 : Int32) (x3 : Int32) (h : pH) : Option Int32 :=
  lp (fun s => f_Shapes_trianglesAbout_L1 o1 x2 x3 h s.1 s.2) lpN (0, 0)
set_option maxHeartbeats 4000000 in
theorem b_Shapes_trianglesAbout {E : pE} {r : Option Value} {hr : pH} {o1 : Nat} {x2 : Int32} {x3 : Int32} {h : pH} (ho1 : ak o1 = 0 ∧ cx o1 = 0) {b : Int32} (e : f_Shapes_trianglesAbout o1 x2 x3 h = some b) (k : (fun v : Int32 => r = some (.int v) ∧ hr = h) b) : Go E M_Shapes_trianglesAbout 0 [some (.ref 28), some (.ref o1), some (.int x2), some (.int x3), none, none, none, none] [] h r hr := by
  unfold f_Shapes_trianglesAbout at e
  refine sl_ok ok_Shapes_trianglesAbout [.iconst 0, .istore 4, .iconst 0, .istore 5] (pc1 := 6) (ls1 := [some (.ref 28), some (.ref o1), some (.int x2), some (.int x3), some (.int 0), some (.int 0), none, none]) (st1 := []) (h1 := h) (P := True) (by decide +kernel) rfl trivial ?_
  exact lp_in e (fun s => Go E M_Shapes_trianglesAbout 6 [some (.ref 28), some (.ref o1), some (.int x2), some (.int x3), some (.int s.1), some (.int s.2), none, none] [] h r hr) (fun v : Int32 => r = some (.int v) ∧ hr = h) (fun _ _ e k => b_Shapes_trianglesAbout_L1 ho1 e k) k
theorem s_Shapes_trianglesAbout {E : pE} {o1 : Nat} {x2 : Int32} {x3 : Int32} {h : pH} (ho1 : ak o1 = 0 ∧ cx o1 = 0) {v : Int32} (e : f_Shapes_trianglesAbout o1 x2 x3 h = some v) : Ct E M_Shapes_trianglesAbout [.ref 28, .ref o1, .int x2, .int x3] h (some (.int v)) h :=
  Ct_of ok_Shapes_trianglesAbout [some (.ref 28), some (.ref o1), some (.int x2), some (.int x3), none, none, none, none] (Nat.le_of_ble_eq_true rfl) rfl (b_Shapes_trianglesAbout ho1 e ⟨rfl, rfl⟩)
def f_C_triangles (x1 : Int32) (x2 : Int32) (h : pH) : Option Int32 :=
  if (f_C_isPlace x1 x2) = 0 then
    some (-1)
  else
    (f_Shapes_trianglesAbout 8 x1 x2 h).bind fun v_2 =>
    some v_2
set_option maxHeartbeats 4000000 in
theorem b_C_triangles {E : pE} {r : Option Value} {hr : pH} {x1 : Int32} {x2 : Int32} {h : pH}  {b : Int32} (e : f_C_triangles x1 x2 h = some b) (k : (fun v : Int32 => r = some (.int v) ∧ hr = h) b) : Go E M_C_triangles 0 [some (.ref 0), some (.int x1), some (.int x2)] [] h r hr := by
  unfold f_C_triangles at e
  refine sl_ok ok_C_triangles [.iload_n 1, .iload_n 2] (pc1 := 2) (ls1 := [some (.ref 0), some (.int x1), some (.int x2)]) (st1 := [.int x2, .int x1]) (h1 := h) (P := True) (by decide +kernel) rfl trivial ?_
  refine q_callS ok_C_isPlace (as := [.int x1, .int x2]) (st := []) ⟨wd_382, wd_383, wd_48, ds_C_isPlace, Nat.le_of_ble_eq_true rfl, Nat.le_of_ble_eq_true rfl⟩ (s_C_isPlace ) rfl (fun v hv => by cases hv; rfl) (Nat.le_of_ble_eq_true rfl) (by decide +kernel) rfl ?_
  refine q_if_eq (off := 19) (tgt := 24) (by decide +kernel) (by decide) (fun c_1 => ?_) (fun c_1 => ?_)
  · have e := it_t c_1 e
    refine sl_ok ok_C_triangles [.iconst (-1)] (pc1 := 25) (ls1 := [some (.ref 0), some (.int x1), some (.int x2)]) (st1 := [.int (-1)]) (h1 := h) (P := True) (by decide +kernel) rfl trivial ?_
    cases e
    exact q_iret rfl k.1 k.2 (by decide +kernel)
  · have e := it_f c_1 e
    refine sl_ok ok_C_triangles [.aload_n 0, .getfield 73, .aload_n 0, .getfield 28, .iload_n 1, .iload_n 2] (pc1 := 18) (ls1 := [some (.ref 0), some (.int x1), some (.int x2)]) (st1 := [.int x2, .int x1, .ref 8, .ref 28]) (h1 := h) (P := (ak 0 = 0 ∧ cx 0 = 11) ∧ (ak 0 = 0 ∧ cx 0 = 11) ∧ True) (by decide +kernel) rfl ⟨⟨rfl, rfl⟩, ⟨rfl, rfl⟩, trivial⟩ ?_
    obtain ⟨v_2, e_3, e⟩ := bi_s e
    refine q_callV ok_Shapes_trianglesAbout (as := [.ref 8, .int x1, .int x2]) (st := []) ⟨wd_406, wd_407, wd_408, wd_231, ds_Shapes_trianglesAbout, Nat.le_of_ble_eq_true rfl, Nat.le_of_ble_eq_true rfl⟩ (s_Shapes_trianglesAbout ⟨rfl, rfl⟩ e_3) rfl ⟨rfl, rfl⟩ (ci := 7) rfl (fun v hv => by cases hv; rfl) (Nat.le_of_ble_eq_true rfl) (by decide +kernel) rfl ?_
    refine q_goto (off := 4) (tgt := 25) (by decide) (by decide +kernel) ?_
    cases e
    exact q_iret rfl k.1 k.2 (by decide +kernel)
theorem s_C_triangles {E : pE} {x1 : Int32} {x2 : Int32} {h : pH}  {v : Int32} (e : f_C_triangles x1 x2 h = some v) : Ct E M_C_triangles [.ref 0, .int x1, .int x2] h (some (.int v)) h :=
  Ct_of ok_C_triangles [some (.ref 0), some (.int x1), some (.int x2)] (Nat.le_of_ble_eq_true rfl) rfl (b_C_triangles  e ⟨rfl, rfl⟩)
def f_R_isInside (x1 : Int32) (x2 : Int32) (x3 : Int32) (x4 : Int32) (x5 : Int32) (h : pH) : Option Int32 :=
  (f_R_sideOf x3 x4 x5 h).bind fun v_1 =>
  if v_1 = 0 then
    some 0
  else
    (f_R_turnOf x3 x4 x1 x2 h).bind fun v_4 =>
    if (v_1 * v_4) < 0 then
      some 0
    else
      (f_R_turnOf x4 x5 x1 x2 h).bind fun v_7 =>
      if (v_1 * v_7) < 0 then
        some 0
      else
        (f_R_turnOf x5 x3 x1 x2 h).bind fun v_10 =>
        if (v_1 * v_10) < 0 then
          some 0
        else
          some 1
set_option maxHeartbeats 4000000 in
theorem b_R_isInside {E : pE} {r : Option Value} {hr : pH} {x1 : Int32} {x2 : Int32} {x3 : Int32} {x4 : Int32} {x5 : Int32} {h : pH}  {b : Int32} (e : f_R_isInside x1 x2 x3 x4 x5 h = some b) (k : (fun v : Int32 => r = some (.int v) ∧ hr = h) b) : Go E M_R_isInside 0 [some (.ref 79), some (.int x1), some (.int x2), some (.int x3), some (.int x4), some (.int x5), none] [] h r hr := by
  unfold f_R_isInside at e
  refine sl_ok ok_R_isInside [.aload_n 0, .iload_n 3, .iload 4, .iload 5] (pc1 := 6) (ls1 := [some (.ref 79), some (.int x1), some (.int x2), some (.int x3), some (.int x4), some (.int x5), none]) (st1 := [.int x5, .int x4, .int x3, .ref 79]) (h1 := h) (P := True) (by decide +kernel) rfl trivial ?_
  obtain ⟨v_1, e_2, e⟩ := bi_s e
  refine q_callV ok_R_sideOf (as := [.int x3, .int x4, .int x5]) (st := []) ⟨wd_257, wd_258, wd_259, wd_7, ds_R_sideOf, Nat.le_of_ble_eq_true rfl, Nat.le_of_ble_eq_true rfl⟩ (s_R_sideOf  e_2) rfl ⟨rfl, rfl⟩ (ci := 12) rfl (fun v hv => by cases hv; rfl) (Nat.le_of_ble_eq_true rfl) (by decide +kernel) rfl ?_
  refine sl_ok ok_R_isInside [.istore 6, .iload 6] (pc1 := 13) (ls1 := [some (.ref 79), some (.int x1), some (.int x2), some (.int x3), some (.int x4), some (.int x5), some (.int v_1)]) (st1 := [.int v_1]) (h1 := h) (P := True) (by decide +kernel) rfl trivial ?_
  refine q_if_ne (off := 5) (tgt := 18) (by decide +kernel) (by decide) (fun c_3 => ?_) (fun c_3 => ?_)
  · have e := it_f c_3 e
    refine sl_ok ok_R_isInside [.iload 6, .aload_n 0, .iload_n 3, .iload 4, .iload_n 1, .iload_n 2] (pc1 := 26) (ls1 := [some (.ref 79), some (.int x1), some (.int x2), some (.int x3), some (.int x4), some (.int x5), some (.int v_1)]) (st1 := [.int x2, .int x1, .int x4, .int x3, .ref 79, .int v_1]) (h1 := h) (P := True) (by decide +kernel) rfl trivial ?_
    obtain ⟨v_4, e_5, e⟩ := bi_s e
    refine q_callV ok_R_turnOf (as := [.int x3, .int x4, .int x1, .int x2]) (st := [.int v_1]) ⟨wd_252, wd_253, wd_254, wd_7, ds_R_turnOf, Nat.le_of_ble_eq_true rfl, Nat.le_of_ble_eq_true rfl⟩ (s_R_turnOf  e_5) rfl ⟨rfl, rfl⟩ (ci := 12) rfl (fun v hv => by cases hv; rfl) (Nat.le_of_ble_eq_true rfl) (by decide +kernel) rfl ?_
    refine sl_ok ok_R_isInside [.imul] (pc1 := 30) (ls1 := [some (.ref 79), some (.int x1), some (.int x2), some (.int x3), some (.int x4), some (.int x5), some (.int v_1)]) (st1 := [.int (v_1 * v_4)]) (h1 := h) (P := True) (by decide +kernel) rfl trivial ?_
    refine q_if_lt (off := 38) (tgt := 68) (by decide +kernel) (by decide) (fun c_6 => ?_) (fun c_6 => ?_)
    · have e := it_t c_6 e
      refine sl_ok ok_R_isInside [.iconst 0] (pc1 := 69) (ls1 := [some (.ref 79), some (.int x1), some (.int x2), some (.int x3), some (.int x4), some (.int x5), some (.int v_1)]) (st1 := [.int 0]) (h1 := h) (P := True) (by decide +kernel) rfl trivial ?_
      cases e
      exact q_zret rfl (Or.inl rfl) k.1 k.2 (by decide +kernel)
    · have e := it_f c_6 e
      refine sl_ok ok_R_isInside [.iload 6, .aload_n 0, .iload 4, .iload 5, .iload_n 1, .iload_n 2] (pc1 := 42) (ls1 := [some (.ref 79), some (.int x1), some (.int x2), some (.int x3), some (.int x4), some (.int x5), some (.int v_1)]) (st1 := [.int x2, .int x1, .int x5, .int x4, .ref 79, .int v_1]) (h1 := h) (P := True) (by decide +kernel) rfl trivial ?_
      obtain ⟨v_7, e_8, e⟩ := bi_s e
      refine q_callV ok_R_turnOf (as := [.int x4, .int x5, .int x1, .int x2]) (st := [.int v_1]) ⟨wd_252, wd_253, wd_254, wd_7, ds_R_turnOf, Nat.le_of_ble_eq_true rfl, Nat.le_of_ble_eq_true rfl⟩ (s_R_turnOf  e_8) rfl ⟨rfl, rfl⟩ (ci := 12) rfl (fun v hv => by cases hv; rfl) (Nat.le_of_ble_eq_true rfl) (by decide +kernel) rfl ?_
      refine sl_ok ok_R_isInside [.imul] (pc1 := 46) (ls1 := [some (.ref 79), some (.int x1), some (.int x2), some (.int x3), some (.int x4), some (.int x5), some (.int v_1)]) (st1 := [.int (v_1 * v_7)]) (h1 := h) (P := True) (by decide +kernel) rfl trivial ?_
      refine q_if_lt (off := 22) (tgt := 68) (by decide +kernel) (by decide) (fun c_9 => ?_) (fun c_9 => ?_)
      · have e := it_t c_9 e
        refine sl_ok ok_R_isInside [.iconst 0] (pc1 := 69) (ls1 := [some (.ref 79), some (.int x1), some (.int x2), some (.int x3), some (.int x4), some (.int x5), some (.int v_1)]) (st1 := [.int 0]) (h1 := h) (P := True) (by decide +kernel) rfl trivial ?_
        cases e
        exact q_zret rfl (Or.inl rfl) k.1 k.2 (by decide +kernel)
      · have e := it_f c_9 e
        refine sl_ok ok_R_isInside [.iload 6, .aload_n 0, .iload 5, .iload_n 3, .iload_n 1, .iload_n 2] (pc1 := 57) (ls1 := [some (.ref 79), some (.int x1), some (.int x2), some (.int x3), some (.int x4), some (.int x5), some (.int v_1)]) (st1 := [.int x2, .int x1, .int x3, .int x5, .ref 79, .int v_1]) (h1 := h) (P := True) (by decide +kernel) rfl trivial ?_
        obtain ⟨v_10, e_11, e⟩ := bi_s e
        refine q_callV ok_R_turnOf (as := [.int x5, .int x3, .int x1, .int x2]) (st := [.int v_1]) ⟨wd_252, wd_253, wd_254, wd_7, ds_R_turnOf, Nat.le_of_ble_eq_true rfl, Nat.le_of_ble_eq_true rfl⟩ (s_R_turnOf  e_11) rfl ⟨rfl, rfl⟩ (ci := 12) rfl (fun v hv => by cases hv; rfl) (Nat.le_of_ble_eq_true rfl) (by decide +kernel) rfl ?_
        refine sl_ok ok_R_isInside [.imul] (pc1 := 61) (ls1 := [some (.ref 79), some (.int x1), some (.int x2), some (.int x3), some (.int x4), some (.int x5), some (.int v_1)]) (st1 := [.int (v_1 * v_10)]) (h1 := h) (P := True) (by decide +kernel) rfl trivial ?_
        refine q_if_lt (off := 7) (tgt := 68) (by decide +kernel) (by decide) (fun c_12 => ?_) (fun c_12 => ?_)
        · have e := it_t c_12 e
          refine sl_ok ok_R_isInside [.iconst 0] (pc1 := 69) (ls1 := [some (.ref 79), some (.int x1), some (.int x2), some (.int x3), some (.int x4), some (.int x5), some (.int v_1)]) (st1 := [.int 0]) (h1 := h) (P := True) (by decide +kernel) rfl trivial ?_
          cases e
          exact q_zret rfl (Or.inl rfl) k.1 k.2 (by decide +kernel)
        · have e := it_f c_12 e
          refine sl_ok ok_R_isInside [.iconst 1] (pc1 := 65) (ls1 := [some (.ref 79), some (.int x1), some (.int x2), some (.int x3), some (.int x4), some (.int x5), some (.int v_1)]) (st1 := [.int 1]) (h1 := h) (P := True) (by decide +kernel) rfl trivial ?_
          refine q_goto (off := 4) (tgt := 69) (by decide) (by decide +kernel) ?_
          cases e
          exact q_zret rfl (Or.inr rfl) k.1 k.2 (by decide +kernel)
  · have e := it_t c_3 e
    refine sl_ok ok_R_isInside [.iconst 0] (pc1 := 17) (ls1 := [some (.ref 79), some (.int x1), some (.int x2), some (.int x3), some (.int x4), some (.int x5), some (.int v_1)]) (st1 := [.int 0]) (h1 := h) (P := True) (by decide +kernel) rfl trivial ?_
    cases e
    exact q_zret rfl (Or.inl rfl) k.1 k.2 (by decide +kernel)
theorem s_R_isInside {E : pE} {x1 : Int32} {x2 : Int32} {x3 : Int32} {x4 : Int32} {x5 : Int32} {h : pH}  {v : Int32} (e : f_R_isInside x1 x2 x3 x4 x5 h = some v) : Ct E M_R_isInside [.ref 79, .int x1, .int x2, .int x3, .int x4, .int x5] h (some (.int v)) h :=
  Ct_of ok_R_isInside [some (.ref 79), some (.int x1), some (.int x2), some (.int x3), some (.int x4), some (.int x5), none] (Nat.le_of_ble_eq_true rfl) rfl (b_R_isInside  e ⟨rfl, rfl⟩)
