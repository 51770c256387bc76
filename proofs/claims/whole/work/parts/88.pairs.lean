/-! pairs of ways that cross -/
def cn2 (l : List (Nat × Nat)) : Nat := ctn (fun k => decide (pct (l.getD k (0, 0)).1 = 2)) l.length
theorem cn_app (l m : List (Nat × Nat)) : cn2 (l ++ m) = cn2 l + cn2 m := by
  unfold cn2
  rw [List.length_append, ctn_split]
  congr 1
  · refine ctn_cong (fun k hk => ?_)
    rw [show (l ++ m).getD k (0, 0) = l.getD k (0, 0) from by simp only [List.getD]; rw [List.getElem?_append_left hk]]
  · refine ctn_cong (fun k hk => ?_)
    rw [show (l ++ m).getD (l.length + k) (0, 0) = m.getD k (0, 0) from by simp only [List.getD]; rw [List.getElem?_append_right (by omega), show l.length + k - l.length = k by omega]]
theorem cn_fl (F : Nat → List (Nat × Nat)) (k : Nat) : cn2 ((List.range k).flatMap F) = sm (fun i => cn2 (F i)) k := by
  induction k with
  | zero => rfl
  | succ k ih => rw [fl_succ, cn_app, ih]; rfl
theorem cn_nil : cn2 [] = 0 := rfl
theorem cn_one (a b : Nat) : cn2 [(a, b)] = b1 (pct a = 2) := by
  unfold cn2 b1
  show ctn (fun k => decide (pct ([(a, b)].getD k (0, 0)).1 = 2)) 1 = _
  show 0 + (if decide (pct a = 2) = true then 1 else 0) = _
  simp
section PR
variable {n g : Nat} {X Y : Nat → Int} {h h0 : pH} {o : Nat}
theorem cn_mt (hn : n ≤ 12) : cn2 (mt n X Y) = S4 n (a3 X Y) := by
  unfold mt
  rw [cn_fl]
  unfold S4
  refine sm_cong fun p hp => ?_
  unfold m1
  rw [cn_fl]
  refine sm_cong fun q hq => ?_
  unfold m2
  rw [cn_fl, sm_lt _ n q (by omega)]
  refine sm_cong fun r _ => ?_
  by_cases c : r < q
  rotate_left
  · rw [if_neg c, ← sm_0 n]
    exact sm_cong fun s _ => by unfold a3; rw [b1_f (fun x => c x.1)]
  rw [if_pos c]
  unfold m3
  rw [cn_app]
  have e1 : cn2 (mBt X Y p q r) = 0 := by
    unfold mBt
    by_cases z : bwB X Y p q r = true
    · rw [if_pos z, cn_one, pct_1 p (by omega)]; rfl
    · rw [if_neg z]; rfl
  rw [e1, Nat.zero_add]
  unfold mJ
  by_cases z : p = q ∨ p = r
  · rw [if_pos z, cn_nil, ← sm_0 n]
    exact sm_cong fun s _ => by unfold a3; rw [b1_f (fun x => by omega)]
  rw [if_neg z, cn_app, cn_fl, cn_fl]
  have e2 : sm (fun i => cn2 (m5 X Y p q r i)) r = 0 := by
    rw [← sm_0 r]
    refine sm_cong fun s _ => ?_
    unfold m5
    by_cases y : s ≠ p ∧ wiB X Y p q r s = true
    · rw [if_pos y, cn_one, pct_1 p (by omega)]; rfl
    · rw [if_neg y]; rfl
  rw [e2, Nat.zero_add, sm_lt _ n p (by omega)]
  refine sm_cong fun s _ => ?_
  unfold m6 a3
  by_cases y1 : s < p
  rotate_left
  · rw [if_neg y1, b1_f (fun x => y1 x.2.1)]
  rw [if_pos y1]
  by_cases y2 : s < r ∧ s ≠ q ∧ acB X Y s p r q = true
  · rw [if_pos y2, cn_one, pct_2 p (by omega) s (by omega) (by omega), b1_t rfl, b1_t ⟨c, y1, y2.1, by omega, by omega, y2.2⟩]
  · rw [if_neg y2, cn_nil, b1_f (fun x => y2 ⟨x.2.2.1, x.2.2.2.2.2.1, x.2.2.2.2.2.2⟩)]
theorem crossing_ok (G : GC n g X Y) (M : ML h0 h (mt n X Y)) : lp (fun s => f_R_crossingWays_L1 h s.1 s.2) lpN (0, 0) = some (nI (cn2 (mt n X Y)), h) := by
  have hn := G.1
  have hl := mt_le G
  refine lp_ct0 (f := fun s => f_R_crossingWays_L1 h s.1 s.2) (mt n X Y).length (fun k => decide (pct ((mt n X Y).getD k (0, 0)).1 = 2)) (fun k hk a => ?_) ?_ (by unfold lpN; omega)
  · show f_R_crossingWays_L1 h (nI a) (nI k) = _
    unfold f_R_crossingWays_L1
    have e := gD (mt n X Y) (0, 0) hk
    have b := mt_lt hn (List.getElem_mem hk)
    rw [← e] at b
    have p2 := pct_le ((mt n X Y).getD k (0, 0)).1
    rw [M.2.1, if_neg (lt_no hk (by omega)), if_neg (gd (by omega) (by omega)), cla (by omega), (M.2.2 k hk).1, bitsOf_ok b.1, nI_1, nI_1]
    simp only [Option.bind_some]
    have c : nI (pct ((mt n X Y).getD k (0, 0)).1) = 2 ↔ pct ((mt n X Y).getD k (0, 0)).1 = 2 := nI_eqI (b := 2) (by omega) (by omega)
    simp only [c]
    by_cases z : pct ((mt n X Y).getD k (0, 0)).1 = 2
    · rw [if_pos z, if_pos (by simp only [z, decide_true])]
    · rw [if_neg z, if_neg (by simp only [z, decide_false]; decide)]
      rfl
  · show f_R_crossingWays_L1 h _ (nI (mt n X Y).length) = _
    unfold f_R_crossingWays_L1
    rw [M.2.1, if_pos (ge_yes (Nat.le_refl _) (by omega))]
    rfl
def pr4 (X Y : Nat → Int) (p q r s : Nat) : Nat := b1 (p < q ∧ p < r ∧ r < s ∧ r ≠ q ∧ s ≠ q ∧ acB X Y p q r s = true)
theorem behind_ok (C : CC h o n g X Y) (G : GC n g X Y) {p q : Nat} (hpq : p < q) (hq : q < n) : f_Shapes_meetingBehind o (nI p) (nI q) h = some (nI (sm (fun r => sm (fun s => pr4 X Y p q r s) n) n)) := by
  have hn := G.1
  have hp : p < n := by omega
  unfold f_Shapes_meetingBehind
  have k2 : ∀ r (a : Nat), p < r → r < n → f_Shapes_meetingBehind_L1 o (nI p) (nI q) h (nI a) (nI r) = some (.inl (nI (a + sm (fun s => pr4 X Y p q r s) n), nI (r + 1))) := by
    intro r a hpr hr
    unfold f_Shapes_meetingBehind_L1
    have e := lp_smx (f := fun s => f_Shapes_meetingBehind_L2 o (nI p) (nI q) (nI r) h s.1 s.2) (fun s => b1 (r ≠ q ∧ s ≠ q ∧ acB X Y p q r s = true)) (fun a => .inl (a, nI (r + 1))) (r + 1) n (by omega) hn (fun s hrs hs a => by
      show f_Shapes_meetingBehind_L2 o (nI p) (nI q) (nI r) h (nI a) (nI s) = _
      unfold f_Shapes_meetingBehind_L2
      have bt : ∀ i, (2 ^ r ||| 2 ^ s).testBit i = true ↔ i = r ∨ i = s := fun i => by
        rw [Nat.testBit_or, Nat.testBit_two_pow, Nat.testBit_two_pow]
        simp only [Bool.or_eq_true, decide_eq_true_eq]
        omega
      rw [C.1, if_neg (lt_no hs (by omega)), jshl_ok r (by omega), jshl_ok s (by omega), nI_or, meet_ok C G hp hq (Nat.or_lt_two_pow (n := 12) (two_lt hr hn) (two_lt hs hn)) bt (by omega) hs, nI_1, nI_1]
      simp only [Option.bind_some, nI_eqI (show r ≤ 100000 by omega) (show q ≤ 100000 by omega), nI_eqI (show s ≤ 100000 by omega) (show q ≤ 100000 by omega)]
      by_cases z1 : r = q
      · rw [if_pos z1, b1_f (fun x => x.1 z1)]
        rfl
      by_cases z2 : s = q
      · rw [if_neg z1, if_pos z2, b1_f (fun x => x.2.1 z2)]
        rfl
      rw [if_neg z1, if_neg z2]
      cases z3 : acB X Y p q r s
      · rw [b1_f (fun x => by simp at x)]
        rfl
      · rw [b1_t ⟨z1, z2, rfl⟩]
        rfl) (fun a => by
      show f_Shapes_meetingBehind_L2 o (nI p) (nI q) (nI r) h (nI a) (nI n) = _
      unfold f_Shapes_meetingBehind_L2
      rw [C.1, if_pos (ge_yes (Nat.le_refl _) (by omega)), nI_1]) a
    rw [C.1, if_neg (lt_no hr (by omega)), nI_1, e]
    congr 5
    refine sm_cong (fun s _ => ?_)
    unfold pr4
    by_cases c : r + 1 ≤ s
    · rw [if_pos c]
      by_cases d : r ≠ q ∧ s ≠ q ∧ acB X Y p q r s = true
      · rw [b1_t d, b1_t ⟨hpq, hpr, by omega, d⟩]
      · rw [b1_f d, b1_f (fun x => d x.2.2.2)]
    · rw [if_neg c, b1_f (fun x => by omega)]
  have e := lp_smx (f := fun s => f_Shapes_meetingBehind_L1 o (nI p) (nI q) h s.1 s.2) (fun r => sm (fun s => pr4 X Y p q r s) n) (fun a => a) (p + 1) n (by omega) hn (fun r hr hrn a => k2 r a (by omega) hrn) (fun a => by
    show f_Shapes_meetingBehind_L1 o (nI p) (nI q) h (nI a) (nI n) = _
    unfold f_Shapes_meetingBehind_L1
    rw [C.1, if_pos (ge_yes (Nat.le_refl _) (by omega))]) 0
  rw [nI_1, show lp (fun s => f_Shapes_meetingBehind_L1 o (nI p) (nI q) h s.1 s.2) lpN (0, nI (p + 1)) = _ from e, Nat.zero_add]
  congr 2
  refine sm_cong (fun r _ => ?_)
  by_cases c : p + 1 ≤ r
  · rw [if_pos c]
  · rw [if_neg c, ← sm_0 n]
    exact sm_cong (fun s _ => by unfold pr4; rw [b1_f (fun x => by omega)])
theorem pairs_ok (C : CC h o n g X Y) (G : GC n g X Y) : f_Shapes_meetingPairs o h = some (nI (S4 n (pr4 X Y))) := by
  have hn := G.1
  unfold f_Shapes_meetingPairs
  have k2 : ∀ p (a : Nat), p < n → f_Shapes_meetingPairs_L1 o h (nI a) (nI p) = some (.inl (nI (a + sm (fun q => sm (fun r => sm (fun s => pr4 X Y p q r s) n) n) n), nI (p + 1))) := by
    intro p a hp
    unfold f_Shapes_meetingPairs_L1
    have e := lp_smx (f := fun s => f_Shapes_meetingPairs_L2 o (nI p) h s.1 s.2) (fun q => sm (fun r => sm (fun s => pr4 X Y p q r s) n) n) (fun a => .inl (a, nI (p + 1))) (p + 1) n (by omega) hn (fun q hpq hq a => by
      show f_Shapes_meetingPairs_L2 o (nI p) h (nI a) (nI q) = _
      unfold f_Shapes_meetingPairs_L2
      rw [C.1, if_neg (lt_no hq (by omega)), behind_ok C G (by omega) hq, nI_1]
      simp only [Option.bind_some]
      rw [nI_add]) (fun a => by
      show f_Shapes_meetingPairs_L2 o (nI p) h (nI a) (nI n) = _
      unfold f_Shapes_meetingPairs_L2
      rw [C.1, if_pos (ge_yes (Nat.le_refl _) (by omega)), nI_1]) a
    rw [C.1, if_neg (lt_no hp (by omega)), nI_1, e]
    congr 5
    refine sm_cong (fun q _ => ?_)
    by_cases c : p + 1 ≤ q
    · rw [if_pos c]
    · rw [if_neg c, ← sm_0 n]
      refine sm_cong (fun r _ => ?_)
      rw [← sm_0 n]
      exact sm_cong (fun s _ => by unfold pr4; rw [b1_f (fun x => by omega)])
  have e := lp_smx (f := fun s => f_Shapes_meetingPairs_L1 o h s.1 s.2) (fun p => sm (fun q => sm (fun r => sm (fun s => pr4 X Y p q r s) n) n) n) (fun a => a) 0 n (by omega) hn (fun p _ hp a => k2 p a hp) (fun a => by
    show f_Shapes_meetingPairs_L1 o h (nI a) (nI n) = _
    unfold f_Shapes_meetingPairs_L1
    rw [C.1, if_pos (ge_yes (Nat.le_refl _) (by omega))]) 0
  rw [show lp (fun s => f_Shapes_meetingPairs_L1 o h s.1 s.2) lpN (0, 0) = _ from e, Nat.zero_add]
  congr 2
theorem pairs_eq (hn : n ≤ 12) : cn2 (mt n X Y) = S4 n (pr4 X Y) := by
  rw [cn_mt hn, S4_p2]
  refine S4_cong (fun a b c d _ _ _ _ => ?_)
  unfold a3 pr4 b1
  by_cases z : acB X Y a b c d = true
  · by_cases y : c < d ∧ a < b ∧ a < c ∧ b ≠ d ∧ b ≠ c ∧ a ≠ d
    · rw [if_pos ⟨y.1, y.2.1, y.2.2.1, y.2.2.2.1, y.2.2.2.2.1, y.2.2.2.2.2, z⟩, if_pos ⟨y.2.1, y.2.2.1, y.1, by omega, by omega, z⟩]
    · rw [if_neg (fun x => y ⟨x.1, x.2.1, x.2.2.1, x.2.2.2.1, x.2.2.2.2.1, x.2.2.2.2.2.1⟩), if_neg (fun x => y ⟨x.2.2.1, x.1, x.2.1, by omega, by omega, by omega⟩)]
  · rw [if_neg (fun x => z x.2.2.2.2.2.2), if_neg (fun x => z x.2.2.2.2.2)]
end PR
