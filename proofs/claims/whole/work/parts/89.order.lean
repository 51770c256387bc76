/-! lines: their order at a place -/
def vl (X Y : Nat → Int) (ov un : Int) (p : Nat) : Int := X p * ov - Y p * un
def rkb (X Y : Nat → Int) (ov un sd : Int) (p q : Nat) : Bool := decide (vl X Y ov un q < vl X Y ov un p ∨ (vl X Y ov un q = vl X Y ov un p ∧ sd * (X q - X p) < 0))
def rk (n : Nat) (X Y : Nat → Int) (ov un sd : Int) (p : Nat) : Nat := ctn (rkb X Y ov un sd p) n
def laF (R : Nat → Nat) (i : Int32) : Nat → Nat → Int32
  | 0, _ => -1
  | d + 1, p => if nI (R p) = i then nI p else laF R i d (p + 1)
def laV (n : Nat) (R : Nat → Nat) (i : Int32) : Int32 := laF R i n 0
theorem laF_hit {R : Nat → Nat} {i : Int32} : ∀ d p k, p ≤ k → k < p + d → nI (R k) = i → (∀ j, p ≤ j → j < k → ¬ nI (R j) = i) → laF R i d p = nI k := by
  intro d
  induction d with
  | zero => intro p k h1 h2; omega
  | succ d ih =>
    intro p k h1 h2 h3 h4
    unfold laF
    by_cases e : p = k
    · subst e; rw [if_pos h3]
    · rw [if_neg (h4 p (Nat.le_refl _) (by omega))]
      exact ih (p + 1) k (by omega) (by omega) h3 (fun j hj1 hj2 => h4 j (by omega) hj2)
theorem laF_no {R : Nat → Nat} {i : Int32} : ∀ d p, (∀ j, p ≤ j → j < p + d → ¬ nI (R j) = i) → laF R i d p = -1 := by
  intro d
  induction d with
  | zero => intro p _; rfl
  | succ d ih =>
    intro p H
    unfold laF
    rw [if_neg (H p (Nat.le_refl _) (by omega))]
    exact ih (p + 1) (fun j h1 h2 => H j (by omega) (by omega))
theorem laV_cong {n : Nat} {R S : Nat → Nat} (H : ∀ p, p < n → R p = S p) (i : Int32) : laV n R i = laV n S i := by
  have : ∀ d p, p + d ≤ n → laF R i d p = laF S i d p := by
    intro d
    induction d with
    | zero => intro p _; rfl
    | succ d ih =>
      intro p hp
      unfold laF
      rw [H p (by omega), ih (p + 1) (by omega)]
  exact this n 0 (by omega)
/-- the loop of both: the first with that rank -/
theorem lp_la {f : Int32 → Option (Int32 ⊕ Int32)} {n : Nat} (hn : n ≤ 12) (R : Nat → Nat) (i : Int32) (hs : ∀ p, p < n → f (nI p) = some (if nI (R p) = i then .inr (nI p) else .inl (nI (p + 1)))) (hx : f (nI n) = some (.inr (-1))) : lp f lpN 0 = some (laV n R i) := by
  obtain ⟨r, e1, e2⟩ := lp_find (f := f) (fun k => nI k) (fun p => decide (nI (R p) = i)) n (fun r => r = laV n R i) (fun p hp hf => by
    rw [hs p hp, if_neg (by simpa using hf)]) (fun p hp ht hb => ⟨nI p, by rw [hs p hp, if_pos (by simpa using ht)], (laF_hit n 0 p (by omega) (by omega) (by simpa using ht) (fun j _ hj => by simpa using hb j hj)).symm⟩) (fun hno => ⟨-1, hx, (laF_no n 0 (fun j _ hj => by simpa using hno j (by omega))).symm⟩) (by unfold lpN; omega)
  rw [show lp f lpN 0 = some r from e1, e2]
section OR
variable {n g : Nat} {X Y : Nat → Int} {h : pH} {o : Nat}
theorem vl_in (G : GC n g X Y) {ov un : Int} (h1 : -1000 ≤ ov ∧ ov ≤ 1000) (h2 : -1000 ≤ un ∧ un ≤ 1000) {p : Nat} (hp : p < n) : -100000 ≤ vl X Y ov un p ∧ vl X Y ov un p ≤ 100000 := by
  have b := G.2.2.1 p hp
  have m1 := mul_b (a := X p) (b := ov) (A := 50) (B := 1000) (by omega) (by omega)
  have m2 := mul_b (a := Y p) (b := un) (A := 50) (B := 1000) (by omega) (by omega)
  unfold vl
  omega
theorem rankOf_ok (C : CC h o n g X Y) (G : GC n g X Y) {ov un sd : Int} (h1 : -1000 ≤ ov ∧ ov ≤ 1000) (h2 : -1000 ≤ un ∧ un ≤ 1000) (h3 : sd = 1 ∨ sd = -1) {p : Nat} (hp : p < n) : f_Lines_rankOf o (nI p) (iI ov) (iI un) (iI sd) h = some (nI (rk n X Y ov un sd p)) := by
  have hn := G.1
  have B := G.2.2.1
  unfold f_Lines_rankOf
  rw [if_neg (gd (by omega) (by omega)), cla (by omega), (C.2.2 p hp).1, (C.2.2 p hp).2, iI_mul, iI_mul, iI_sub, show X p * ov - Y p * un = vl X Y ov un p from rfl]
  refine lp_ct0 (f := fun s => f_Lines_rankOf_L1 o (nI p) (iI ov) (iI un) (iI sd) (iI (vl X Y ov un p)) h s.1 s.2) n (rkb X Y ov un sd p) (fun q hq a => ?_) ?_ (by unfold lpN; omega)
  · show f_Lines_rankOf_L1 o (nI p) (iI ov) (iI un) (iI sd) (iI (vl X Y ov un p)) h (nI a) (nI q) = _
    unfold f_Lines_rankOf_L1 rkb
    have v1 := vl_in G h1 h2 hp
    have v2 := vl_in G h1 h2 hq
    have bp := B p hp
    have bq := B q hq
    rw [C.1, if_neg (lt_no hq (by omega)), if_neg (gd (by omega) (by omega)), if_neg (gd (by omega) (by omega)), cla (by omega), cla (by omega), (C.2.2 p hp).1, (C.2.2 q hq).1, (C.2.2 q hq).2, iI_mul, iI_mul, iI_sub, iI_sub, iI_mul, show X q * ov - Y q * un = vl X Y ov un q from rfl, nI_1, nI_1]
    have s : InR (sd * (X q - X p)) := by rcases h3 with rfl | rfl <;> unfold InR <;> omega
    simp only [iI_lt (InR_100 v2) (InR_100 v1), iI_eq (InR_100 v2) (InR_100 v1), ge0 s]
    generalize vl X Y ov un q = vq at *
    generalize vl X Y ov un p = vp at *
    generalize sd * (X q - X p) = dd at *
    by_cases c1 : vq < vp
    · rw [if_pos c1, if_pos (by simp [c1])]
    · rw [if_neg c1]
      by_cases c2 : vq = vp
      · rw [if_pos c2]
        by_cases c3 : 0 ≤ dd
        · rw [if_pos c3, if_neg (by simp; omega)]
          rfl
        · rw [if_neg c3, if_pos (by simp; omega)]
      · rw [if_neg c2, if_neg (by simp [c1, c2])]
        rfl
  · show f_Lines_rankOf_L1 o (nI p) (iI ov) (iI un) (iI sd) (iI (vl X Y ov un p)) h _ (nI n) = _
    unfold f_Lines_rankOf_L1
    rw [C.1, if_pos (ge_yes (Nat.le_refl _) (by omega))]
    rfl
theorem lineAt_ok (C : CC h o n g X Y) (G : GC n g X Y) {ov un sd : Int} (h1 : -1000 ≤ ov ∧ ov ≤ 1000) (h2 : -1000 ≤ un ∧ un ≤ 1000) (h3 : sd = 1 ∨ sd = -1) (i : Int32) : f_Lines_lineAt o i (iI ov) (iI un) (iI sd) h = some (laV n (rk n X Y ov un sd) i) := by
  have hn := G.1
  unfold f_Lines_lineAt
  refine lp_la hn _ i (fun p hp => ?_) ?_
  · show f_Lines_lineAt_L1 o i (iI ov) (iI un) (iI sd) h (nI p) = _
    unfold f_Lines_lineAt_L1
    rw [C.1, if_neg (lt_no hp (by omega)), rankOf_ok C G h1 h2 h3 hp, nI_1]
    simp only [Option.bind_some]
    split <;> rfl
  · show f_Lines_lineAt_L1 o i (iI ov) (iI un) (iI sd) h (nI n) = _
    unfold f_Lines_lineAt_L1
    rw [C.1, if_pos (ge_yes (Nat.le_refl _) (by omega))]
theorem R_valueAt_ok (C : RR h n g X Y) (hn : n ≤ 12) (ov un : Int) {p : Nat} (hp : p < n) : f_R_valueAt (nI p) (iI ov) (iI un) h = some (iI (vl X Y ov un p)) := by
  unfold f_R_valueAt
  rw [R_x_ok C hn hp, R_y_ok C hn hp]
  simp only [Option.bind_some]
  rw [iI_mul, iI_mul, iI_sub]
  rfl
theorem R_lineAt_ok (C : RR h n g X Y) (G : GC n g X Y) {ov un sd : Int} (h1 : -1000 ≤ ov ∧ ov ≤ 1000) (h2 : -1000 ≤ un ∧ un ≤ 1000) {x4 : Int32} (h3 : (sd = 1 ∧ x4 = 0) ∨ (sd = -1 ∧ x4 = 1)) (i : Int32) : f_R_lineAt (iI ov) (iI un) i x4 h = some (laV n (rk n X Y ov un sd) i) := by
  have hn := G.1
  have B := G.2.2.1
  unfold f_R_lineAt
  refine lp_la hn _ i (fun p hp => ?_) ?_
  · show f_R_lineAt_L1 (iI ov) (iI un) i x4 h (nI p) = _
    unfold f_R_lineAt_L1 f_R_all
    rw [C.1, if_neg (lt_no hp (by omega))]
    refine lp_ct0 (f := fun s => f_R_lineAt_L2 (iI ov) (iI un) i x4 (nI p) h s.1 s.2) n (rkb X Y ov un sd p) (fun q hq a => ?_) ?_ (by unfold lpN; omega)
    · show f_R_lineAt_L2 (iI ov) (iI un) i x4 (nI p) h (nI a) (nI q) = _
      unfold f_R_lineAt_L2 f_R_all rkb
      have v1 := vl_in G h1 h2 hp
      have v2 := vl_in G h1 h2 hq
      have bp := B p hp
      have bq := B q hq
      rw [C.1, if_neg (lt_no hq (by omega)), R_valueAt_ok C hn ov un hp, R_valueAt_ok C hn ov un hq, R_x_ok C hn hp, R_x_ok C hn hq, nI_1, nI_1]
      simp only [Option.bind_some]
      rw [iI_sub]
      simp only [lt0 (show InR (vl X Y ov un q - vl X Y ov un p) by unfold InR; omega), e0 (show InR (vl X Y ov un q - vl X Y ov un p) by unfold InR; omega), iI_le (show InR (X p) by unfold InR; omega) (show InR (X q) by unfold InR; omega), iI_le (show InR (X q) by unfold InR; omega) (show InR (X p) by unfold InR; omega)]
      generalize vl X Y ov un q = vq at *
      generalize vl X Y ov un p = vp at *
      by_cases c1 : vq < vp
      · rw [if_pos (by omega), if_pos (by simp [c1])]
      · rw [if_neg (by omega)]
        by_cases c2 : vq = vp
        · rw [if_pos (by omega)]
          rcases h3 with ⟨rfl, rfl⟩ | ⟨rfl, rfl⟩
          · rw [if_pos rfl]
            by_cases c3 : X p ≤ X q
            · rw [if_pos c3, if_neg (by simp; omega)]
              rfl
            · rw [if_neg c3, if_pos (by simp; omega)]
          · rw [if_neg (by decide)]
            by_cases c3 : X q ≤ X p
            · rw [if_pos c3, if_neg (by simp; omega)]
              rfl
            · rw [if_neg c3, if_pos (by simp; omega)]
        · rw [if_neg (by omega), if_neg (by simp [c1, c2])]
          rfl
    · show f_R_lineAt_L2 (iI ov) (iI un) i x4 (nI p) h _ (nI n) = _
      unfold f_R_lineAt_L2 f_R_all
      rw [C.1, if_pos (ge_yes (Nat.le_refl _) (by omega)), nI_1]
      show (if nI (rk n X Y ov un sd p) = i then _ else _) = _
      split <;> rfl
  · show f_R_lineAt_L1 (iI ov) (iI un) i x4 h (nI n) = _
    unfold f_R_lineAt_L1 f_R_all
    rw [C.1, if_pos (ge_yes (Nat.le_refl _) (by omega))]
theorem rk_lt (ov un sd : Int) {p : Nat} (hp : p < n) : rk n X Y ov un sd p < n := by
  unfold rk
  have := ctn_lt (P := rkb X Y ov un sd p) (Q := fun _ => true) (n := n) (fun _ _ _ => rfl) (j := p) hp (by
    unfold rkb
    rw [decide_eq_false_iff_not]
    rintro (e | ⟨-, e⟩)
    · omega
    · rw [Int.sub_self, Int.mul_zero] at e
      omega) rfl
  exact Nat.lt_of_lt_of_le this (ctn_le _ _)
end OR
section OS
variable {KC KD KE : pH → Cfg → Prop}
theorem sp_order (hKC : Kst KC) (hKD : Kst KD) (hKE : Kst KE) : Sp_order (JJ KC KD KE) := by
  intro k h _ H a0 a1
  refine rd_go hKC hKD hKE H fun c G C R => ?_
  have hn := G.1
  have t1 : a0 < -1000 ↔ a0.toInt < -1000 := by
    conv => lhs; rw [iI_of a0, show (-1000 : Int32) = iI (-1000) from rfl]
    rw [iI_lt (InR_of a0) (by unfold InR; omega)]
  have t2 : a0 ≤ 1000 ↔ a0.toInt ≤ 1000 := by
    conv => lhs; rw [iI_of a0, show (1000 : Int32) = iI 1000 from rfl]
    rw [iI_le (InR_of a0) (by unfold InR; omega)]
  have t3 := in_ok a0 (lo := -1000) (hi := 1000) (by unfold InR; omega) (by unfold InR; omega)
  have t3 : f_R_in a0 (-1000) 1000 = if -1000 ≤ a0.toInt ∧ a0.toInt ≤ 1000 then 1 else 0 := t3
  unfold f_C_order f_R_order
  rw [show f_R_all h = nI c.1 from R.1, in_idx a1 (by omega), t3]
  simp only [t1, t2]
  by_cases z : -1000 ≤ a0.toInt ∧ a0.toInt ≤ 1000
  · have e1 := lineAt_ok C G (ov := a0.toInt) (un := 1) (sd := 1) z (by omega) (Or.inl rfl) a1
    rw [← iI_of] at e1
    have e1 : f_Lines_lineAt 8 a1 a0 1 1 h = _ := e1
    have e2 := R_lineAt_ok R G (ov := a0.toInt) (un := 1) (sd := 1) z (by omega) (x4 := 0) (Or.inl ⟨rfl, rfl⟩) a1
    rw [← iI_of] at e2
    have e2 : f_R_lineAt a0 1 a1 0 h = _ := e2
    rw [if_neg (by omega), if_pos z.2, if_pos z, if_neg (by decide), e1, e2]
    simp only [Option.bind_some]
    by_cases y : 0 ≤ a1.toInt ∧ a1.toInt < c.1
    · rw [if_pos y, if_neg (by decide)]
      exact ⟨_, rfl, rfl⟩
    · rw [if_neg y, if_pos rfl]
      have : laV c.1 (rk c.1 c.2.2.1 c.2.2.2 a0.toInt 1 1) a1 = -1 := laF_no c.1 0 (fun j _ hj e => by
        have := rk_lt (n := c.1) (X := c.2.2.1) (Y := c.2.2.2) a0.toInt 1 1 (p := j) (by omega)
        rw [← e, nI_iI, iI_toInt (by unfold InR; omega)] at y
        omega)
      rw [this]
      exact ⟨_, rfl, rfl⟩
  · rw [if_neg z, if_pos rfl]
    refine ⟨-1, ?_, rfl⟩
    by_cases y : a0.toInt < -1000
    · rw [if_pos y]
    · rw [if_neg y, if_neg (by omega)]
end OS
