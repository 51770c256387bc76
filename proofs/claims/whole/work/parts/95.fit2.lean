/-! the fit of a line -/
section F5
variable {n g : Nat} {X Y : Nat → Int} {h h0 : pH}
def rs (X Y : Nat → Int) (a b : Int) (p : Nat) : Int := Y p - a * X p - b
def uA (X Y : Nat → Int) (a b : Int) (p : Nat) : Bool := decide (0 ≤ rs X Y a b p)
def uB (X Y : Nat → Int) (a b : Int) (p : Nat) : Bool := decide (rs X Y a b p ≤ 0)
def oneP (X Y : Nat → Int) (a b x : Int) (p : Nat) : Bool := if X p ≤ x then uA X Y a b p else uB X Y a b p
def othP (X Y : Nat → Int) (a b x : Int) (p : Nat) : Bool := if X p ≤ x then uB X Y a b p else uA X Y a b p
def fbv (n : Nat) (X Y : Nat → Int) (a b : Int) : Nat → Nat
  | 0 => min n (min (ctn (uB X Y a b) n) (ctn (uA X Y a b) n))
  | c + 1 => min (fbv n X Y a b c) (min (ctn (oneP X Y a b (X c)) n) (ctn (othP X Y a b (X c)) n))
def fitV (n : Nat) (X Y : Nat → Int) (a b : Int) : Nat := fbv n X Y a b n
theorem fbv_le (a b : Int) (c : Nat) : fbv n X Y a b c ≤ n := by
  induction c with
  | zero => exact Nat.min_le_left _ _
  | succ c ih => exact Nat.le_trans (Nat.min_le_left _ _) ih
theorem rs_in (G : GC n g X Y) {a b : Int} (ha : -100 ≤ a ∧ a ≤ 100) (hb : -10000 ≤ b ∧ b ≤ 10000) {p : Nat} (hp : p < n) : InR (rs X Y a b p) := by
  have c := G.2.2.1 p hp
  have m := mul_b (a := a) (b := X p) (A := 100) (B := 50) ha (by omega)
  unfold rs InR
  omega
/-- one point of the reference's count -/
theorem R_fitJ (G : GC n g X Y) {a b : Int} (ha : -100 ≤ a ∧ a ≤ 100) (hb : -10000 ≤ b ∧ b ≤ 10000) {p : Nat} (hp : p < n) (hr : hI h 102 p = iI (rs X Y a b p)) (x3 x4 : Int32) (u w : Nat) : f_R_fitOf_J4 x3 x4 (nI u) (nI w) (nI p) 0 h = some (.inl (nI (u + if uB X Y a b p then 1 else 0), nI (w + if uA X Y a b p then 1 else 0), nI (p + 1))) ∧ f_R_fitOf_J4 x3 x4 (nI u) (nI w) (nI p) 1 h = some (.inl (nI (u + if uA X Y a b p then 1 else 0), nI (w + if uB X Y a b p then 1 else 0), nI (p + 1))) := by
  have hn := G.1
  have i := rs_in G ha hb hp
  unfold f_R_fitOf_J4 f_R_fitOf_J5 f_R_fitOf_J6 f_R_fitOf_J7 uA uB
  have gdd : ¬ (nI p < 0 ∨ 12 ≤ (nI p).toNatClampNeg) := gd (by omega) (by omega)
  simp only [if_neg gdd]
  rw [cla (by omega), hr, nI_1, nI_1, nI_1]
  simp only [lt0 i, gt0 i]
  generalize rs X Y a b p = r at *
  by_cases c1 : r < 0
  · have c2 : ¬ 0 < r := by omega
    have c3 : ¬ 0 ≤ r := by omega
    have c4 : r ≤ 0 := by omega
    simp [c1, c2, c3, c4]
  · by_cases c2 : 0 < r
    · have c3 : 0 ≤ r := by omega
      have c4 : ¬ r ≤ 0 := by omega
      simp [c1, c2, c3, c4]
    · have c3 : 0 ≤ r := by omega
      have c4 : r ≤ 0 := by omega
      simp [c1, c2, c3, c4]
theorem R_fitOf_ok (C : RR h n g X Y) (G : GC n g X Y) {a b : Int} (ha : -100 ≤ a ∧ a ≤ 100) (hb : -10000 ≤ b ∧ b ≤ 10000) : ∃ h', f_R_fitOf (iI a) (iI b) h = some (nI (fitV n X Y a b), h') ∧ Fs [102] h h' := by
  have hn := G.1
  unfold f_R_fitOf
  obtain ⟨⟨r1, r2⟩, e1, e2, e3⟩ := lp_inv (f := fun s => f_R_fitOf_L1 (iI a) (iI b) s.1 s.2) (fun p s => s.1 = nI p ∧ Fs [102] h s.2 ∧ ∀ k, k < p → hI s.2 102 k = iI (rs X Y a b k)) (fun r => r.1 = nI (fitV n X Y a b) ∧ Fs [102] h r.2) n (by
    rintro p ⟨u, h'⟩ hp ⟨rfl, F, H⟩
    have F : Fs [102] h h' := F
    have H : ∀ k, k < p → hI h' 102 k = iI (rs X Y a b k) := H
    have C' : RR h' n g X Y := C.fs F (by decide)
    show ∃ s', f_R_fitOf_L1 (iI a) (iI b) (nI p) h' = some (.inl s') ∧ _
    unfold f_R_fitOf_L1 f_R_all
    rw [C'.1, if_neg (lt_no hp (by omega)), R_x_ok C' hn hp, R_y_ok C' hn hp]
    simp only [Option.bind_some]
    rw [if_neg (gd (by omega) (by omega)), cla (by omega), iI_mul, iI_sub, iI_sub, nI_1]
    refine ⟨_, rfl, rfl, F.set (by decide), fun k hk => ?_⟩
    show hI (sI h' 102 p _) 102 k = _
    by_cases c : k = p
    · subst c; rw [hI_s]; rfl
    · rw [hI_n (by omega)]; exact H k (by omega)) (by
    rintro ⟨u, h'⟩ ⟨rfl, F, H⟩
    have F : Fs [102] h h' := F
    have H : ∀ k, k < n → hI h' 102 k = iI (rs X Y a b k) := H
    have C' : RR h' n g X Y := C.fs F (by decide)
    show ∃ r, f_R_fitOf_L1 (iI a) (iI b) (nI n) h' = some (.inr r) ∧ _
    unfold f_R_fitOf_L1 f_R_all
    rw [C'.1, if_pos (ge_yes (Nat.le_refl _) (by omega))]
    have tB := ctn_le (uB X Y a b) n
    have tA := ctn_le (uA X Y a b) n
    have L3a : ∀ v : Nat, v ≤ 1000 → lp (fun s => f_R_fitOf_L3 (nI v) (iI (-1)) h' s.1 s.2.1 s.2.2) lpN (0, 0, 0) = some (.inl (nI (min v (min (ctn (uB X Y a b) n) (ctn (uA X Y a b) n))), iI 0)) := by
      intro v hv
      refine lp_run (f := fun s => f_R_fitOf_L3 (nI v) (iI (-1)) h' s.1 s.2.1 s.2.2) (fun k => (nI (ctn (uB X Y a b) k), nI (ctn (uA X Y a b) k), nI k)) n (fun p hp => ?_) ?_ (n := lpN) (by unfold lpN; omega)
      · show f_R_fitOf_L3 (nI v) (iI (-1)) h' (nI (ctn (uB X Y a b) p)) (nI (ctn (uA X Y a b) p)) (nI p) = _
        unfold f_R_fitOf_L3 f_R_all
        rw [C'.1, if_neg (lt_no hp (by omega)), if_pos (by decide), (R_fitJ G ha hb hp (H p hp) _ _ _ _).1]
        rfl
      · show f_R_fitOf_L3 (nI v) (iI (-1)) h' (nI (ctn (uB X Y a b) n)) (nI (ctn (uA X Y a b) n)) (nI n) = _
        unfold f_R_fitOf_L3 f_R_all
        rw [C'.1, if_pos (ge_yes (Nat.le_refl _) (by omega)), min_ok (by omega) (by omega), min_ok (by omega) (by omega)]
        rfl
    have L3b : ∀ (c : Nat) (v : Nat), c < n → v ≤ 1000 → lp (fun s => f_R_fitOf_L3 (nI v) (nI c) h' s.1 s.2.1 s.2.2) lpN (0, 0, 0) = some (.inl (nI (min v (min (ctn (oneP X Y a b (X c)) n) (ctn (othP X Y a b (X c)) n))), nI (c + 1))) := by
      intro c v hc hv
      have t1 := ctn_le (oneP X Y a b (X c)) n
      have t2 := ctn_le (othP X Y a b (X c)) n
      have bc := G.2.2.1 c hc
      refine lp_run (f := fun s => f_R_fitOf_L3 (nI v) (nI c) h' s.1 s.2.1 s.2.2) (fun k => (nI (ctn (oneP X Y a b (X c)) k), nI (ctn (othP X Y a b (X c)) k), nI k)) n (fun p hp => ?_) ?_ (n := lpN) (by unfold lpN; omega)
      · show f_R_fitOf_L3 (nI v) (nI c) h' (nI (ctn (oneP X Y a b (X c)) p)) (nI (ctn (othP X Y a b (X c)) p)) (nI p) = some (.inl (nI (ctn (oneP X Y a b (X c)) p + if oneP X Y a b (X c) p then 1 else 0), nI (ctn (othP X Y a b (X c)) p + if othP X Y a b (X c) p then 1 else 0), nI (p + 1)))
        unfold f_R_fitOf_L3 f_R_all
        have bp := G.2.2.1 p hp
        rw [C'.1, if_neg (lt_no hp (by omega)), if_neg (show ¬ nI c < 0 by rw [lt0x, nI_iI, iI_toInt (by unfold InR; omega)]; omega), R_x_ok C' hn hp, R_x_ok C' hn hc]
        simp only [Option.bind_some, iI_lt (show InR (X c) by unfold InR; omega) (show InR (X p) by unfold InR; omega)]
        obtain ⟨j1, j2⟩ := R_fitJ G ha hb hp (H p hp) (nI v) (nI c) (ctn (oneP X Y a b (X c)) p) (ctn (othP X Y a b (X c)) p)
        by_cases z : X c < X p
        · have o1 : oneP X Y a b (X c) p = uB X Y a b p := by unfold oneP; rw [if_neg (by omega)]
          have o2 : othP X Y a b (X c) p = uA X Y a b p := by unfold othP; rw [if_neg (by omega)]
          rw [if_pos z, j1, o1, o2]
        · have o1 : oneP X Y a b (X c) p = uA X Y a b p := by unfold oneP; rw [if_pos (by omega)]
          have o2 : othP X Y a b (X c) p = uB X Y a b p := by unfold othP; rw [if_pos (by omega)]
          rw [if_neg z, j2, o1, o2]
      · show f_R_fitOf_L3 (nI v) (nI c) h' (nI (ctn (oneP X Y a b (X c)) n)) (nI (ctn (othP X Y a b (X c)) n)) (nI n) = _
        unfold f_R_fitOf_L3 f_R_all
        rw [C'.1, if_pos (ge_yes (Nat.le_refl _) (by omega)), min_ok (by omega) (by omega), min_ok (by omega) (by omega), nI_1]
    have L2 : lp (fun s => f_R_fitOf_L2 h' s.1 s.2) lpN (nI n, -1) = some (nI (fitV n X Y a b), h') := by
      refine lp_run (f := fun s => f_R_fitOf_L2 h' s.1 s.2) (fun k => (if k = 0 then nI n else nI (fbv n X Y a b (k - 1)), iI ((k : Int) - 1))) (n + 1) (fun k hk => ?_) ?_ (n := lpN) (by unfold lpN; omega)
      · show f_R_fitOf_L2 h' (if k = 0 then nI n else nI (fbv n X Y a b (k - 1))) (iI ((k : Int) - 1)) = some (.inl (nI (fbv n X Y a b k), iI (((k + 1 : Nat) : Int) - 1)))
        unfold f_R_fitOf_L2 f_R_all
        by_cases z : k = 0
        · subst z
          have le : ¬ nI n ≤ iI (((0 : Nat) : Int) - 1) := by
            rw [nI_iI, iI_le (by unfold InR; omega) (by unfold InR; omega)]
            omega
          rw [if_pos rfl, C'.1, if_neg le, show iI (((0 : Nat) : Int) - 1) = iI (-1) from rfl, L3a n (by omega)]
          rfl
        · obtain ⟨c, rfl⟩ : ∃ c, k = c + 1 := ⟨k - 1, by omega⟩
          have ec : iI (((c + 1 : Nat) : Int) - 1) = nI c := by rw [nI_iI]; congr 1; omega
          have ec2 : iI (((c + 1 + 1 : Nat) : Int) - 1) = nI (c + 1) := by rw [nI_iI]; congr 1; omega
          have fl := fbv_le (n := n) (X := X) (Y := Y) a b c
          rw [if_neg (show ¬ c + 1 = 0 by omega), ec, ec2, C'.1, if_neg (show ¬ nI n ≤ nI c from lt_no (by omega) (by omega)), show c + 1 - 1 = c by omega, L3b c (fbv n X Y a b c) (by omega) (by omega)]
          rfl
      · show f_R_fitOf_L2 h' (if n + 1 = 0 then nI n else nI (fbv n X Y a b (n + 1 - 1))) (iI (((n + 1 : Nat) : Int) - 1)) = _
        have ec : iI (((n + 1 : Nat) : Int) - 1) = nI n := by rw [nI_iI]; congr 1; omega
        unfold f_R_fitOf_L2 f_R_all
        rw [if_neg (show ¬ n + 1 = 0 by omega), ec, C'.1, if_pos (ge_yes (Nat.le_refl _) (by omega))]
        rfl
    rw [L2]
    exact ⟨_, rfl, rfl, F⟩) (n := lpN) (s := (0, h)) ⟨rfl, Fs.rfl', fun k hk => by omega⟩ (by unfold lpN; omega)
  have e2 : r1 = nI (fitV n X Y a b) := e2
  subst e2
  exact ⟨r2, e1, e3⟩
/-- the class: along the points by x -/
def AL (X : Nat → Int) (n : Nat) (P : Nat → Bool) (i : Nat) : Nat := ctn (fun k => P (sgm X n k)) i
def gend (X : Nat → Int) (n i : Nat) : Prop := i + 1 = n ∨ X (sgm X n (i + 1)) ≠ X (sgm X n i)
theorem AL_le (P : Nat → Bool) : ∀ i, i ≤ n → AL X n P i ≤ ctn P n := by
  intro i hi
  rw [← sgm_ct X P n]
  unfold AL
  rw [show n = i + (n - i) by omega, ctn_split, show i + (n - i) = n by omega]
  omega
theorem grp (P : Nat → Bool) {i : Nat} (hi : i < n) (he : gend X n i) : AL X n P (i + 1) = ctn (fun p => P p && decide (X p ≤ X (sgm X n i))) n := by
  rw [← sgm_ct X (fun p => P p && decide (X p ≤ X (sgm X n i))) n]
  unfold AL
  have e : ctn (fun k => P (sgm X n k) && decide (X (sgm X n k) ≤ X (sgm X n i))) n = ctn (fun k => P (sgm X n k) && decide (X (sgm X n k) ≤ X (sgm X n i))) (i + 1) + ctn (fun k => P (sgm X n (i + 1 + k)) && decide (X (sgm X n (i + 1 + k)) ≤ X (sgm X n i))) (n - (i + 1)) := by
    rw [← ctn_split (fun k => P (sgm X n k) && decide (X (sgm X n k) ≤ X (sgm X n i))) (i + 1) (n - (i + 1)), show i + 1 + (n - (i + 1)) = n by omega]
  rw [e, ctn_none (n := n - (i + 1)) (fun k hk => by
    have s1 := sgm_srt X n (i + 1) (i + 1 + k) (by omega) (by omega)
    have s2 := sgm_srt X n i (i + 1) (by omega) (by omega)
    have : ¬ X (sgm X n (i + 1 + k)) ≤ X (sgm X n i) := by
      rcases he with z | z
      · omega
      · omega
    rw [decide_eq_false this, Bool.and_false]), Nat.add_zero]
  refine ctn_cong (fun k hk => ?_)
  have s1 := sgm_srt X n k i (by omega) hi
  rw [decide_eq_true s1, Bool.and_true]
theorem ctn_if (A B : Nat → Bool) (c : Nat → Prop) [DecidablePred c] (n : Nat) : ctn (fun p => if c p then A p else B p) n = ctn (fun p => A p && decide (c p)) n + (ctn B n - ctn (fun p => B p && decide (c p)) n) ∧ ctn (fun p => B p && decide (c p)) n ≤ ctn B n := by
  induction n with
  | zero => exact ⟨rfl, Nat.le_refl _⟩
  | succ n ih =>
    unfold ctn
    obtain ⟨i1, i2⟩ := ih
    by_cases z : c n
    · simp only [z, if_true, decide_true, Bool.and_true]
      omega
    · simp only [z, if_false, decide_false, Bool.and_false, Bool.false_eq_true]
      omega
theorem grp_one (a b : Int) {i : Nat} (hi : i < n) (he : gend X n i) : AL X n (uA X Y a b) (i + 1) + (ctn (uB X Y a b) n - AL X n (uB X Y a b) (i + 1)) = ctn (oneP X Y a b (X (sgm X n i))) n ∧ AL X n (uB X Y a b) (i + 1) + (ctn (uA X Y a b) n - AL X n (uA X Y a b) (i + 1)) = ctn (othP X Y a b (X (sgm X n i))) n := by
  rw [grp (uA X Y a b) hi he, grp (uB X Y a b) hi he]
  exact ⟨(ctn_if (uA X Y a b) (uB X Y a b) (fun p => X p ≤ X (sgm X n i)) n).1.symm, (ctn_if (uB X Y a b) (uA X Y a b) (fun p => X p ≤ X (sgm X n i)) n).1.symm⟩
end F5
