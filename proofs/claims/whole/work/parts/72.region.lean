/-! region -/
def S17 (o k : Nat) : Prop := o = 17 ∧ 8 ≤ k ∧ k ≤ 12
def rN (c : Cfg) (k : Int) : Nat → Nat
  | 0 => 0
  | t + 1 => if k ≤ dps c t then rN c k t + 1 else rN c k t
def rA (c : Cfg) (k : Int) : Nat → Int
  | 0 => 20
  | t + 1 => if k ≤ dps c t then min (rA c k t) (px c.2.1 t) else rA c k t
def rB (c : Cfg) (k : Int) : Nat → Int
  | 0 => -20
  | t + 1 => if k ≤ dps c t then max (rB c k t) (px c.2.1 t) else rB c k t
def rC (c : Cfg) (k : Int) : Nat → Int
  | 0 => 20
  | t + 1 => if k ≤ dps c t then min (rC c k t) (py c.2.1 t) else rC c k t
def rD (c : Cfg) (k : Int) : Nat → Int
  | 0 => -20
  | t + 1 => if k ≤ dps c t then max (rD c k t) (py c.2.1 t) else rD c k t
theorem pl_in {g t : Nat} (hg : g ≤ 20) (ht : t < wd g * wd g) : (-20 ≤ px g t ∧ px g t ≤ 20) ∧ (-20 ≤ py g t ∧ py g t ≤ 20) := by
  have h1 : t % wd g < wd g := Nat.mod_lt _ (by unfold wd; omega)
  have h2 : t / wd g < wd g := Nat.div_lt_of_lt_mul ht
  unfold px py
  have : wd g = 2 * g + 1 := rfl
  generalize t % wd g = a at *
  generalize t / wd g = b at *
  omega
theorem r_in {c : Cfg} (hg : c.2.1 ≤ 20) (k : Int) : ∀ t, t ≤ wd c.2.1 * wd c.2.1 → (-20 ≤ rA c k t ∧ rA c k t ≤ 20) ∧ (-20 ≤ rB c k t ∧ rB c k t ≤ 20) ∧ (-20 ≤ rC c k t ∧ rC c k t ≤ 20) ∧ (-20 ≤ rD c k t ∧ rD c k t ≤ 20) ∧ rN c k t ≤ t ∧ (rN c k t = 0 → rA c k t = 20 ∧ rB c k t = -20 ∧ rC c k t = 20 ∧ rD c k t = -20) := by
  intro t
  induction t with
  | zero => intro _; simp [rA, rB, rC, rD, rN]
  | succ t ih =>
    intro ht
    have i := ih (by omega)
    have p := pl_in hg (show t < _ by omega)
    unfold rA rB rC rD rN
    by_cases e : k ≤ dps c t
    · simp only [if_pos e]
      omega
    · simp only [if_neg e]
      omega
theorem jminI {a b : Int} (ha : InR a) (hb : InR b) : jmin (iI a) (iI b) = iI (min a b) := by
  unfold jmin
  simp only [iI_lt hb ha]
  by_cases e : b < a
  · rw [if_pos e]; congr 1; omega
  · rw [if_neg e]; congr 1; omega
theorem jmaxI {a b : Int} (ha : InR a) (hb : InR b) : jmax (iI a) (iI b) = iI (max a b) := by
  unfold jmax
  simp only [iI_lt ha hb]
  by_cases e : a < b
  · rw [if_pos e]; congr 1; omega
  · rw [if_neg e]; congr 1; omega
def BV (h : pH) (c : Cfg) (k : Int) (t : Nat) (h' : pH) : Prop := Fp S17 h h' ∧ hI h' 17 8 = nI (rN c k t) ∧ hI h' 17 9 = iI (rA c k t) ∧ hI h' 17 10 = iI (rB c k t) ∧ hI h' 17 11 = iI (rC c k t) ∧ hI h' 17 12 = iI (rD c k t)
theorem CC.fp {S : Nat → Nat → Prop} {h h' : pH} {o n g : Nat} {X Y : Nat → Int} (C : CC h o n g X Y) (A : Fp S h h') (h0 : ∀ k, ¬ S o k) (h1 : ∀ k, ¬ S (rf o 0) k) (h2 : ∀ k, ¬ S (rf o 1) k) : CC h' o n g X Y := ⟨by rw [A.1 _ _ (h0 _)]; exact C.1, by rw [A.1 _ _ (h0 _)]; exact C.2.1, fun i hi => by rw [A.1 _ _ (h1 _), A.1 _ _ (h2 _)]; exact C.2.2 i hi⟩
section RE
variable {h : pH} {c : Cfg}
theorem bound_ok (C : CCc h 8 c) (G : GCc c) (V : ∀ u, u < wd c.2.1 * wd c.2.1 → hI h 18 u = nI (dps c u)) (k : Int32) : ∃ h', f_Depths_bound 8 k h = some h' ∧ BV h c k.toInt (wd c.2.1 * wd c.2.1) h' := by
  have hn := G.1
  have hg : c.2.1 ≤ 20 := G.2.1.2
  have hw : wd c.2.1 ≤ 41 := by unfold wd; omega
  have cf : ∀ t h', BV h c k.toInt t h' → CC h' 8 c.1 c.2.1 c.2.2.1 c.2.2.2 := fun t h' S => CC.fp C S.1 (fun k e => by unfold S17 at e; omega) (fun k e => by rw [rf8_0] at e; unfold S17 at e; omega) (fun k e => by rw [rf8_1] at e; unfold S17 at e; omega)
  unfold f_Depths_bound
  refine lp_grid (f1 := fun s => f_Depths_bound_L1 8 k s.1 s.2.1 s.2.2) (fun j s => f_Depths_bound_L2 8 k (iI (-(c.2.1 : Int) + (j : Int))) s.1 s.2.1 s.2.2) (wd c.2.1) (fun j s => s.1 = nI (wd c.2.1 * j) ∧ s.2.1 = iI (-(c.2.1 : Int) + (j : Int)) ∧ BV h c k.toInt (wd c.2.1 * j) s.2.2) (fun j i s => s.1 = nI (wd c.2.1 * j + i) ∧ s.2.1 = iI (-(c.2.1 : Int) + (i : Int)) ∧ BV h c k.toInt (wd c.2.1 * j + i) s.2.2) _ hw ?_ ?_ ?_ ?_ ?_
  · rintro j ⟨a, b, h'⟩ hj ⟨rfl, rfl, S⟩
    have S : BV h c k.toInt (wd c.2.1 * j) h' := S
    have C' := cf _ _ S
    show ∃ s', f_Depths_bound_L1 8 k (nI (wd c.2.1 * j)) (iI (-(c.2.1 : Int) + (j : Int))) h' = _ ∧ _
    unfold f_Depths_bound_L1
    rw [C'.2.1, if_neg (fun x => by have := (g_end hg (by omega)).mp x; omega), ng0]
    exact ⟨_, rfl, rfl, rfl, S⟩
  · rintro ⟨a, b, h'⟩ ⟨rfl, rfl, S⟩
    have S : BV h c k.toInt (wd c.2.1 * wd c.2.1) h' := S
    have C' := cf _ _ S
    show ∃ s', f_Depths_bound_L1 8 k (nI (wd c.2.1 * wd c.2.1)) (iI (-(c.2.1 : Int) + (wd c.2.1 : Int))) h' = _ ∧ _
    unfold f_Depths_bound_L1
    rw [C'.2.1, if_pos ((g_end hg (Nat.le_refl _)).mpr rfl)]
    exact ⟨_, rfl, S⟩
  · rintro j i ⟨a, b, h'⟩ hj hi ⟨rfl, rfl, S⟩
    have S : BV h c k.toInt (wd c.2.1 * j + i) h' := S
    have C' := cf _ _ S
    have hl := wd_le hg hj hi
    show ∃ s' : Int32 × Int32 × pH, f_Depths_bound_L2 8 k (iI (-(c.2.1 : Int) + (j : Int))) (nI (wd c.2.1 * j + i)) (iI (-(c.2.1 : Int) + (i : Int))) h' = _ ∧ s'.1 = nI (wd c.2.1 * j + i + 1) ∧ s'.2.1 = iI (-(c.2.1 : Int) + ((i + 1 : Nat) : Int)) ∧ BV h c k.toInt (wd c.2.1 * j + i + 1) s'.2.2
    have ex := px_at c.2.1 j hi
    have ey := py_at c.2.1 j hi
    unfold f_Depths_bound_L2
    rw [C'.2.1, if_neg (fun x => by have := (g_end hg (by omega)).mp x; omega), nx1, ← ex, ← ey]
    generalize wd c.2.1 * j + i = t at *
    obtain ⟨s1, s2, s3, s4, s5, s6⟩ := S
    have v := V t hl.1
    have v' : hI h' 18 t = nI (dps c t) := by rw [s1.1 18 t (fun e => by unfold S17 at e; omega)]; exact v
    have l := dps_le c t
    obtain ⟨q1, q2, q3, q4, q5, q6⟩ := r_in hg k.toInt t (by omega)
    have p := pl_in hg hl.1
    rw [show (1681 : Int32) = nI 1681 from rfl, if_neg (lt_no (by omega) (by omega)), if_neg (gd (by omega) (by omega)), cla (by omega), v', nI_1]
    have cd : nI (dps c t) < k ↔ ¬ k.toInt ≤ dps c t := by
      conv => lhs; rw [iI_of k, nI_iI]
      rw [iI_lt (by unfold InR; omega) (InR_of k)]
      omega
    by_cases e : k.toInt ≤ dps c t
    · rw [if_neg (fun x => cd.mp x e)]
      have e8 : hI h' 17 8 + 1 = nI (rN c k.toInt (t + 1)) := by
        rw [s2, nI_1]
        conv => rhs; unfold rN
        rw [if_pos e]
      have e9 : jmin (hI h' 17 9) (iI (px c.2.1 t)) = iI (rA c k.toInt (t + 1)) := by
        rw [s3, jminI (by unfold InR; omega) (by unfold InR; omega)]
        conv => rhs; unfold rA
        rw [if_pos e]
      have e10 : jmax (hI h' 17 10) (iI (px c.2.1 t)) = iI (rB c k.toInt (t + 1)) := by
        rw [s4, jmaxI (by unfold InR; omega) (by unfold InR; omega)]
        conv => rhs; unfold rB
        rw [if_pos e]
      have e11 : jmin (hI h' 17 11) (iI (py c.2.1 t)) = iI (rC c k.toInt (t + 1)) := by
        rw [s5, jminI (by unfold InR; omega) (by unfold InR; omega)]
        conv => rhs; unfold rC
        rw [if_pos e]
      have e12 : jmax (hI h' 17 12) (iI (py c.2.1 t)) = iI (rD c k.toInt (t + 1)) := by
        rw [s6, jmaxI (by unfold InR; omega) (by unfold InR; omega)]
        conv => rhs; unfold rD
        rw [if_pos e]
      rw [e8]
      rw [hI_n (h := h') (o := 17) (k := 8) (a := 17) (b := 9) (by omega), e9]
      rw [hI_n (o := 17) (k := 9) (a := 17) (b := 10) (by omega), hI_n (h := h') (o := 17) (k := 8) (a := 17) (b := 10) (by omega), e10]
      rw [hI_n (o := 17) (k := 10) (a := 17) (b := 11) (by omega), hI_n (o := 17) (k := 9) (a := 17) (b := 11) (by omega), hI_n (h := h') (o := 17) (k := 8) (a := 17) (b := 11) (by omega), e11]
      rw [hI_n (o := 17) (k := 11) (a := 17) (b := 12) (by omega), hI_n (o := 17) (k := 10) (a := 17) (b := 12) (by omega), hI_n (o := 17) (k := 9) (a := 17) (b := 12) (by omega), hI_n (h := h') (o := 17) (k := 8) (a := 17) (b := 12) (by omega), e12]
      refine ⟨_, rfl, rfl, rfl, ((((s1.set ⟨rfl, by omega, by omega⟩).set ⟨rfl, by omega, by omega⟩).set ⟨rfl, by omega, by omega⟩).set ⟨rfl, by omega, by omega⟩).set ⟨rfl, by omega, by omega⟩, ?_, ?_, ?_, ?_, ?_⟩
      · rw [hI_n (by omega), hI_n (by omega), hI_n (by omega), hI_n (by omega), hI_s]
      · rw [hI_n (by omega), hI_n (by omega), hI_n (by omega), hI_s]
      · rw [hI_n (by omega), hI_n (by omega), hI_s]
      · rw [hI_n (by omega), hI_s]
      · rw [hI_s]
    · rw [if_pos (cd.mpr e)]
      refine ⟨_, rfl, rfl, rfl, s1, ?_, ?_, ?_, ?_, ?_⟩
      · show hI h' 17 8 = _
        rw [s2]
        conv => rhs; unfold rN
        rw [if_neg e]
      · show hI h' 17 9 = _
        rw [s3]
        conv => rhs; unfold rA
        rw [if_neg e]
      · show hI h' 17 10 = _
        rw [s4]
        conv => rhs; unfold rB
        rw [if_neg e]
      · show hI h' 17 11 = _
        rw [s5]
        conv => rhs; unfold rC
        rw [if_neg e]
      · show hI h' 17 12 = _
        rw [s6]
        conv => rhs; unfold rD
        rw [if_neg e]
  · rintro j ⟨a, b, h'⟩ hj ⟨rfl, rfl, S⟩
    have S : BV h c k.toInt (wd c.2.1 * j + wd c.2.1) h' := S
    have C' := cf _ _ S
    show ∃ s', f_Depths_bound_L2 8 k (iI (-(c.2.1 : Int) + (j : Int))) (nI (wd c.2.1 * j + wd c.2.1)) (iI (-(c.2.1 : Int) + (wd c.2.1 : Int))) h' = _ ∧ _
    unfold f_Depths_bound_L2
    rw [C'.2.1, if_pos ((g_end hg (Nat.le_refl _)).mpr rfl), nx1]
    exact ⟨_, rfl, by show _ = nI (wd c.2.1 * (j + 1)); rw [Nat.mul_add, Nat.mul_one], rfl, by show BV h c k.toInt (wd c.2.1 * (j + 1)) h'; rw [Nat.mul_add, Nat.mul_one]; exact S⟩
  · refine ⟨by rw [Nat.mul_zero]; rfl, ?_, ?_⟩
    · show -(hI (sI (sI (sI (sI (sI h 17 8 0) 17 9 20) 17 10 (-20)) 17 11 20) 17 12 (-20)) 8 3) = iI (-(c.2.1 : Int) + ((0 : Nat) : Int))
      rw [hI_n (by omega), hI_n (by omega), hI_n (by omega), hI_n (by omega), hI_n (by omega), C.2.1, ng0]
    · rw [Nat.mul_zero]
      refine ⟨((((Fp.rfl'.set ⟨rfl, by omega, by omega⟩).set ⟨rfl, by omega, by omega⟩).set ⟨rfl, by omega, by omega⟩).set ⟨rfl, by omega, by omega⟩).set ⟨rfl, by omega, by omega⟩, ?_, ?_, ?_, ?_, ?_⟩
      · show hI (sI (sI (sI (sI (sI h 17 8 0) 17 9 20) 17 10 (-20)) 17 11 20) 17 12 (-20)) 17 8 = _
        rw [hI_n (by omega), hI_n (by omega), hI_n (by omega), hI_n (by omega), hI_s]
        rfl
      · show hI (sI (sI (sI (sI (sI h 17 8 0) 17 9 20) 17 10 (-20)) 17 11 20) 17 12 (-20)) 17 9 = _
        rw [hI_n (by omega), hI_n (by omega), hI_n (by omega), hI_s]
        rfl
      · show hI (sI (sI (sI (sI (sI h 17 8 0) 17 9 20) 17 10 (-20)) 17 11 20) 17 12 (-20)) 17 10 = _
        rw [hI_n (by omega), hI_n (by omega), hI_s]
        rfl
      · show hI (sI (sI (sI (sI (sI h 17 8 0) 17 9 20) 17 10 (-20)) 17 11 20) 17 12 (-20)) 17 11 = _
        rw [hI_n (by omega), hI_s]
        rfl
      · show hI (sI (sI (sI (sI (sI h 17 8 0) 17 9 20) 17 10 (-20)) 17 11 20) 17 12 (-20)) 17 12 = _
        rw [hI_s]
        rfl
/-- the edge that the reference keeps -/
def selR (c : Cfg) (k : Int) (m t : Nat) : Int := if m = 1 then rA c k t else if m = 3 then rC c k t else if m = 4 then rD c k t else rB c k t
def edR (c : Cfg) (k : Int) (m t : Nat) : Int32 := if rN c k t = 0 then -100000 else iI (selR c k m t)
theorem ed_low {N : Nat} {a b : Int} (ha : -20 ≤ a ∧ a ≤ 20) (hb : -20 ≤ b ∧ b ≤ 20) (hN : N = 0 → b ≤ a) : (if (if N = 0 then (-100000 : Int32) else iI a) = -100000 then iI b else if (if N = 0 then (-100000 : Int32) else iI a) ≤ iI b then (if N = 0 then (-100000 : Int32) else iI a) else iI b) = iI (min a b) := by
  by_cases e : N = 0
  · have := hN e
    simp only [if_pos e]
    rw [if_pos trivial]
    congr 1
    omega
  · simp only [if_neg e]
    have ne : ¬ iI a = -100000 := by
      rw [show (-100000 : Int32) = iI (-100000) from rfl, iI_eq (by unfold InR; omega) (by unfold InR; omega)]
      omega
    rw [if_neg ne]
    simp only [iI_le (show InR a by unfold InR; omega) (show InR b by unfold InR; omega)]
    by_cases e2 : a ≤ b
    · rw [if_pos e2]; congr 1; omega
    · rw [if_neg e2]; congr 1; omega
theorem ed_high {N : Nat} {a b : Int} (ha : -20 ≤ a ∧ a ≤ 20) (hb : -20 ≤ b ∧ b ≤ 20) (hN : N = 0 → a ≤ b) : (if (if N = 0 then (-100000 : Int32) else iI a) = -100000 then iI b else if iI b ≤ (if N = 0 then (-100000 : Int32) else iI a) then (if N = 0 then (-100000 : Int32) else iI a) else iI b) = iI (max a b) := by
  by_cases e : N = 0
  · have := hN e
    simp only [if_pos e]
    rw [if_pos trivial]
    congr 1
    omega
  · simp only [if_neg e]
    have ne : ¬ iI a = -100000 := by
      rw [show (-100000 : Int32) = iI (-100000) from rfl, iI_eq (by unfold InR; omega) (by unfold InR; omega)]
      omega
    rw [if_neg ne]
    simp only [iI_le (show InR b by unfold InR; omega) (show InR a by unfold InR; omega)]
    by_cases e2 : b ≤ a
    · rw [if_pos e2]; congr 1; omega
    · rw [if_neg e2]; congr 1; omega
theorem J4_1 (x1 x2 x3 x4 x5 x6 x7 x8 : Int32) : f_R_region_J4 x1 x2 x3 x4 x5 x6 x7 x8 1 h = some (.inl (x4, (if x5 = -100000 then x8 else if x5 ≤ x8 then x5 else x8), x7 + 1)) := by
  unfold f_R_region_J4
  rw [if_neg (show ¬ (1 : Int32) = 0 by decide)]
  by_cases e : x5 = -100000
  · simp only [if_pos e]
  · simp only [if_neg e]
    by_cases e2 : x5 ≤ x8
    · simp only [if_pos e2]
    · simp only [if_neg e2]
theorem J4_0 (x1 x2 x3 x4 x5 x6 x7 x8 : Int32) : f_R_region_J4 x1 x2 x3 x4 x5 x6 x7 x8 0 h = some (.inl (x4, (if x5 = -100000 then x8 else if x8 ≤ x5 then x5 else x8), x7 + 1)) := by
  unfold f_R_region_J4
  rw [if_pos (show (0 : Int32) = 0 by decide)]
  by_cases e : x5 = -100000
  · simp only [if_pos e]
  · simp only [if_neg e]
    by_cases e2 : x8 ≤ x5
    · simp only [if_pos e2]
    · simp only [if_neg e2]
theorem R_region_ok (C : RRc h c) (G : GCc c) (k : Int32) {m : Nat} (hm : m < 5) : lp (fun s => f_R_region_L1 k (nI m) (nI c.2.1) h s.1 s.2.1 s.2.2) lpN (0, -100000, -(nI c.2.1)) = some (if m = 0 then nI (rN c k.toInt (wd c.2.1 * wd c.2.1)) else edR c k.toInt m (wd c.2.1 * wd c.2.1)) := by
  have hn := G.1
  have hg : c.2.1 ≤ 20 := G.2.1.2
  have hw : wd c.2.1 ≤ 41 := by unfold wd; omega
  obtain ⟨r, e1, e2⟩ := lp_grid (f1 := fun s => f_R_region_L1 k (nI m) (nI c.2.1) h s.1 s.2.1 s.2.2) (fun j s => f_R_region_L2 k (nI m) (nI c.2.1) (iI (-(c.2.1 : Int) + (j : Int))) h s.1 s.2.1 s.2.2) (wd c.2.1) (fun j s => s.1 = nI (rN c k.toInt (wd c.2.1 * j)) ∧ s.2.1 = edR c k.toInt m (wd c.2.1 * j) ∧ s.2.2 = iI (-(c.2.1 : Int) + (j : Int))) (fun j i s => s.1 = nI (rN c k.toInt (wd c.2.1 * j + i)) ∧ s.2.1 = edR c k.toInt m (wd c.2.1 * j + i) ∧ s.2.2 = iI (-(c.2.1 : Int) + (i : Int))) (fun r => r = if m = 0 then nI (rN c k.toInt (wd c.2.1 * wd c.2.1)) else edR c k.toInt m (wd c.2.1 * wd c.2.1)) hw (by
    rintro j ⟨a, b, d⟩ hj ⟨rfl, rfl, rfl⟩
    show ∃ s', f_R_region_L1 k (nI m) (nI c.2.1) h _ _ (iI (-(c.2.1 : Int) + (j : Int))) = _ ∧ _
    unfold f_R_region_L1
    rw [if_neg (fun x => by have := (g_end hg (by omega)).mp x; omega), ng0]
    exact ⟨_, rfl, rfl, rfl, rfl⟩) (by
    rintro ⟨a, b, d⟩ ⟨rfl, rfl, rfl⟩
    show ∃ s', f_R_region_L1 k (nI m) (nI c.2.1) h _ _ (iI (-(c.2.1 : Int) + (wd c.2.1 : Int))) = _ ∧ _
    unfold f_R_region_L1
    rw [if_pos ((g_end hg (Nat.le_refl _)).mpr rfl)]
    by_cases e : m = 0
    · subst e
      rw [if_pos (show nI 0 = 0 from rfl)]
      exact ⟨_, rfl, rfl⟩
    · rw [if_neg (fun x => e ((nI_z (by omega)).mp x)), if_neg e]
      exact ⟨_, rfl, rfl⟩) (by
    rintro j i ⟨a, b, d⟩ hj hi ⟨rfl, rfl, rfl⟩
    have hl := wd_le hg hj hi
    show ∃ s' : Int32 × Int32 × Int32, f_R_region_L2 k (nI m) (nI c.2.1) (iI (-(c.2.1 : Int) + (j : Int))) h (nI (rN c k.toInt (wd c.2.1 * j + i))) (edR c k.toInt m (wd c.2.1 * j + i)) (iI (-(c.2.1 : Int) + (i : Int))) = _ ∧ s'.1 = nI (rN c k.toInt (wd c.2.1 * j + i + 1)) ∧ s'.2.1 = edR c k.toInt m (wd c.2.1 * j + i + 1) ∧ s'.2.2 = iI (-(c.2.1 : Int) + ((i + 1 : Nat) : Int))
    have ex := px_at c.2.1 j hi
    have ey := py_at c.2.1 j hi
    unfold f_R_region_L2 f_R_region_J3
    have w1 : wd c.2.1 = 2 * c.2.1 + 1 := rfl
    rw [if_neg (fun x => by have := (g_end hg (by omega)).mp x; omega), R_depthOf_ok C G (x := -(c.2.1 : Int) + (i : Int)) (y := -(c.2.1 : Int) + (j : Int)) (by omega) (by omega)]
    simp only [Option.bind_some]
    have ed : dp c.1 c.2.2.1 c.2.2.2 (-(c.2.1 : Int) + (i : Int)) (-(c.2.1 : Int) + (j : Int)) = dps c (wd c.2.1 * j + i) := by unfold dps; rw [ex, ey]
    rw [ed, J4_1, J4_1, J4_0, J4_0, nx1, ← ex, ← ey, show (2 : Int32) = nI 2 from rfl, jrem_ok (by omega) (by omega) (by omega)]
    clear ed
    generalize wd c.2.1 * j + i = t at *
    have l := dps_le c t
    obtain ⟨q1, q2, q3, q4, q5, q6⟩ := r_in hg k.toInt t (by omega)
    have p := pl_in hg hl.1
    have cd : k ≤ nI (dps c t) ↔ k.toInt ≤ dps c t := by
      conv => lhs; rw [iI_of k, nI_iI]
      rw [iI_le (InR_of k) (by unfold InR; omega)]
    by_cases e : k.toInt ≤ dps c t
    · rw [if_pos (cd.mpr e)]
      have eN : rN c k.toInt (t + 1) = rN c k.toInt t + 1 := by
        conv => lhs; unfold rN
        rw [if_pos e]
      have eA : rA c k.toInt (t + 1) = min (rA c k.toInt t) (px c.2.1 t) := by
        conv => lhs; unfold rA
        rw [if_pos e]
      have eB : rB c k.toInt (t + 1) = max (rB c k.toInt t) (px c.2.1 t) := by
        conv => lhs; unfold rB
        rw [if_pos e]
      have eC : rC c k.toInt (t + 1) = min (rC c k.toInt t) (py c.2.1 t) := by
        conv => lhs; unfold rC
        rw [if_pos e]
      have eD : rD c k.toInt (t + 1) = max (rD c k.toInt t) (py c.2.1 t) := by
        conv => lhs; unfold rD
        rw [if_pos e]
      unfold edR selR
      rw [eN, eA, eB, eC, eD, nI_1, if_neg (show ¬ (rN c k.toInt t + 1 = 0) by omega)]
      have : m = 0 ∨ m = 1 ∨ m = 2 ∨ m = 3 ∨ m = 4 := by omega
      rcases this with rfl | rfl | rfl | rfl | rfl
      · rw [if_neg (by decide), if_neg (by decide)]
        exact ⟨_, rfl, rfl, ed_high q2 p.1 (fun z => by have := q6 z; omega), rfl⟩
      · rw [if_neg (by decide), if_pos (by decide)]
        exact ⟨_, rfl, rfl, ed_low q1 p.1 (fun z => by have := q6 z; omega), rfl⟩
      · rw [if_neg (by decide), if_neg (by decide)]
        exact ⟨_, rfl, rfl, ed_high q2 p.1 (fun z => by have := q6 z; omega), rfl⟩
      · rw [if_pos (by decide), if_pos (by decide)]
        exact ⟨_, rfl, rfl, ed_low q3 p.2 (fun z => by have := q6 z; omega), rfl⟩
      · rw [if_pos (by decide), if_neg (by decide)]
        exact ⟨_, rfl, rfl, ed_high q4 p.2 (fun z => by have := q6 z; omega), rfl⟩
    · rw [if_neg (fun x => e (cd.mp x))]
      unfold edR selR
      refine ⟨_, rfl, ?_, ?_, rfl⟩
      · conv => rhs; unfold rN
        rw [if_neg e]
      · conv => rhs; unfold rA rB rC rD rN
        simp only [if_neg e]) (by
    rintro j ⟨a, b, d⟩ hj ⟨rfl, rfl, rfl⟩
    show ∃ s', f_R_region_L2 k (nI m) (nI c.2.1) (iI (-(c.2.1 : Int) + (j : Int))) h _ _ (iI (-(c.2.1 : Int) + (wd c.2.1 : Int))) = _ ∧ _
    unfold f_R_region_L2
    rw [if_pos ((g_end hg (Nat.le_refl _)).mpr rfl), nx1]
    exact ⟨_, rfl, by show _ = nI (rN c k.toInt (wd c.2.1 * (j + 1))); rw [Nat.mul_add, Nat.mul_one], by show _ = edR c k.toInt m (wd c.2.1 * (j + 1)); rw [Nat.mul_add, Nat.mul_one], rfl⟩) (s := (0, -100000, -(nI c.2.1))) ⟨by rw [Nat.mul_zero]; rfl, by rw [Nat.mul_zero]; rfl, ng0 _⟩
  rw [e1, e2]
end RE
section RS
variable {KC KE : pH → Cfg → Prop}
theorem s17_c : ∀ o k, S17 o k → ¬ Rc o k := fun o k x y => by unfold S17 at x; unfold Rc Pl Pu Ps Pt at y; omega
theorem s17_r : ∀ o k, S17 o k → ¬ Rr o k := fun o k x y => by have := Rr_ge y; unfold S17 at x; omega
theorem sp_region (hKC : Kst KC) (hKE : Kst KE) (sC : ∀ h h' c, (∀ k, hI h' 23 k = hI h 23 k) → KC h c → KC h' c) (sE : ∀ h h' c, (∀ k, hI h' 26 k = hI h 26 k) → KE h c → KE h' c) : Sp_region (JJ KC KDd KE) := by
  intro k h hk512 H a0 a1
  have H0 := H
  obtain ⟨c, und, P, S, len, B, pl, gs, vc, vr⟩ := H
  have G := gs.1
  have hg : c.2.1 ≤ 20 := G.2.1.2
  have i4 : f_R_in a1 0 4 = _ := in_ok a1 (lo := 0) (hi := 4) (by unfold InR; omega) (by unfold InR; omega)
  have le4 : a1 ≤ 4 ↔ a1.toInt ≤ 4 := by
    conv => lhs; rw [iI_of a1, show (4 : Int32) = iI 4 from rfl]
    rw [iI_le (InR_of a1) (by unfold InR; omega)]
  unfold f_C_region f_R_region
  simp only [i4, lt0x, le4]
  by_cases q : 0 ≤ a1.toInt ∧ a1.toInt ≤ 4
  · obtain ⟨m, hm, rfl⟩ := pt_nat (n := 5) q.1 (by omega)
    obtain ⟨h1, e1, f1, e3, kd⟩ := survey_ok (by omega) vc.1 G
    have vc1 := vc.sv sC sE f1 e3 kd
    have vr1 := vr.fs gs f1 (by decide)
    obtain ⟨h2, d1, d2, d3, d4, d5, d6, d7⟩ := bound_ok vc1.cc G kd.2.2.2.2 a0
    have vc2 := vc1.fp hKC Kst_KDd hKE (Nat.le_refl _) d2 s17_c
    have vr2 := vr1.fp gs d2 s17_r
    rw [if_neg (by omega), if_pos q.2, e1]
    simp only [Option.bind_some]
    rw [d1]
    simp only [Option.bind_some]
    have r := R_region_ok vr2.1 G a0 hm
    have hz := r_in hg a0.toInt (wd c.2.1 * wd c.2.1) (Nat.le_refl _)
    have w2 : wd c.2.1 * wd c.2.1 ≤ 1681 := by
      have := Nat.mul_le_mul (show wd c.2.1 ≤ 41 by unfold wd; omega) (show wd c.2.1 ≤ 41 by unfold wd; omega)
      omega
    rw [d3, d4, d5, d6, d7]
    generalize wd c.2.1 * wd c.2.1 = T at *
    have done : JJ KC KDd KE (k + 1) h2 := ⟨c, und, P, S, len, B, pl, gs, vc2, vr2⟩
    have hc : nI (rN c a0.toInt T) = 0 ↔ rN c a0.toInt T = 0 := nI_eqI (b := 0) (by omega) (by omega)
    have fin : ∀ v : Int32, v = (if m = 0 then nI (rN c a0.toInt T) else edR c a0.toInt m T) → (if (if 0 ≤ (nI m).toInt ∧ (nI m).toInt ≤ 4 then (1 : Int32) else 0) = 0 then some (-100000) else lp (fun s => f_R_region_L1 a0 (nI m) (hI h2 87 1) h2 s.1 s.2.1 s.2.2) lpN (0, -100000, -(hI h2 87 1))) = some v := by
      intro v hv
      rw [if_pos q, if_neg (by decide), vr2.1.2.1, hv]
      exact r
    have : m = 0 ∨ m = 1 ∨ m = 2 ∨ m = 3 ∨ m = 4 := by omega
    by_cases z : rN c a0.toInt T = 0
    · rw [if_pos (hc.mpr z)]
      rcases this with rfl | rfl | rfl | rfl | rfl
      · exact ⟨_, h2, rfl, fin _ rfl, done⟩
      · exact ⟨_, h2, rfl, fin _ (by unfold edR; rw [if_pos z]; rfl), done⟩
      · exact ⟨_, h2, rfl, fin _ (by unfold edR; rw [if_pos z]; rfl), done⟩
      · exact ⟨_, h2, rfl, fin _ (by unfold edR; rw [if_pos z]; rfl), done⟩
      · exact ⟨_, h2, rfl, fin _ (by unfold edR; rw [if_pos z]; rfl), done⟩
    · rw [if_neg (fun x => z (hc.mp x))]
      rcases this with rfl | rfl | rfl | rfl | rfl
      · exact ⟨_, h2, rfl, fin _ rfl, done⟩
      · exact ⟨_, h2, rfl, fin _ (by unfold edR; rw [if_neg z]; rfl), done⟩
      · exact ⟨_, h2, rfl, fin _ (by unfold edR; rw [if_neg z]; rfl), done⟩
      · exact ⟨_, h2, rfl, fin _ (by unfold edR; rw [if_neg z]; rfl), done⟩
      · exact ⟨_, h2, rfl, fin _ (by unfold edR; rw [if_neg z]; rfl), done⟩
  · refine ⟨-100000, h, ?_, ?_, H0.mono hKC Kst_KDd hKE⟩
    · by_cases q1 : a1.toInt < 0
      · rw [if_pos q1]
      · rw [if_neg q1, if_neg (by omega)]
    · rw [if_neg q, if_pos rfl]
end RS
