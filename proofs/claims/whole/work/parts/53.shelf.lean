/-! rows kept and given -/
def kpF (h : pH) (r : Nat) (c : Cfg) : Nat → pH
  | 0 => sI (sI h r 0 (nI c.2.1)) r 1 (nI c.1)
  | k + 1 => sI (sI (kpF h r c k) r (2 + 2 * k) (iI (c.2.2.1 k))) r (3 + 2 * k) (iI (c.2.2.2 k))
theorem kpF_fr {h : pH} {r : Nat} {c : Cfg} {o a : Nat} (hn : o ≠ r) : ∀ k, hI (kpF h r c k) o a = hI h o a
  | 0 => by show hI (sI (sI h r 0 _) r 1 _) o a = _; rw [hI_n (by omega), hI_n (by omega)]
  | k + 1 => by show hI (sI (sI _ r _ _) r _ _) o a = _; rw [hI_n (by omega), hI_n (by omega)]; exact kpF_fr hn k
theorem kpF_l {h : pH} {r : Nat} {c : Cfg} : ∀ k, (kpF h r c k).2 = h.2
  | 0 => rfl
  | k + 1 => kpF_l k
theorem kpF_01 {h : pH} {r : Nat} {c : Cfg} : ∀ k, hI (kpF h r c k) r 0 = nI c.2.1 ∧ hI (kpF h r c k) r 1 = nI c.1
  | 0 => ⟨by show hI (sI (sI h r 0 _) r 1 _) r 0 = _; rw [hI_n (by omega), hI_s], by show hI (sI (sI h r 0 _) r 1 _) r 1 = _; rw [hI_s]⟩
  | k + 1 => by
    have := kpF_01 (h := h) (r := r) (c := c) k
    constructor
    · show hI (sI (sI _ r _ _) r _ _) r 0 = _
      rw [hI_n (by omega), hI_n (by omega)]; exact this.1
    · show hI (sI (sI _ r _ _) r _ _) r 1 = _
      rw [hI_n (by omega), hI_n (by omega)]; exact this.2
theorem kpF_at {h : pH} {r : Nat} {c : Cfg} : ∀ (k j : Nat), j < k → hI (kpF h r c k) r (2 + 2 * j) = iI (c.2.2.1 j) ∧ hI (kpF h r c k) r (3 + 2 * j) = iI (c.2.2.2 j)
  | k + 1, j, hj => by
    by_cases e : j = k
    · subst e
      constructor
      · show hI (sI (sI _ r _ _) r _ _) r (2 + 2 * j) = _
        rw [hI_n (by omega), hI_s]
      · show hI (sI (sI _ r _ _) r _ _) r (3 + 2 * j) = _
        rw [hI_s]
    · have := kpF_at (h := h) (r := r) (c := c) k j (by omega)
      constructor
      · show hI (sI (sI _ r _ _) r _ _) r (2 + 2 * j) = _
        rw [hI_n (by omega), hI_n (by omega)]; exact this.1
      · show hI (sI (sI _ r _ _) r _ _) r (3 + 2 * j) = _
        rw [hI_n (by omega), hI_n (by omega)]; exact this.2
theorem kpF_row {h : pH} {r : Nat} {c : Cfg} : Row (kpF h r c c.1) r c := ⟨(kpF_01 _).1, (kpF_01 _).2, fun i hi => kpF_at c.1 i hi⟩
theorem ix2 (k : Nat) : (2 : Int32) + 2 * nI k = nI (2 + 2 * k) := by rw [show (2 : Int32) = nI 2 from rfl, pk_mul, nI_add]
theorem ix3 (k : Nat) : (3 : Int32) + 2 * nI k = nI (3 + 2 * k) := by rw [show (3 : Int32) = nI 3 from rfl, show (2 : Int32) = nI 2 from rfl, pk_mul, nI_add]
theorem keep_ok {h : pH} {c : Cfg} (C : CCc h 8 c) (hn : c.1 ≤ 12) {o0 N j r : Nat} (hN : cx (rf o0 0) = N) (hN2 : N ≤ 40) (hj : j < N) (hr : rf (rf o0 0) j = r) (h8 : r ≠ 8 ∧ r ≠ 9 ∧ r ≠ 10) : f_Shelf_keep o0 (nI j) 8 h = some (kpF h r c c.1) := by
  have C8 := CCc_8.mp C
  unfold f_Shelf_keep
  rw [if_neg (nI_pos (by omega)), hN, if_neg (show ¬ Int32.ofNat N ≤ nI j from lt_no hj (by omega)), if_neg (gd hj (by omega)), cla (by omega), hr]
  rw [hI_n (by omega), C8.1, C8.2.1]
  have hrun := lp_run (f := fun s => f_Shelf_keep_L1 o0 8 r s.1 s.2) (fun k => (nI k, kpF h r c k)) c.1 (r := kpF h r c c.1) (fun k hk => ?_) ?_ (n := lpN) (by unfold lpN; omega)
  · exact hrun
  · show f_Shelf_keep_L1 o0 8 r (nI k) (kpF h r c k) = some (.inl (nI (k + 1), kpF h r c (k + 1)))
    unfold f_Shelf_keep_L1
    rw [kpF_fr (by omega), C8.1, if_neg (lt_no hk (by omega)), if_neg (gd (by omega) (by omega)), ix2, ix3, if_neg (gd (by omega) (by omega)), if_neg (gd (by omega) (by omega)), cla (by omega), cla (by omega), cla (by omega), rf8_0, rf8_1, kpF_fr (by omega), (C8.2.2 k hk).1, hI_n (by omega), kpF_fr (by omega), (C8.2.2 k hk).2, nI_1]
    rfl
  · show f_Shelf_keep_L1 o0 8 r (nI c.1) _ = _
    unfold f_Shelf_keep_L1
    rw [kpF_fr (by omega), C8.1, if_pos (ge_yes (Nat.le_refl _) (by omega))]
theorem cx31 : cx (rf 31 0) = 40 := by decide +kernel
theorem cx73 : cx (rf 73 0) = 3 := by decide +kernel
theorem rf31 : ∀ j, j < 40 → rf (rf 31 0) j = 33 + j := by decide +kernel
theorem rf73 : ∀ j, j < 3 → rf (rf 73 0) j = 75 + j := by decide +kernel
/-- what can be undone, with one more -/
def pushP (und : Nat) (P : Nat → Cfg) (c : Cfg) : Nat → Cfg := fun i => if und < 40 then (if i = und then c else P i) else (if i = 39 then c else P (i + 1))
def pushU (und : Nat) : Nat := if und < 40 then und + 1 else 40
theorem jrem_ok {a b : Nat} (ha : a ≤ 100000) (h0 : 0 < b) (hb : b ≤ 100000) : jrem (nI a) (nI b) = nI (a % b) := pk_rem (by omega) h0 (by omega)
theorem jmin_ok {a b : Nat} (ha : a ≤ 100000) (hb : b ≤ 100000) : jmin (nI a) (nI b) = nI (min a b) := by
  unfold jmin
  simp only [nI_ltI (show b < 2 ^ 31 by omega) (show a < 2 ^ 31 by omega)]
  split
  · rw [Nat.min_eq_right (by omega)]
  · rw [Nat.min_eq_left (by omega)]
theorem remember_ok {h : pH} {c : Cfg} (C : CCc h 8 c) (hn : c.1 ≤ 12) {und : Nat} {P : Nat → Cfg} (hu : und ≤ 40) (U : VCu h und P) : ∃ h', f_C_rememberPast h = some h' ∧ VCu h' (pushU und) (pushP und P c) ∧ (∀ o k, ¬ Pu o k → hI h' o k = hI h o k) ∧ h'.2 = h.2 := by
  obtain ⟨np, ⟨u1, u2, u3⟩, hp⟩ := U
  unfold f_C_rememberPast
  rw [u2, keep_ok C hn cx31 (by decide) u3 (rf31 np u3) (by omega)]
  simp only [Option.bind_some]
  have e1 : hI (kpF h (33 + np) c c.1) 0 14 = nI np := by rw [kpF_fr (by omega)]; exact u2
  have e2 : hI (kpF h (33 + np) c c.1) 0 13 = nI und := by rw [kpF_fr (by omega)]; exact u1
  rw [e1, nI_1, show (40 : Int32) = nI 40 from rfl, jrem_ok (by omega) (by decide) (by decide), hI_n (by omega), e2, nI_1, jmin_ok (by omega) (by decide)]
  refine ⟨_, rfl, ⟨(np + 1) % 40, ⟨?_, ?_, Nat.mod_lt _ (by decide)⟩, fun i hi => ?_⟩, fun o k hr => ?_, ?_⟩
  · rw [hI_s]
    unfold pushU
    split
    · rw [Nat.min_eq_left (by omega)]
    · rw [Nat.min_eq_right (by omega)]
  · rw [hI_n (by omega), hI_s]
  · have hm : ((np + 1) % 40 + 40 - pushU und + i) % 40 < 40 := Nat.mod_lt _ (by decide)
    refine Row.fr (h := kpF h (33 + np) c c.1) (fun k => by rw [hI_n (by omega), hI_n (by omega)]) ?_
    unfold pushU at hi ⊢
    unfold pushP
    by_cases hlt : und < 40
    · rw [if_pos hlt] at hi ⊢
      rw [if_pos hlt]
      by_cases ei : i = und
      · rw [if_pos ei, show ((np + 1) % 40 + 40 - (und + 1) + i) % 40 = np by omega]
        exact kpF_row
      · rw [if_neg ei, show ((np + 1) % 40 + 40 - (und + 1) + i) % 40 = (np + 40 - und + i) % 40 by omega]
        exact (hp i (by omega)).fr (fun k => kpF_fr (by omega) _)
    · rw [if_neg hlt] at hi ⊢
      rw [if_neg hlt]
      have hu40 : und = 40 := by omega
      by_cases ei : i = 39
      · rw [if_pos ei, show ((np + 1) % 40 + 40 - 40 + i) % 40 = np by omega]
        exact kpF_row
      · rw [if_neg ei, show ((np + 1) % 40 + 40 - 40 + i) % 40 = (np + 40 - und + (i + 1)) % 40 by omega]
        exact (hp (i + 1) (by omega)).fr (fun k => kpF_fr (by omega) _)
  · unfold Pu at hr
    rw [hI_n (by omega), hI_n (by omega), kpF_fr (by omega)]
  · exact kpF_l c.1
