/-! turned, mirrored, given -/
def trnC (c : Cfg) (m : Bool) : Cfg := (c.1, c.2.1, fun i => if m then -(c.2.2.1 i) else -(c.2.2.2 i), fun i => if m then c.2.2.2 i else c.2.2.1 i)
def trnK (c : Cfg) (m : Bool) (k : Nat) : Cfg := (c.1, c.2.1, fun i => if i < k then (trnC c m).2.2.1 i else c.2.2.1 i, fun i => if i < k then (trnC c m).2.2.2 i else c.2.2.2 i)
section CH
variable {h : pH} {o a b : Nat} {c : Cfg}
theorem trnK_0 (m : Bool) (C : CCc h o c) : CCc h o (trnK c m 0) := C.cong rfl rfl (fun i _ => ⟨by simp [trnK], by simp [trnK]⟩)
theorem trnK_n (m : Bool) (C : CCc h o (trnK c m c.1)) : CCc h o (trnC c m) := C.cong rfl rfl (fun i hi => by
  have hi : i < c.1 := hi
  exact ⟨by simp [trnK, hi], by simp [trnK, hi]⟩)
theorem trnK_s (m : Bool) {k : Nat} {x y : Int} (hx : x = (trnC c m).2.2.1 k) (hy : y = (trnC c m).2.2.2 k) (C : CCc h o (movC (trnK c m k) k x y)) : CCc h o (trnK c m (k + 1)) := C.cong rfl rfl (fun i _ => by
  subst hx hy
  by_cases e : i = k
  · subst e
    exact ⟨by simp [trnK, movC, updF], by simp [trnK, movC, updF]⟩
  · have hc : i < k + 1 ↔ i < k := by omega
    exact ⟨by simp [trnK, movC, updF, e, hc], by simp [trnK, movC, updF, e, hc]⟩)
theorem quarter_ok (hO : Ob o a b) (C : CCc h o c) (hn : c.1 ≤ 12) : ∃ h', f_Cloud_turnQuarter o h = some h' ∧ CCc h' o (trnC c false) ∧ hI h' o 4 = hI h o 4 + nI c.1 ∧ Fr3 o a b h h' := by
  unfold f_Cloud_turnQuarter
  refine lp_inv (f := fun s => f_Cloud_turnQuarter_L1 o s.1 s.2) (fun k s => s.1 = nI k ∧ CCc s.2 o (trnK c false k) ∧ hI s.2 o 4 = hI h o 4 + nI k ∧ Fr3 o a b h s.2) (fun h' => CCc h' o (trnC c false) ∧ hI h' o 4 = hI h o 4 + nI c.1 ∧ Fr3 o a b h h') c.1 ?_ ?_ ⟨rfl, trnK_0 false C, by show hI h o 4 = hI h o 4 + 0; simp, Fr3.rfl'⟩ (by unfold lpN; omega)
  · rintro k ⟨x, h'⟩ hk ⟨rfl, d1, d2, d3⟩
    have d1 : CCc h' o (trnK c false k) := d1
    have d2 : hI h' o 4 = hI h o 4 + nI k := d2
    have d3 : Fr3 o a b h h' := d3
    show ∃ s', f_Cloud_turnQuarter_L1 o (nI k) h' = some (.inl s') ∧ _
    unfold f_Cloud_turnQuarter_L1
    have dn : hI h' o 2 = nI c.1 := d1.1
    have dk := d1.2.2 k hk
    have dx : hI h' (rf o 0) k = iI (c.2.2.1 k) := by rw [dk.1]; simp [trnK]
    have dy : hI h' (rf o 1) k = iI (c.2.2.2 k) := by rw [dk.2]; simp [trnK]
    rw [dn, if_neg (lt_no hk (by omega)), if_neg (gd (by omega) (by omega)), cla (by omega), dx, dy, iI_neg]
    obtain ⟨h2, e1, e2, e3, e4⟩ := put_ok hO d1 hn (p := k) hk (-(c.2.2.2 k)) (c.2.2.1 k)
    rw [e1]
    refine ⟨(nI (k + 1), h2), by rw [nI_1]; rfl, rfl, trnK_s false (by simp [trnC]) (by simp [trnC]) e2, ?_, d3.trans e4⟩
    show hI h2 o 4 = _
    rw [e3, d2, Int32.add_assoc, nI_add]
  · rintro ⟨x, h'⟩ ⟨rfl, d1, d2, d3⟩
    have d1 : CCc h' o (trnK c false c.1) := d1
    show ∃ r, f_Cloud_turnQuarter_L1 o (nI c.1) h' = some (.inr r) ∧ _
    unfold f_Cloud_turnQuarter_L1
    have dn : hI h' o 2 = nI c.1 := d1.1
    rw [dn, if_pos (ge_yes (Nat.le_refl _) (by omega))]
    exact ⟨_, rfl, trnK_n false d1, d2, d3⟩
theorem mirror_ok (hO : Ob o a b) (C : CCc h o c) (hn : c.1 ≤ 12) : ∃ h', f_Cloud_mirror o h = some h' ∧ CCc h' o (trnC c true) ∧ hI h' o 4 = hI h o 4 + nI c.1 ∧ Fr3 o a b h h' := by
  unfold f_Cloud_mirror
  refine lp_inv (f := fun s => f_Cloud_mirror_L1 o s.1 s.2) (fun k s => s.1 = nI k ∧ CCc s.2 o (trnK c true k) ∧ hI s.2 o 4 = hI h o 4 + nI k ∧ Fr3 o a b h s.2) (fun h' => CCc h' o (trnC c true) ∧ hI h' o 4 = hI h o 4 + nI c.1 ∧ Fr3 o a b h h') c.1 ?_ ?_ ⟨rfl, trnK_0 true C, by show hI h o 4 = hI h o 4 + 0; simp, Fr3.rfl'⟩ (by unfold lpN; omega)
  · rintro k ⟨x, h'⟩ hk ⟨rfl, d1, d2, d3⟩
    have d1 : CCc h' o (trnK c true k) := d1
    have d2 : hI h' o 4 = hI h o 4 + nI k := d2
    have d3 : Fr3 o a b h h' := d3
    show ∃ s', f_Cloud_mirror_L1 o (nI k) h' = some (.inl s') ∧ _
    unfold f_Cloud_mirror_L1
    have dn : hI h' o 2 = nI c.1 := d1.1
    have dk := d1.2.2 k hk
    have dx : hI h' (rf o 0) k = iI (c.2.2.1 k) := by rw [dk.1]; simp [trnK]
    have dy : hI h' (rf o 1) k = iI (c.2.2.2 k) := by rw [dk.2]; simp [trnK]
    rw [dn, if_neg (lt_no hk (by omega)), if_neg (gd (by omega) (by omega)), cla (by omega), dx, dy, iI_neg]
    obtain ⟨h2, e1, e2, e3, e4⟩ := put_ok hO d1 hn (p := k) hk (-(c.2.2.1 k)) (c.2.2.2 k)
    rw [e1]
    refine ⟨(nI (k + 1), h2), by rw [nI_1]; rfl, rfl, trnK_s true (by simp [trnC]) (by simp [trnC]) e2, ?_, d3.trans e4⟩
    show hI h2 o 4 = _
    rw [e3, d2, Int32.add_assoc, nI_add]
  · rintro ⟨x, h'⟩ ⟨rfl, d1, d2, d3⟩
    have d1 : CCc h' o (trnK c true c.1) := d1
    show ∃ r, f_Cloud_mirror_L1 o (nI c.1) h' = some (.inr r) ∧ _
    unfold f_Cloud_mirror_L1
    have dn : hI h' o 2 = nI c.1 := d1.1
    rw [dn, if_pos (ge_yes (Nat.le_refl _) (by omega))]
    exact ⟨_, rfl, trnK_n true d1, d2, d3⟩
theorem clear_ok : (CCc (f_Cloud_clear o h) o (0, 10, fun _ => 0, fun _ => 0) ∧ hI (f_Cloud_clear o h) o 4 = hI h o 4 + nI 1) ∧ Fr3 o a b h (f_Cloud_clear o h) := by
  unfold f_Cloud_clear
  refine ⟨⟨⟨?_, ?_, fun i hi => absurd hi (by show ¬ i < 0; omega)⟩, ?_⟩, ((Fr3.rfl'.set (by omega)).set (by omega)).set (by omega)⟩
  · rw [hI_n (by omega), hI_n (by omega), hI_s]; rfl
  · rw [hI_n (by omega), hI_s]; rfl
  · rw [hI_s, hI_n (by omega), hI_n (by omega)]; rfl
theorem give_ok (hO : Ob o a b) {d : Cfg} (hd : d.1 ≤ 12) {o0 N j r : Nat} (hN : cx (rf o0 0) = N) (hN2 : N ≤ 40) (hj : j < N) (hr : rf (rf o0 0) j = r) (h8 : r ≠ o ∧ r ≠ a ∧ r ≠ b) (R : Row h r d) : ∃ h', f_Shelf_give o0 (nI j) o h = some h' ∧ CCc h' o d ∧ hI h' o 4 = hI h o 4 + nI (1 + d.1) ∧ Fr3 o a b h h' := by
  unfold f_Shelf_give
  rw [if_neg (nI_pos (by omega)), hN, if_neg (show ¬ Int32.ofNat N ≤ nI j from lt_no hj (by omega)), if_neg (gd hj (by omega)), cla (by omega), hr]
  obtain ⟨⟨q1, q2⟩, q3⟩ := clear_ok (h := h) (o := o) (a := a) (b := b)
  rw [q3.1 r 0 h8.1 h8.2.1 h8.2.2, R.1]
  refine lp_inv (f := fun s => f_Shelf_give_L1 o0 o r s.1 s.2) (fun k s => s.1 = nI k ∧ CCc s.2 o (k, d.2.1, d.2.2.1, d.2.2.2) ∧ hI s.2 o 4 = hI h o 4 + nI (1 + k) ∧ Fr3 o a b h s.2) (fun h' => CCc h' o d ∧ hI h' o 4 = hI h o 4 + nI (1 + d.1) ∧ Fr3 o a b h h') d.1 ?_ ?_ ⟨rfl, ⟨?_, ?_, fun i hi => absurd hi (by show ¬ i < 0; omega)⟩, ?_, q3.set (by omega)⟩ (by unfold lpN; omega)
  · rintro k ⟨x, h'⟩ hk ⟨rfl, d1, d2, d3⟩
    have d1 : CCc h' o (k, d.2.1, d.2.2.1, d.2.2.2) := d1
    have d2 : hI h' o 4 = hI h o 4 + nI (1 + k) := d2
    have d3 : Fr3 o a b h h' := d3
    show ∃ s', f_Shelf_give_L1 o0 o r (nI k) h' = some (.inl s') ∧ _
    unfold f_Shelf_give_L1
    have f1 : ∀ k', hI h' r k' = hI h r k' := fun k' => d3.1 r k' h8.1 h8.2.1 h8.2.2
    rw [f1, R.2.1, show (12 : Int32) = nI 12 from rfl, if_neg (lt_no (by omega) (by omega)), if_neg (lt_no hk (by omega)), ix2, ix3, if_neg (gd (by omega) (by omega)), if_neg (gd (by omega) (by omega)), cla (by omega), cla (by omega), f1, f1, (R.2.2 k hk).1, (R.2.2 k hk).2]
    obtain ⟨h2, e1, e2, e3, e4⟩ := append_ok hO d1 (by show k < 12; omega) (d.2.2.1 k) (d.2.2.2 k)
    rw [e1]
    refine ⟨(nI (k + 1), h2), by rw [nI_1]; rfl, rfl, ?_, ?_, d3.trans e4⟩
    · refine e2.cong rfl rfl (fun i _ => ?_)
      by_cases e : i = k
      · subst e; exact ⟨by simp [addC, updF], by simp [addC, updF]⟩
      · exact ⟨by simp [addC, updF, e], by simp [addC, updF, e]⟩
    · show hI h2 o 4 = _
      rw [e3, d2, Int32.add_assoc, nI_add]
      rfl
  · rintro ⟨x, h'⟩ ⟨rfl, d1, d2, d3⟩
    have d3 : Fr3 o a b h h' := d3
    show ∃ r', f_Shelf_give_L1 o0 o r (nI d.1) h' = some (.inr r') ∧ _
    unfold f_Shelf_give_L1
    have f1 : ∀ k', hI h' r k' = hI h r k' := fun k' => d3.1 r k' h8.1 h8.2.1 h8.2.2
    rw [f1, R.2.1, show (12 : Int32) = nI 12 from rfl]
    by_cases e : d.1 = 12
    · rw [if_pos (ge_yes (by omega) (by omega))]
      exact ⟨_, rfl, d1, d2, d3⟩
    · rw [if_neg (lt_no (by omega) (by omega)), if_pos (ge_yes (Nat.le_refl _) (by omega))]
      exact ⟨_, rfl, d1, d2, d3⟩
  · show hI (sI _ _ _ _) _ _ = _
    rw [hI_n (by omega)]; exact q1.1
  · show hI (sI _ _ _ _) _ _ = _
    rw [hI_s]
  · show hI (sI _ _ _ _) _ _ = _
    rw [hI_n (by omega)]; exact q2
theorem takeFrom_ok (hO : Ob o a b) {d : Cfg} (hd : d.1 ≤ 12) {u ua ub : Nat} (hU : rf u 0 = ua ∧ rf u 1 = ub) (h8 : (u ≠ o ∧ u ≠ a ∧ u ≠ b) ∧ (ua ≠ o ∧ ua ≠ a ∧ ua ≠ b) ∧ ub ≠ o ∧ ub ≠ a ∧ ub ≠ b) (R : CCc h u d) : ∃ h', f_Cloud_takeFrom o u h = some h' ∧ CCc h' o d ∧ hI h' o 4 = hI h o 4 + nI (1 + d.1) ∧ Fr3 o a b h h' := by
  unfold f_Cloud_takeFrom
  obtain ⟨⟨q1, q2⟩, q3⟩ := clear_ok (h := h) (o := o) (a := a) (b := b)
  obtain ⟨r1, r2, r3⟩ := R
  rw [hU.1, hU.2] at r3
  refine lp_inv (f := fun s => f_Cloud_takeFrom_L1 o u s.1 s.2) (fun k s => s.1 = nI k ∧ (CCc s.2 o (k, 10, d.2.2.1, d.2.2.2)) ∧ hI s.2 o 4 = hI h o 4 + nI (1 + k) ∧ Fr3 o a b h s.2) (fun h' => CCc h' o d ∧ hI h' o 4 = hI h o 4 + nI (1 + d.1) ∧ Fr3 o a b h h') d.1 ?_ ?_ ⟨rfl, ⟨q1.1, q1.2.1, fun i hi => absurd hi (by show ¬ i < 0; omega)⟩, q2, q3⟩ (by unfold lpN; omega)
  · rintro k ⟨x, h'⟩ hk ⟨rfl, d1, d2, d3⟩
    have d1 : CCc h' o (k, 10, d.2.2.1, d.2.2.2) := d1
    have d2 : hI h' o 4 = hI h o 4 + nI (1 + k) := d2
    have d3 : Fr3 o a b h h' := d3
    show ∃ s', f_Cloud_takeFrom_L1 o u (nI k) h' = some (.inl s') ∧ _
    unfold f_Cloud_takeFrom_L1
    rw [d3.1 u _ h8.1.1 h8.1.2.1 h8.1.2.2, r1, if_neg (lt_no hk (by omega)), if_neg (gd (by omega) (by omega)), cla (by omega), hU.1, hU.2, d3.1 ua _ h8.2.1.1 h8.2.1.2.1 h8.2.1.2.2, d3.1 ub _ h8.2.2.1 h8.2.2.2.1 h8.2.2.2.2, (r3 k hk).1, (r3 k hk).2]
    obtain ⟨h2, e1, e2, e3, e4⟩ := append_ok hO d1 (by show k < 12; omega) (d.2.2.1 k) (d.2.2.2 k)
    rw [e1]
    refine ⟨(nI (k + 1), h2), by rw [nI_1]; rfl, rfl, ?_, ?_, d3.trans e4⟩
    · refine e2.cong rfl rfl (fun i _ => ?_)
      by_cases e : i = k
      · subst e; exact ⟨by simp [addC, updF], by simp [addC, updF]⟩
      · exact ⟨by simp [addC, updF, e], by simp [addC, updF, e]⟩
    · show hI h2 o 4 = _
      rw [e3, d2, Int32.add_assoc, nI_add]
      rfl
  · rintro ⟨x, h'⟩ ⟨rfl, d1, d2, d3⟩
    have d1 : CCc h' o (d.1, 10, d.2.2.1, d.2.2.2) := d1
    have d2 : hI h' o 4 = hI h o 4 + nI (1 + d.1) := d2
    have d3 : Fr3 o a b h h' := d3
    show ∃ r', f_Cloud_takeFrom_L1 o u (nI d.1) h' = some (.inr r') ∧ _
    unfold f_Cloud_takeFrom_L1
    rw [d3.1 u _ h8.1.1 h8.1.2.1 h8.1.2.2, d3.1 u _ h8.1.1 h8.1.2.1 h8.1.2.2, r1, r2, if_pos (ge_yes (Nat.le_refl _) (by omega))]
    obtain ⟨o1, o2, o3, o4, o5⟩ := hO
    refine ⟨_, rfl, ⟨?_, hI_s, fun i hi => ?_⟩, ?_, d3.set (by omega)⟩
    · rw [hI_n (by omega)]; exact d1.1
    · rw [hI_n (by omega), hI_n (by omega)]; exact d1.2.2 i hi
    · rw [hI_n (by omega)]; exact d2
end CH
