/-! marks of sets -/
def wbit (h : pH) (w s : Nat) : Bool := (hI h w (s / 32)).toBitVec.getLsbD (s % 32)
theorem shl_bit : ∀ k, k < 32 → ∀ i, i < 32 → (jshl 1 (nI k)).toBitVec.getLsbD i = decide (i = k) := by decide +kernel
theorem smod_ok' : ∀ p, p < 32 → ((nI p &&& 31).toBitVec.smod 32).toNat = p := by decide +kernel
theorem and1 (x : Int32) : x &&& 1 = 1 ↔ x.toBitVec.getLsbD 0 = true := by
  rw [← Int32.toBitVec_inj]
  show x.toBitVec &&& 1#32 = 1#32 ↔ _
  constructor
  · intro e
    have := congrArg (fun b => b.getLsbD 0) e
    simpa using this
  · intro e
    apply BitVec.eq_of_getLsbD_eq
    intro i hi
    rw [BitVec.getLsbD_and]
    cases i with
    | zero => rw [e]; rfl
    | succ i =>
      have : (1#32).getLsbD (i + 1) = false := by simp
      rw [this, Bool.and_false]
theorem shr_bit (w : Int32) {k : Nat} (hk : k < 32) : jshr w (nI k) &&& 1 = 1 ↔ w.toBitVec.getLsbD k = true := by
  rw [and1]
  unfold jshr
  rw [Int32.toBitVec_shiftRight]
  show ((w.toBitVec.sshiftRight ((nI k &&& 31).toBitVec.smod 32).toNat).getLsbD 0 = true) ↔ _
  rw [smod_ok' k hk, BitVec.getLsbD_sshiftRight]
  simp [hk]
theorem idx_ok {s : Nat} (hs : s < 4096) : jshr (nI s) 5 &&& 127 = nI (s / 32) ∧ nI s &&& 31 = nI (s % 32) := by
  constructor
  · rw [show (5 : Int32) = nI 5 from rfl, jshr_ok (by omega) (by omega), show (127 : Int32) = nI (2 ^ 7 - 1) from rfl, nI_and, Nat.and_two_pow_sub_one_eq_mod, Nat.mod_eq_of_lt (by omega)]
  · rw [show (31 : Int32) = nI (2 ^ 5 - 1) from rfl, nI_and, Nat.and_two_pow_sub_one_eq_mod]
theorem mark_ok {h : pH} {o w s : Nat} (ho : rf o 0 = w) (hs : s < 4096) : ∃ h', f_SetMarks_mark o (nI s) h = some h' ∧ Fs [w] h h' ∧ ∀ t, t < 4096 → wbit h' w t = (decide (t = s) || wbit h w t) := by
  unfold f_SetMarks_mark
  rw [ho, (idx_ok hs).1, (idx_ok hs).2, if_neg (gd (by omega) (by omega)), cla (by omega)]
  refine ⟨_, rfl, Fs.rfl'.set (by simp), fun t ht => ?_⟩
  unfold wbit
  by_cases e : t / 32 = s / 32
  · rw [e, hI_s]
    show (_ ||| _ : BitVec 32).getLsbD _ = _
    rw [BitVec.getLsbD_or, shl_bit _ (by omega) _ (by omega), Bool.or_comm]
    congr 1
    rw [decide_eq_decide]
    omega
  · rw [hI_n (by omega)]
    have : ¬ t = s := by rintro rfl; exact e rfl
    simp [this]
theorem isMarked_ok {h : pH} {o w s : Nat} (ho : rf o 0 = w) (hs : s < 4096) : f_SetMarks_isMarked o (nI s) h = some (if wbit h w s then 1 else 0) := by
  unfold f_SetMarks_isMarked
  rw [ho, (idx_ok hs).1, (idx_ok hs).2, if_neg (gd (by omega) (by omega)), cla (by omega)]
  simp only [shr_bit _ (show s % 32 < 32 by omega)]
  unfold wbit
  split <;> rfl
theorem clearM_ok {h : pH} {o w : Nat} (ho : rf o 0 = w) (hc : cx w = 128) : ∃ h', f_SetMarks_clear o h = some h' ∧ Fs [w] h h' ∧ ∀ t, t < 4096 → wbit h' w t = false := by
  unfold f_SetMarks_clear f_J_fill
  rw [ho, hc]
  obtain ⟨r, e1, e2, e3⟩ := lp_inv (f := fun s => f_J_fill_L1 w 0 (Int32.ofNat 128) s.1 s.2) (fun k s => s.1 = nI k ∧ Fs [w] h s.2 ∧ ∀ i, i < k → hI s.2 w i = 0) (fun r => Fs [w] h r ∧ ∀ i, i < 128 → hI r w i = 0) 128 (by
    rintro k ⟨a, h'⟩ hk ⟨rfl, d1, d2⟩
    have d1 : Fs [w] h h' := d1
    have d2 : ∀ i, i < k → hI h' w i = 0 := d2
    show ∃ s', f_J_fill_L1 w 0 (Int32.ofNat 128) (nI k) h' = some (.inl s') ∧ _
    unfold f_J_fill_L1
    rw [hc, show Int32.ofNat 128 = nI 128 from rfl, if_neg (lt_no hk (by omega)), if_neg (gd (by omega) (by omega)), cla (by omega), nI_1]
    refine ⟨_, rfl, rfl, d1.set (by simp), fun i hi => ?_⟩
    show hI (sI h' w k 0) w i = 0
    by_cases e : i = k
    · subst e; rw [hI_s]
    · rw [hI_n (by omega)]
      exact d2 i (by omega)) (by
    rintro ⟨a, h'⟩ ⟨rfl, d1, d2⟩
    have d1 : Fs [w] h h' := d1
    have d2 : ∀ i, i < 128 → hI h' w i = 0 := d2
    show ∃ r, f_J_fill_L1 w 0 (Int32.ofNat 128) (nI 128) h' = some (.inr r) ∧ _
    unfold f_J_fill_L1
    rw [show Int32.ofNat 128 = nI 128 from rfl, if_pos (ge_yes (Nat.le_refl _) (by omega))]
    exact ⟨_, rfl, d1, d2⟩) (n := lpN) (s := (0, h)) ⟨rfl, Fs.rfl', fun i hi => by omega⟩ (by unfold lpN; omega)
  rw [e1]
  refine ⟨r, rfl, e2, fun t ht => ?_⟩
  unfold wbit
  rw [e3 _ (by omega)]
  show (0#32).getLsbD _ = false
  simp
theorem rf22 : rf 22 0 = 23 := by decide +kernel
theorem rf29 : rf 29 0 = 30 := by decide +kernel
theorem cx23 : cx 23 = 128 := by decide +kernel
theorem cx30 : cx 30 = 128 := by decide +kernel
