/-! the class reads a text -/
section TO
variable {h : pH}
theorem take_ok {st np κ p v : Nat} {w : Int64} {S : SFt} (hf : fol st κ ≠ 9) (e3 : hI h 1 3 = nI (ck κ)) (e2 : hI h 1 2 = nI p) (e4 : κ = 2 → hI h 1 4 = nI v ∧ v ≤ 9999) (e5 : κ = 1 → hL h 1 5 = w) (es : hI h 3 5 = nI st) (M : SfM st S h) (I : SfI st np S) (hn : np ≤ 12) : ∃ h', f_TextReader_take h = some h' ∧ Ft h h' ∧ SfM (fol st κ) (sst st κ p v w S) h' := by
  obtain ⟨f, pl, c, W, x, m⟩ := S
  unfold f_TextReader_take sst
  have M0 := M
  obtain ⟨m5, m4, m1, M⟩ := M
  have m4 : hI h 3 4 = nI f := m4
  have m5 : f ≤ 5 := m5
  rw [m4, show (0 : Int32) = nI 0 from rfl]
  simp only [nI_eqI (show f ≤ 100000 by omega) (show 0 ≤ 100000 by omega)]
  by_cases f0 : f = 0
  · subst f0
    rw [if_pos rfl, if_neg (show ¬ ((0 : Nat) ≠ 0) from fun q => q rfl), e3]
    show ∃ h', _ ∧ Ft h h' ∧ SfM _ (sstP st κ p v w pl c W x m) h'
    obtain ⟨C, n1, n2, mx, mm⟩ := M rfl
    have m4 : hI h 3 4 = 0 := m4
    have m1 : hI h 3 1 = -1 := m1
    have C : CCc h 4 c := C
    have n1 : ∀ i, i < c.1 → hL h 7 i = W i := n1
    have n2 : 2 ≤ st ∧ st ≤ 5 → hL h 7 c.1 = W c.1 := n2
    have mx : st = 4 ∨ st = 5 → hI h 3 8 = iI x := mx
    have mm : hI h 3 9 = if m then 1 else 0 := mm
    have N : st = 2 ∨ st = 3 ∨ st = 4 ∨ st = 5 ∨ st = 6 → κ = 2 → fol st κ = (if st = 2 ∨ st = 3 then 4 else 7) → ∃ h', (if nI (ck κ) = 3 then (f_TextReader_takeName h).bind fun v_10 => some v_10 else if nI (ck κ) = 4 then if hI h 3 9 = nI 0 then (f_TextReader_takeNumber (hI h 1 4) h).bind fun v_6 => some (sI v_6 3 9 (nI 0)) else (f_TextReader_takeNumber (-hI h 1 4) h).bind fun v_8 => some (sI v_8 3 9 (nI 0)) else if nI (ck κ) = 5 then some (sI h 3 9 1) else some h) = some h' ∧ Ft h h' ∧ SfM (fol st κ) (sstP st κ p v w pl c W x m) h' := by
      intro a b d
      subst b
      obtain ⟨e4, hv⟩ := e4 rfl
      rw [if_neg (by decide), if_pos (by decide), mm, e4, d, sstP_2]
      cases m with
      | true =>
        rw [if_pos rfl, if_neg (by decide), if_pos rfl, nIv]
        obtain ⟨h', a1, a2, a3⟩ := takeNumber_ok (z := -(v : Int)) a es e2 (by omega) M0 I hn
        rw [a1]
        exact ⟨_, rfl, a2.set (by omega), a3⟩
      | false =>
        rw [if_neg (show ¬ (false = true) by decide), if_pos (by decide), if_neg (show ¬ (false = true) by decide), nI_iI v]
        obtain ⟨h', a1, a2, a3⟩ := takeNumber_ok (z := (v : Int)) a es e2 (by omega) M0 I hn
        rw [a1]
        exact ⟨_, rfl, a2.set (by omega), a3⟩
    rcases fol_cases hf with ⟨rfl, rfl, q⟩ | ⟨rfl, rfl, q⟩ | ⟨rfl, rfl, q⟩ | ⟨rfl, rfl, q⟩ | ⟨rfl, rfl, q⟩ | ⟨rfl, rfl, q⟩ | ⟨rfl, rfl, q⟩ | ⟨rfl, rfl, q⟩ | ⟨rfl, rfl, q⟩ | ⟨rfl, rfl, q⟩ | ⟨rfl, rfl, q⟩
    · rw [q, sstP_o (by decide), if_neg (by decide), if_neg (by decide), if_neg (by decide)]
      exact ⟨h, rfl, Ft.rfl', SfM.good m4 m1 C n1 (fun q => absurd q (by decide)) (fun q => absurd q (by decide)) mm⟩
    · rw [q, sstP_o (by decide), if_neg (by decide), if_neg (by decide), if_neg (by decide)]
      exact ⟨h, rfl, Ft.rfl', SfM.good m4 m1 C n1 (fun q => absurd q (by decide)) (fun q => absurd q (by decide)) mm⟩
    · have hc : c.1 < 12 := by
        have : np = c.1 + 1 := (I rfl).2.1
        omega
      obtain ⟨h', a1, a2, a3, a4, a5, a6⟩ := takeName_ok C hc n1 e2 (e5 rfl)
      rw [q, sstP_1, if_pos (by decide), a1]
      refine ⟨h', rfl, a2, ?_⟩
      by_cases y : ex (fun i => decide (W i = w)) c.1 = true
      · rw [if_pos y] at a6 ⊢
        exact SfM.bad (by decide) (by decide) a6.1 a6.2
      · rw [if_neg y] at a6 ⊢
        refine SfM.good (by rw [a6.1]; exact m4) (by rw [a6.2]; exact m1) (CC4 (fun o k r => a3 o k (by omega)) C) (fun i hi => ?_) (fun _ => ?_) (fun r => absurd r (by decide)) (by rw [a4.2]; exact mm)
        · rw [a5, if_neg (by omega), if_neg (by omega)]; exact n1 i hi
        · rw [a5, if_pos rfl, if_pos rfl]
    · rw [q, sstP_5, if_neg (by decide), if_neg (by decide), if_pos (by decide)]
      refine ⟨_, rfl, Ft.rfl'.set (by omega), SfM.good ?_ ?_ (CC4 (fun o k r => ?_) C) n1 (fun _ => n2 (by decide)) (fun r => absurd r (by decide)) hI_s⟩
      · rw [hI_n (by omega)]; exact m4
      · rw [hI_n (by omega)]; exact m1
      · rw [hI_n (by omega)]
    · exact N (by omega) rfl q
    · exact N (by omega) rfl q
    · rw [q, sstP_5, if_neg (by decide), if_neg (by decide), if_pos (by decide)]
      refine ⟨_, rfl, Ft.rfl'.set (by omega), SfM.good ?_ ?_ (CC4 (fun o k r => ?_) C) n1 (fun _ => n2 (by decide)) (fun _ => ?_) hI_s⟩
      · rw [hI_n (by omega)]; exact m4
      · rw [hI_n (by omega)]; exact m1
      · rw [hI_n (by omega)]
      · rw [hI_n (by omega)]; exact mx (by omega)
    · exact N (by omega) rfl q
    · exact N (by omega) rfl q
    · exact N (by omega) rfl q
    · rw [q, sstP_o (by decide), if_neg (by decide), if_neg (by decide), if_neg (by decide)]
      exact ⟨h, rfl, Ft.rfl', SfM.good m4 m1 C n1 (fun q => absurd q (by decide)) (fun q => absurd q (by decide)) mm⟩
  · rw [if_neg f0, if_pos f0]
    exact ⟨h, rfl, Ft.rfl', m5, m4, m1, fun q => absurd q f0⟩
end TO
def tkK (B : Nat → Nat) (len k : Nat) : Nat := if tsk B len k < len then kd B len (tsk B len k) else 0
def tkV (B : Nat → Nat) (len k : Nat) : Nat := dv B (tsk B len k) (run isDg B len (tsk B len k))
def tkW (B : Nat → Nat) (len k : Nat) : Int64 := Int64.ofNat (nm B (tsk B len k) (run isLt B len (tsk B len k)))
abbrev sfB (B : Nat → Nat) (len : Nat) : Nat → SFt := sfK (tkK B len) (tsk B len) (tkV B len) (tkW B len)
theorem dv_le {B : Nat → Nat} {s : Nat} : ∀ k, (∀ j, j < k → isDg (B (s + j)) = true) → dv B s k < 10 ^ k := by
  intro k
  induction k with
  | zero => intro _; exact Nat.zero_lt_one
  | succ k ih =>
    intro h
    have a := ih (fun j hj => h j (by omega))
    have b : 48 ≤ B (s + k) ∧ B (s + k) ≤ 57 := by simpa [isDg] using h k (by omega)
    show 10 * dv B s k + (B (s + k) - 48) < 10 ^ (k + 1)
    rw [Nat.pow_succ]
    omega
theorem tkK_lt (B : Nat → Nat) (len k : Nat) : tkK B len k < 22 := by
  unfold tkK
  split
  · have := kd_cases B len (tsk B len k)
    omega
  · omega
theorem tkK_0 {B : Nat → Nat} {len k : Nat} : tkK B len k ≠ 0 ↔ tsk B len k < len := by
  unfold tkK
  by_cases c : tsk B len k < len
  · rw [if_pos c]
    have := kd_cases B len (tsk B len k)
    omega
  · rw [if_neg c]
    omega
theorem kd_dig {B : Nat → Nat} {len s : Nat} (h : kd B len s = 2) : isDg (B s) = true ∧ run isDg B len s ≤ 4 := by
  unfold kd at h
  by_cases a : isLt (B s) = true
  · rw [if_pos a] at h
    split at h
    · omega
    · split at h
      · omega
      · split at h <;> omega
  · rw [if_neg a] at h
    by_cases b : isDg (B s) = true
    · rw [if_pos b] at h
      split at h
      · omega
      · exact ⟨b, by omega⟩
    · rw [if_neg b] at h
      split at h
      · omega
      · split at h <;> omega
theorem tkV_le {B : Nat → Nat} {len k : Nat} (h : tkK B len k = 2) : tkV B len k ≤ 9999 := by
  have c : tsk B len k < len := tkK_0.mp (by omega)
  unfold tkK at h
  rw [if_pos c] at h
  obtain ⟨a, b⟩ := kd_dig h
  unfold tkV
  have := dv_le (B := B) (s := tsk B len k) (run isDg B len (tsk B len k)) (fun j hj => (run_in hj).2)
  have q : 10 ^ (run isDg B len (tsk B len k)) ≤ 10 ^ 4 := Nat.pow_le_pow_right (by decide) b
  omega
