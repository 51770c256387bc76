/-! the pure machine: heaps as functions of (object, slot), frames as lists; what it says holds of the machine -/
abbrev pH : Type := (Nat → Nat → Int32) × (Nat → Nat → Int64)
def hI (h : pH) (o k : Nat) : Int32 := h.1 o k
def hL (h : pH) (o k : Nat) : Int64 := h.2 o k
def sI (h : pH) (o k : Nat) (v : Int32) : pH := (fun a => if a = o then upd (h.1 o) k v else h.1 a, h.2)
def sL (h : pH) (o k : Nat) (v : Int64) : pH := (h.1, fun a => if a = o then vp_updL (h.2 o) k v else h.2 a)
abbrev pE : Type := Launch × (Nat → Nat) × va_G × (Nat → ClassId)
abbrev eL (E : pE) : Launch := E.1
abbrev eA (E : pE) : Nat → Nat := E.2.1
abbrev eD (E : pE) : va_G := E.2.2.1
abbrev eC (E : pE) : Nat → ClassId := E.2.2.2
def fv (ad : Nat → Nat) (h : pH) (o k kd : Nat) : Value := match kd with
  | 2 => .ref (ad (rf o k))
  | 1 => .long (hL h o k)
  | _ => .int (hI h o k)
def fvs (ad : Nat → Nat) (h : pH) (o c : Nat) : List Value := (KF.getD c []).mapIdx (fun k kd => fv ad h o k kd)
def cellE (ad : Nat → Nat) (tc : Nat → ClassId) (h : pH) (o : Nat) : va_E := match ak o with
  | 0 => .inr (cx o, fvs ad h o (cx o))
  | 4 => .inl (tc 4, cx o, .inr (.inl (h.2 o)))
  | 5 => .inl (tc 5, cx o, .inr (.inr (.inr (.inr (fun i => if i < cx o then some (ad (rf o i)) else none)))))
  | k => .inl (tc k, cx o, .inl (h.1 o))
def wl (ad : Nat → Nat) (tc : Nat → ClassId) (h : pH) : va_W := (List.range NO).map (fun o => (ad o, cellE ad tc h o))
theorem wl_at {ad : Nat → Nat} {tc : Nat → ClassId} {h : pH} {o : Nat} (ho : o < NO) : (wl ad tc h)[o]? = some (ad o, cellE ad tc h o) := by
  simp [wl, ho]
theorem wl_set {ad : Nat → Nat} {tc : Nat → ClassId} {h h' : pH} {o : Nat} {e : va_E} (he : cellE ad tc h' o = e) (hn : ∀ a, a ≠ o → cellE ad tc h' a = cellE ad tc h a) : (wl ad tc h).set o (ad o, e) = wl ad tc h' := by
  apply List.ext_getElem?
  intro i
  by_cases hi : i < NO
  · rw [wl_at hi]
    by_cases hio : i = o
    · subst hio
      rw [List.getElem?_set_self (by simp [wl, hi]), he]
    · rw [List.getElem?_set_ne (fun q => hio q.symm), wl_at hi, hn i hio]
  · rw [List.getElem?_eq_none (by simp [wl]; omega), List.getElem?_eq_none (by simp [wl]; omega)]
theorem oTab_len : oTab.length = NO := by decide +kernel
theorem ob_lt {o : Nat} (h : ak o ≠ 9) : o < NO := by
  rcases Nat.lt_or_ge o NO with q | q
  · exact q
  · exfalso
    apply h
    show (oTab.getD o (9, 0, [])).1 = 9
    rw [List.getD_eq_getElem?_getD, List.getElem?_eq_none (by rw [oTab_len]; exact q)]
    rfl
theorem cellE_0 {ad : Nat → Nat} {tc : Nat → ClassId} {h : pH} {o : Nat} (k : ak o = 0) : cellE ad tc h o = .inr (cx o, fvs ad h o (cx o)) := by simp only [cellE, k]
theorem cellE_1 {ad : Nat → Nat} {tc : Nat → ClassId} {h : pH} {o : Nat} (k : ak o = 1) : cellE ad tc h o = .inl (tc 1, cx o, .inl (h.1 o)) := by simp only [cellE, k]
theorem cellE_2 {ad : Nat → Nat} {tc : Nat → ClassId} {h : pH} {o : Nat} (k : ak o = 2) : cellE ad tc h o = .inl (tc 2, cx o, .inl (h.1 o)) := by simp only [cellE, k]
theorem cellE_3 {ad : Nat → Nat} {tc : Nat → ClassId} {h : pH} {o : Nat} (k : ak o = 3) : cellE ad tc h o = .inl (tc 3, cx o, .inl (h.1 o)) := by simp only [cellE, k]
theorem cellE_4 {ad : Nat → Nat} {tc : Nat → ClassId} {h : pH} {o : Nat} (k : ak o = 4) : cellE ad tc h o = .inl (tc 4, cx o, .inr (.inl (h.2 o))) := by simp only [cellE, k]
theorem cellE_5 {ad : Nat → Nat} {tc : Nat → ClassId} {h : pH} {o : Nat} (k : ak o = 5) : cellE ad tc h o = .inl (tc 5, cx o, .inr (.inr (.inr (.inr (fun i => if i < cx o then some (ad (rf o i)) else none))))) := by simp only [cellE, k]
theorem sI_ne {h : pH} {o k : Nat} {v : Int32} {a : Nat} (q : a ≠ o) : (sI h o k v).1 a = h.1 a := if_neg q
theorem sL_ne {h : pH} {o k : Nat} {v : Int64} {a : Nat} (q : a ≠ o) : (sL h o k v).2 a = h.2 a := if_neg q
theorem cellE_cong {ad : Nat → Nat} {tc : Nat → ClassId} {h h' : pH} {o : Nat} (h1 : h'.1 o = h.1 o) (h2 : h'.2 o = h.2 o) : cellE ad tc h' o = cellE ad tc h o := by
  have e : ∀ k kd, fv ad h' o k kd = fv ad h o k kd := fun k kd => by
    unfold fv hI hL
    rw [h1, h2]
  unfold cellE fvs
  simp only [e, h1, h2]
theorem wl_sI {ad : Nat → Nat} {tc : Nat → ClassId} {h : pH} {o k : Nat} {v : Int32} {e : va_E} (he : cellE ad tc (sI h o k v) o = e) : (wl ad tc h).set o (ad o, e) = wl ad tc (sI h o k v) :=
  wl_set he (fun _ q => cellE_cong (sI_ne q) rfl)
theorem wl_sL {ad : Nat → Nat} {tc : Nat → ClassId} {h : pH} {o k : Nat} {v : Int64} {e : va_E} (he : cellE ad tc (sL h o k v) o = e) : (wl ad tc h).set o (ad o, e) = wl ad tc (sL h o k v) :=
  wl_set he (fun _ q => cellE_cong rfl (sL_ne q))
theorem fvs_at {ad : Nat → Nat} {h : pH} {o c k : Nat} (hk : (KF.getD c []).getD k 9 ≠ 9) : (fvs ad h o c)[k]? = some (fv ad h o k ((KF.getD c []).getD k 9)) := by
  unfold fvs
  rw [List.getElem?_mapIdx]
  generalize hL0 : KF.getD c [] = L at hk ⊢
  rw [List.getD_eq_getElem?_getD] at hk ⊢
  cases hq : L[k]? with
  | none => rw [hq] at hk; exact absurd rfl hk
  | some x => rfl
theorem fvs_setI {ad : Nat → Nat} {h : pH} {o c k : Nat} {v : Int32} (h1 : (KF.getD c []).getD k 9 ≠ 9) (h2 : (KF.getD c []).getD k 9 ≠ 1) (h3 : (KF.getD c []).getD k 9 ≠ 2) : (fvs ad h o c).set k (.int v) = fvs ad (sI h o k v) o c := by
  unfold fvs
  apply List.ext_getElem?
  intro i
  rw [List.getElem?_mapIdx]
  generalize hL0 : KF.getD c [] = L at h1 h2 h3 ⊢
  by_cases hik : i = k
  · subst hik
    rw [List.getD_eq_getElem?_getD] at h1 h2 h3
    cases hq : L[i]? with
    | none => rw [hq] at h1; exact absurd rfl h1
    | some x =>
      have hlt : i < L.length := (List.getElem?_eq_some_iff.mp hq).1
      rw [hq] at h2 h3
      rw [List.getElem?_set_self (by simpa using hlt)]
      show some (Value.int v) = some (fv ad (sI h o i v) o i x)
      have e : fv ad (sI h o i v) o i x = .int (hI (sI h o i v) o i) := by
        unfold fv
        split
        · exact absurd rfl h3
        · exact absurd rfl h2
        · rfl
      rw [e]
      simp [hI, sI, upd]
  · rw [List.getElem?_set_ne (fun q => hik q.symm), List.getElem?_mapIdx]
    congr 1
    funext x
    unfold fv hI hL sI upd
    simp [hik]
theorem fvs_setL {ad : Nat → Nat} {h : pH} {o c k : Nat} {v : Int64} (h1 : (KF.getD c []).getD k 9 = 1) : (fvs ad h o c).set k (.long v) = fvs ad (sL h o k v) o c := by
  unfold fvs
  apply List.ext_getElem?
  intro i
  rw [List.getElem?_mapIdx]
  generalize hL0 : KF.getD c [] = L at h1 ⊢
  by_cases hik : i = k
  · subst hik
    rw [List.getD_eq_getElem?_getD] at h1
    cases hq : L[i]? with
    | none => rw [hq] at h1; exact absurd h1 (by decide)
    | some x =>
      have hlt : i < L.length := (List.getElem?_eq_some_iff.mp hq).1
      rw [hq] at h1
      have hx : x = 1 := h1
      subst hx
      rw [List.getElem?_set_self (by simpa using hlt)]
      show some (Value.long v) = some (fv ad (sL h o i v) o i 1)
      show some (Value.long v) = some (Value.long (hL (sL h o i v) o i))
      simp [hL, sL, vp_updL]
  · rw [List.getElem?_set_ne (fun q => hik q.symm), List.getElem?_mapIdx]
    congr 1
    funext x
    unfold fv hI hL sL vp_updL
    simp [hik]
/-- the classes as the tables have them -/
theorem cl_ok {c : Nat} {q : vw_C} (hc : classes[c]? = some q) : ∃ ty : Nat → FieldType, (∀ w ∈ u_ws q.1 q.2.1 q.2.2, w ∈ LT) ∧ (∀ k, k < q.2.2 → parseFieldDescriptor (q.2.1 k).2.2.1 = some (ty k)) ∧ (∀ a, a < q.2.2 → ∀ b, b < q.2.2 → a ≠ b → (q.2.1 a).2.1 ≠ (q.2.1 b).2.1) ∧
    (KF.getD c []).length = q.2.2 ∧ ∀ k, k < q.2.2 → ((KF.getD c []).getD k 9 = 0 → ty k = .int ∧ (q.2.1 k).2.2.2 = false) ∧ ((KF.getD c []).getD k 9 = 1 → ty k = .long ∧ (q.2.1 k).2.2.2 = false) ∧ ((KF.getD c []).getD k 9 = 3 → ty k = .boolean ∧ (q.2.1 k).2.2.2 = false) := by
  match c, hc with
  | 0, hc => cases hc; exact ⟨t_0, i_0, t_0_ok, n_0, rfl, k_0⟩
  | 1, hc => cases hc; exact ⟨t_1, i_1, t_1_ok, n_1, rfl, k_1⟩
  | 2, hc => cases hc; exact ⟨t_2, i_2, t_2_ok, n_2, rfl, k_2⟩
  | 3, hc => cases hc; exact ⟨t_3, i_3, t_3_ok, n_3, rfl, k_3⟩
  | 4, hc => cases hc; exact ⟨t_4, i_4, t_4_ok, n_4, rfl, k_4⟩
  | 5, hc => cases hc; exact ⟨t_5, i_5, t_5_ok, n_5, rfl, k_5⟩
  | 6, hc => cases hc; exact ⟨t_6, i_6, t_6_ok, n_6, rfl, k_6⟩
  | 7, hc => cases hc; exact ⟨t_7, i_7, t_7_ok, n_7, rfl, k_7⟩
  | 8, hc => cases hc; exact ⟨t_8, i_8, t_8_ok, n_8, rfl, k_8⟩
  | 9, hc => cases hc; exact ⟨t_9, i_9, t_9_ok, n_9, rfl, k_9⟩
  | 10, hc => cases hc; exact ⟨t_10, i_10, t_10_ok, n_10, rfl, k_10⟩
  | 11, hc => cases hc; exact ⟨t_11, i_11, t_11_ok, n_11, rfl, k_11⟩
  | 12, hc => cases hc; exact ⟨t_12, i_12, t_12_ok, n_12, rfl, k_12⟩
  | c + 13, hc => simp [classes] at hc
/-! locals -/
def vm (ad : Nat → Nat) : Value → Value
  | .ref o => .ref (ad o)
  | v => v
theorem vm_cat (ad : Nat → Nat) (v : Value) : (vm ad v).category = v.category := by cases v <;> rfl
def pairs (ad : Nat → Nat) : Nat → List (Option Value) → List (Nat × Value)
  | _, [] => []
  | k, some v :: t => (k, vm ad v) :: pairs ad (k + 1) t
  | k, none :: t => pairs ad (k + 1) t
theorem pairs_mem {ad : Nat → Nat} {ls : List (Option Value)} : ∀ {k i : Nat} {v : Value}, (i, v) ∈ pairs ad k ls ↔ ∃ j u, ls[j]? = some (some u) ∧ i = k + j ∧ v = vm ad u := by
  induction ls with
  | nil => intro k i v; simp [pairs]
  | cons a t ih =>
    intro k i v
    cases a with
    | none =>
      show (i, v) ∈ pairs ad (k + 1) t ↔ _
      rw [ih]
      constructor
      · rintro ⟨j, u, h1, h2, h3⟩
        exact ⟨j + 1, u, by simpa using h1, by omega, h3⟩
      · rintro ⟨j, u, h1, h2, h3⟩
        cases j with
        | zero => simp at h1
        | succ j => exact ⟨j, u, by simpa using h1, by omega, h3⟩
    | some a =>
      show (i, v) ∈ (k, vm ad a) :: pairs ad (k + 1) t ↔ _
      rw [List.mem_cons, ih]
      constructor
      · rintro (h | ⟨j, u, h1, h2, h3⟩)
        · cases h
          exact ⟨0, a, rfl, rfl, rfl⟩
        · exact ⟨j + 1, u, by simpa using h1, by omega, h3⟩
      · rintro ⟨j, u, h1, h2, h3⟩
        cases j with
        | zero =>
          simp at h1
          subst h1
          left
          rw [h2, h3]
          rfl
        | succ j => exact Or.inr ⟨j, u, by simpa using h1, by omega, h3⟩
def LR (ad : Nat → Nat) (n : Nat) (ls : List (Option Value)) (L : Array Slot) : Prop := lv_has L n (pairs ad 0 ls)
theorem LR.get {ad : Nat → Nat} {n : Nat} {ls : List (Option Value)} {L : Array Slot} (h : LR ad n ls L) {i : Nat} {v : Value} (hi : ls[i]? = some (some v)) : L[i]? = some (.val (vm ad v)) :=
  h.2.2 (i, vm ad v) (pairs_mem.mpr ⟨i, v, hi, by omega, rfl⟩)
theorem LR.sub {ad : Nat → Nat} {n : Nat} {ls ls' : List (Option Value)} {L : Array Slot} (h : LR ad n ls L) (hs : ∀ (i : Nat) (v : Value), ls'[i]? = some (some v) → ls[i]? = some (some v)) : LR ad n ls' L :=
  ⟨h.1, h.2.1, fun q hq => by
    obtain ⟨i, v⟩ := q
    obtain ⟨j, u, h1, h2, h3⟩ := pairs_mem.mp hq
    have e := h.get (hs j u h1)
    have hj : i = j := by omega
    subst hj
    rw [h3]
    exact e⟩
/-- what is on top of a local of two words -/
def wide (ls : List (Option Value)) (i : Nat) : Bool := match i with
  | 0 => false
  | j + 1 => match ls[j]? with
    | some (some v) => v.category == 2
    | _ => false
theorem LR.set1 {ad : Nat → Nat} {n : Nat} {ls : List (Option Value)} {L : Array Slot} {i : Nat} {v : Value} (hw : wide ls i = false) (q : lv_has L n ((i, vm ad v) :: (pairs ad 0 ls).filter (fun q => !(q.1 == i) && !(q.1 + 1 == i && q.2.category == 2)))) : LR ad n (ls.set i (some v)) L := by
  refine ⟨q.1, q.2.1, fun p hp => q.2.2 p ?_⟩
  obtain ⟨a, b⟩ := p
  obtain ⟨j, u, h1, h2, h3⟩ := pairs_mem.mp hp
  have haj : a = j := by omega
  subst haj
  by_cases haiq : a = i
  · subst haiq
    rw [List.getElem?_set] at h1
    simp only [if_pos] at h1
    split at h1
    · cases h1
      rw [h3]
      exact List.mem_cons_self
    · cases h1
  · rw [List.getElem?_set_ne (fun z => haiq z.symm)] at h1
    refine List.mem_cons_of_mem _ (List.mem_filter.mpr ⟨pairs_mem.mpr ⟨a, u, h1, by omega, h3⟩, ?_⟩)
    have e1 : (a == i) = false := by simpa using haiq
    by_cases e2 : a + 1 = i
    · subst e2
      have e3 : (u.category == 2) = false := by
        have := hw
        simp only [wide, h1] at this
        exact this
      simp only [e1, h3, vm_cat]
      simp [e3]
    · simp [e1, e2]
theorem LR.set2 {ad : Nat → Nat} {n : Nat} {ls : List (Option Value)} {L : Array Slot} {i : Nat} {v : Value} (hw : wide ls i = false) (q : lv_has L n ((i, vm ad v) :: (pairs ad 0 ls).filter (fun q => !(q.1 == i) && (!(q.1 == i + 1) && !(q.1 + 1 == i && q.2.category == 2))))) : LR ad n ((ls.set i (some v)).set (i + 1) none) L := by
  refine ⟨q.1, q.2.1, fun p hp => q.2.2 p ?_⟩
  obtain ⟨a, b⟩ := p
  obtain ⟨j, u, h1, h2, h3⟩ := pairs_mem.mp hp
  have haj : a = j := by omega
  subst haj
  by_cases hai1 : a = i + 1
  · subst hai1
    rw [List.getElem?_set] at h1
    simp only [if_pos] at h1
    split at h1 <;> cases h1
  rw [List.getElem?_set_ne (fun z => hai1 z.symm)] at h1
  by_cases haiq : a = i
  · subst haiq
    rw [List.getElem?_set] at h1
    simp only [if_pos] at h1
    split at h1
    · cases h1
      rw [h3]
      exact List.mem_cons_self
    · cases h1
  · rw [List.getElem?_set_ne (fun z => haiq z.symm)] at h1
    refine List.mem_cons_of_mem _ (List.mem_filter.mpr ⟨pairs_mem.mpr ⟨a, u, h1, by omega, h3⟩, ?_⟩)
    have e1 : (a == i) = false := by simpa using haiq
    have e4 : (a == i + 1) = false := by simpa using hai1
    by_cases e2 : a + 1 = i
    · subst e2
      have e3 : (u.category == 2) = false := by
        have := hw
        simp only [wide, h1] at this
        exact this
      simp only [e1, e4, h3, vm_cat]
      simp [e3]
    · simp [e1, e4, e2]
