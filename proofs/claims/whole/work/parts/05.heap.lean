/-! fields, arrays, returns, calls -/
section GO
variable {E : pE} {M : MI} {pc : Nat} {ls : List (Option Value)} {st : List Value} {h h' hr : pH} {r : Option Value}
theorem q_getf (hM : MOK M) {i c k o : Nat} (hf : mF M i = some (c, k)) (ho : ak o = 0 ∧ cx o = c) {v : Value} (hv : fv (eA E) h o k ((KF.getD c []).getD k 9) = vm (eA E) v) (h9 : (KF.getD c []).getD k 9 ≠ 9)
    (hd : decode (mB M) pc = .ok (.getfield i, 3)) (kk : Go E M (pc + 3) ls (v :: st) h r hr) : Go E M pc ls (.ref o :: st) h r hr := by
  intro p e s m args below meth cc H locs L C hS hP hL
  obtain ⟨q, hc, hk, hl⟩ := hM.2.2.2.2.2.1 i c k hf
  obtain ⟨ty, hi, -, -, -, -⟩ := cl_ok hc
  have hlt : o < NO := ob_lt (by rw [ho.1]; decide)
  have he := wl_at (ad := eA E) (tc := eC E) (h := h) hlt
  rw [cellE_0 ho.1, ho.2] at he
  have hfv := fvs_at (ad := eA E) (h := h) (o := o) h9
  rw [hv] at hfv
  exact va_get (D := eD E) (ci := c) (v := vm (eA E) v) (C := q.1) (T := q.2.1) (N := q.2.2) C.1 C.2.1 C.2.2.2.2.2.1 (fun w hw => List.mem_cons_of_mem _ (hi w hw)) C.2.2.2.2.1 C.2.2.2.2.2.2.2.1 hP o he hc k hk (C.2.2.2.2.2.1 _ (List.mem_cons_of_mem _ hl)) (fun _ h9 => h9) hfv hd
    (kk p e s m args below meth cc H locs L C hS hP hL)
theorem q_getI (hM : MOK M) {i c k o : Nat} (hf : mF M i = some (c, k)) (hk : (KF.getD c []).getD k 9 = 0 ∨ (KF.getD c []).getD k 9 = 3) (ho : ak o = 0 ∧ cx o = c) (hd : decode (mB M) pc = .ok (.getfield i, 3)) (kk : Go E M (pc + 3) ls (.int (hI h o k) :: st) h r hr) : Go E M pc ls (.ref o :: st) h r hr :=
  q_getf hM hf ho (by rcases hk with q | q <;> rw [q] <;> rfl) (by rcases hk with q | q <;> rw [q] <;> decide) hd kk
theorem q_getL (hM : MOK M) {i c k o : Nat} (hf : mF M i = some (c, k)) (hk : (KF.getD c []).getD k 9 = 1) (ho : ak o = 0 ∧ cx o = c) (hd : decode (mB M) pc = .ok (.getfield i, 3)) (kk : Go E M (pc + 3) ls (.long (hL h o k) :: st) h r hr) : Go E M pc ls (.ref o :: st) h r hr :=
  q_getf hM hf ho (by rw [hk]; rfl) (by rw [hk]; decide) hd kk
theorem q_getR (hM : MOK M) {i c k o : Nat} (hf : mF M i = some (c, k)) (hk : (KF.getD c []).getD k 9 = 2) (ho : ak o = 0 ∧ cx o = c) (hd : decode (mB M) pc = .ok (.getfield i, 3)) (kk : Go E M (pc + 3) ls (.ref (rf o k) :: st) h r hr) : Go E M pc ls (.ref o :: st) h r hr :=
  q_getf hM hf ho (by rw [hk]; rfl) (by rw [hk]; decide) hd kk
theorem q_putf (hM : MOK M) {i c k o : Nat} (hf : mF M i = some (c, k)) (ho : ak o = 0 ∧ cx o = c) {v : Value} {h1 : pH} (hset : (fvs (eA E) h o c).set k v = fvs (eA E) h1 o c) (hwl : ∀ e, cellE (eA E) (eC E) h1 o = e → (wl (eA E) (eC E) h).set o (eA E o, e) = wl (eA E) (eC E) h1)
    (hty : ∀ (q : vw_C) (ty : Nat → FieldType), classes[c]? = some q → (∀ k, k < q.2.2 → ((KF.getD c []).getD k 9 = 0 → ty k = .int ∧ (q.2.1 k).2.2.2 = false) ∧ ((KF.getD c []).getD k 9 = 1 → ty k = .long ∧ (q.2.1 k).2.2.2 = false) ∧ ((KF.getD c []).getD k 9 = 3 → ty k = .boolean ∧ (q.2.1 k).2.2.2 = false)) → k < q.2.2 → (q.2.1 k).2.2.2 = false ∧ narrow (ty k) v = v ∧ fits (ty k) v = true) (hvm : vm (eA E) v = v)
    (hd : decode (mB M) pc = .ok (.putfield i, 3)) (kk : Go E M (pc + 3) ls st h1 r hr) : Go E M pc ls (v :: .ref o :: st) h r hr := by
  intro p e s m args below meth cc H locs L C hS hP hL
  obtain ⟨q, hc, hk, hl⟩ := hM.2.2.2.2.2.1 i c k hf
  obtain ⟨ty, hi, hty0, hnm, hlen, hkk⟩ := cl_ok hc
  obtain ⟨hfin, hn, hfit⟩ := hty q ty hc hkk hk
  have hlt : o < NO := ob_lt (by rw [ho.1]; decide)
  have he := wl_at (ad := eA E) (tc := eC E) (h := h) hlt
  rw [cellE_0 ho.1, ho.2] at he
  show W _ _ _ _ _ _ _ _ _ _ _ _ _ _ _ (F0 m pc L (vm (eA E) v :: .ref (eA E o) :: st.map (vm (eA E))))
  rw [hvm]
  refine va_put (D := eD E) (ci := c) (v := v) (ty := ty k) (C := q.1) (T := q.2.1) (N := q.2.2) C.1 C.2.1 C.2.2.2.2.2.1 (fun w hw => List.mem_cons_of_mem _ (hi w hw)) ty hty0 hnm C.2.2.2.2.1 C.2.2.2.2.2.2.2.1 hP (wl_D C.2.2.2.2.2.2.2 h) hS o he hc k hk (C.2.2.2.2.2.1 _ (List.mem_cons_of_mem _ hl)) (fun _ h9 => h9) hfin (hty0 k hk) hn hfit (by rw [fvs, List.length_mapIdx, hlen]; exact hk) hd (fun H1 locs1 hP1 hD1 hS1 => ?_)
  rw [hset] at hP1
  have e2 : cellE (eA E) (eC E) h1 o = .inr (c, fvs (eA E) h1 o c) := by rw [cellE_0 ho.1, ho.2]
  rw [hwl _ e2] at hP1
  exact kk p e s m args below meth cc H1 locs1 L C hS1 hP1 hL
theorem q_putI (hM : MOK M) {i c k o : Nat} {v : Int32} (hf : mF M i = some (c, k)) (hk : (KF.getD c []).getD k 9 = 0) (ho : ak o = 0 ∧ cx o = c) (hd : decode (mB M) pc = .ok (.putfield i, 3)) (kk : Go E M (pc + 3) ls st (sI h o k v) r hr) : Go E M pc ls (.int v :: .ref o :: st) h r hr :=
  q_putf hM hf ho (fvs_setI (by rw [hk]; decide) (by rw [hk]; decide) (by rw [hk]; decide)) (fun e he => wl_sI he) (fun q ty hc hkk hlt => by
    obtain ⟨e1, e2⟩ := (hkk k hlt).1 hk
    rw [e1]
    exact ⟨e2, rfl, rfl⟩) rfl hd kk
theorem q_putZ (hM : MOK M) {i c k o : Nat} {v : Int32} (hv : v = 0 ∨ v = 1) (hf : mF M i = some (c, k)) (hk : (KF.getD c []).getD k 9 = 3) (ho : ak o = 0 ∧ cx o = c) (hd : decode (mB M) pc = .ok (.putfield i, 3)) (kk : Go E M (pc + 3) ls st (sI h o k v) r hr) : Go E M pc ls (.int v :: .ref o :: st) h r hr :=
  q_putf hM hf ho (fvs_setI (by rw [hk]; decide) (by rw [hk]; decide) (by rw [hk]; decide)) (fun e he => wl_sI he) (fun q ty hc hkk hlt => by
    obtain ⟨e1, e2⟩ := (hkk k hlt).2.2 hk
    rw [e1]
    rcases hv with rfl | rfl <;> exact ⟨e2, by decide +kernel, by decide +kernel⟩) rfl hd kk
theorem q_putL (hM : MOK M) {i c k o : Nat} {v : Int64} (hf : mF M i = some (c, k)) (hk : (KF.getD c []).getD k 9 = 1) (ho : ak o = 0 ∧ cx o = c) (hd : decode (mB M) pc = .ok (.putfield i, 3)) (kk : Go E M (pc + 3) ls st (sL h o k v) r hr) : Go E M pc ls (.long v :: .ref o :: st) h r hr :=
  q_putf hM hf ho (fvs_setL hk) (fun e he => wl_sL he) (fun q ty hc hkk hlt => by
    obtain ⟨e1, e2⟩ := (hkk k hlt).2.1 hk
    rw [e1]
    exact ⟨e2, rfl, rfl⟩) rfl hd kk
theorem q_iald {o : Nat} {i : Int32} (ho : ak o = 1) (hin : ¬ (i < 0 ∨ cx o ≤ i.toNatClampNeg)) (hd : decode (mB M) pc = .ok (.iaload, 1)) (kk : Go E M (pc + 1) ls (.int (hI h o i.toNatClampNeg) :: st) h r hr) : Go E M pc ls (.int i :: .ref o :: st) h r hr := by
  intro p e s m args below meth cc H locs L C hS hP hL
  have he := wl_at (ad := eA E) (tc := eC E) (h := h) (ob_lt (by rw [ho]; decide))
  rw [cellE_1 ho] at he
  exact va_iald C.1 C.2.1 C.2.2.2.2.2.2.2.1 hP o 0 he rfl hin hd (kk p e s m args below meth cc H locs L C hS hP hL)
theorem q_bald {o : Nat} {i : Int32} (ho : ak o = 2) (hin : ¬ (i < 0 ∨ cx o ≤ i.toNatClampNeg)) (hd : decode (mB M) pc = .ok (.baload, 1)) (kk : Go E M (pc + 1) ls (.int (hI h o i.toNatClampNeg) :: st) h r hr) : Go E M pc ls (.int i :: .ref o :: st) h r hr := by
  intro p e s m args below meth cc H locs L C hS hP hL
  have he := wl_at (ad := eA E) (tc := eC E) (h := h) (ob_lt (by rw [ho]; decide))
  rw [cellE_2 ho] at he
  exact va_bald C.1 C.2.1 C.2.2.2.2.2.2.2.1 hP o 1 he rfl hin hd (kk p e s m args below meth cc H locs L C hS hP hL)
theorem q_zald {o : Nat} {i : Int32} (ho : ak o = 3) (hin : ¬ (i < 0 ∨ cx o ≤ i.toNatClampNeg)) (hd : decode (mB M) pc = .ok (.baload, 1)) (kk : Go E M (pc + 1) ls (.int (hI h o i.toNatClampNeg) :: st) h r hr) : Go E M pc ls (.int i :: .ref o :: st) h r hr := by
  intro p e s m args below meth cc H locs L C hS hP hL
  have he := wl_at (ad := eA E) (tc := eC E) (h := h) (ob_lt (by rw [ho]; decide))
  rw [cellE_3 ho] at he
  exact va_zald C.1 C.2.1 C.2.2.2.2.2.2.2.1 hP o 2 he rfl hin hd (kk p e s m args below meth cc H locs L C hS hP hL)
theorem q_lald {o : Nat} {i : Int32} (ho : ak o = 4) (hin : ¬ (i < 0 ∨ cx o ≤ i.toNatClampNeg)) (hd : decode (mB M) pc = .ok (.laload, 1)) (kk : Go E M (pc + 1) ls (.long (hL h o i.toNatClampNeg) :: st) h r hr) : Go E M pc ls (.int i :: .ref o :: st) h r hr := by
  intro p e s m args below meth cc H locs L C hS hP hL
  have he := wl_at (ad := eA E) (tc := eC E) (h := h) (ob_lt (by rw [ho]; decide))
  rw [cellE_4 ho] at he
  exact va_lald C.1 C.2.1 C.2.2.2.2.2.2.2.1 hP o 3 he rfl hin hd (kk p e s m args below meth cc H locs L C hS hP hL)
theorem q_aald {o : Nat} {i : Int32} (ho : ak o = 5) (hin : ¬ (i < 0 ∨ cx o ≤ i.toNatClampNeg)) (hd : decode (mB M) pc = .ok (.aaload, 1)) (kk : Go E M (pc + 1) ls (.ref (rf o i.toNatClampNeg) :: st) h r hr) : Go E M pc ls (.int i :: .ref o :: st) h r hr := by
  intro p e s m args below meth cc H locs L C hS hP hL
  have he := wl_at (ad := eA E) (tc := eC E) (h := h) (ob_lt (by rw [ho]; decide))
  rw [cellE_5 ho] at he
  have hlt : i.toNatClampNeg < cx o := Nat.not_le.mp fun q => hin (Or.inr q)
  have hK := C.2.2.2.2.2.2.2.1
  refine W.aald (v := .ref (eA E (rf o i.toNatClampNeg))) (ty := .array .int) C.1 C.2.1 (hP o _ he) ((hK.2 4 (eC E 5, .array .int) rfl).1 (cx o) (fun j => va_rf (if j < cx o then some (eA E (rf o j)) else none))) rfl (fun q => by cases q) ?_ ?_ rfl rfl hd (kk p e s m args below meth cc H locs L C hS hP hL)
  · show ¬ (i < 0 ∨ (arrV _ _ _).slots.size ≤ _)
    rw [arrV_size]
    exact hin
  · show (arrV _ _ _).slots[_]? = _
    rw [arrV_read _ _ hlt]
    simp only [if_pos hlt]
    rfl
theorem q_alen {o : Nat} {v : Int32} (ho : ak o = 1 ∨ ak o = 5) (hv : Int32.ofNat (cx o) = v) (hd : decode (mB M) pc = .ok (.arraylength, 1)) (kk : Go E M (pc + 1) ls (.int v :: st) h r hr) : Go E M pc ls (.ref o :: st) h r hr := by
  intro p e s m args below meth cc H locs L C hS hP hL
  rcases ho with ho | ho
  · have he := wl_at (ad := eA E) (tc := eC E) (h := h) (ob_lt (by rw [ho]; decide))
    rw [cellE_1 ho] at he
    exact va_alen C.1 C.2.1 C.2.2.2.2.2.2.2.1 hP o 0 he rfl hv hd (kk p e s m args below meth cc H locs L C hS hP hL)
  · have he := wl_at (ad := eA E) (tc := eC E) (h := h) (ob_lt (by rw [ho]; decide))
    rw [cellE_5 ho] at he
    exact va_alen C.1 C.2.1 C.2.2.2.2.2.2.2.1 hP o 4 he rfl hv hd (kk p e s m args below meth cc H locs L C hS hP hL)
theorem sI_self {h : pH} {o k : Nat} {v : Int32} : (sI h o k v).1 o = upd (h.1 o) k v := if_pos rfl
theorem sL_self {h : pH} {o k : Nat} {v : Int64} : (sL h o k v).2 o = vp_updL (h.2 o) k v := if_pos rfl
theorem q_iast {o : Nat} {i x : Int32} (ho : ak o = 1) (hin : ¬ (i < 0 ∨ cx o ≤ i.toNatClampNeg)) (hd : decode (mB M) pc = .ok (.iastore, 1)) (kk : Go E M (pc + 1) ls st (sI h o i.toNatClampNeg x) r hr) : Go E M pc ls (.int x :: .int i :: .ref o :: st) h r hr := by
  intro p e s m args below meth cc H locs L C hS hP hL
  have he := wl_at (ad := eA E) (tc := eC E) (h := h) (ob_lt (by rw [ho]; decide))
  rw [cellE_1 ho] at he
  refine va_iast C.1 C.2.1 C.2.2.2.2.2.2.2.1 hP (wl_D C.2.2.2.2.2.2.2 h) hS o 0 he rfl hin hd (fun H1 locs1 hP1 hD1 hS1 => ?_)
  rw [wl_sI (k := i.toNatClampNeg) (v := x) (by rw [cellE_1 ho, sI_self])] at hP1
  exact kk p e s m args below meth cc H1 locs1 L C hS1 hP1 hL
theorem q_bast {o : Nat} {i x : Int32} (ho : ak o = 2) (hin : ¬ (i < 0 ∨ cx o ≤ i.toNatClampNeg)) (hd : decode (mB M) pc = .ok (.bastore, 1)) (kk : Go E M (pc + 1) ls st (sI h o i.toNatClampNeg (vp_nar .byte x)) r hr) : Go E M pc ls (.int x :: .int i :: .ref o :: st) h r hr := by
  intro p e s m args below meth cc H locs L C hS hP hL
  have he := wl_at (ad := eA E) (tc := eC E) (h := h) (ob_lt (by rw [ho]; decide))
  rw [cellE_2 ho] at he
  refine va_bast C.1 C.2.1 C.2.2.2.2.2.2.2.1 hP (wl_D C.2.2.2.2.2.2.2 h) hS o 1 he rfl hin hd (fun H1 locs1 hP1 hD1 hS1 => ?_)
  rw [wl_sI (k := i.toNatClampNeg) (v := vp_nar .byte x) (by rw [cellE_2 ho, sI_self])] at hP1
  exact kk p e s m args below meth cc H1 locs1 L C hS1 hP1 hL
theorem q_zast {o : Nat} {i x : Int32} (ho : ak o = 3) (hin : ¬ (i < 0 ∨ cx o ≤ i.toNatClampNeg)) (hd : decode (mB M) pc = .ok (.bastore, 1)) (kk : Go E M (pc + 1) ls st (sI h o i.toNatClampNeg (vp_nar .boolean x)) r hr) : Go E M pc ls (.int x :: .int i :: .ref o :: st) h r hr := by
  intro p e s m args below meth cc H locs L C hS hP hL
  have he := wl_at (ad := eA E) (tc := eC E) (h := h) (ob_lt (by rw [ho]; decide))
  rw [cellE_3 ho] at he
  refine va_zast C.1 C.2.1 C.2.2.2.2.2.2.2.1 hP (wl_D C.2.2.2.2.2.2.2 h) hS o 2 he rfl hin hd (fun H1 locs1 hP1 hD1 hS1 => ?_)
  rw [wl_sI (k := i.toNatClampNeg) (v := vp_nar .boolean x) (by rw [cellE_3 ho, sI_self])] at hP1
  exact kk p e s m args below meth cc H1 locs1 L C hS1 hP1 hL
theorem q_last {o : Nat} {i : Int32} {x : Int64} (ho : ak o = 4) (hin : ¬ (i < 0 ∨ cx o ≤ i.toNatClampNeg)) (hd : decode (mB M) pc = .ok (.lastore, 1)) (kk : Go E M (pc + 1) ls st (sL h o i.toNatClampNeg x) r hr) : Go E M pc ls (.long x :: .int i :: .ref o :: st) h r hr := by
  intro p e s m args below meth cc H locs L C hS hP hL
  have he := wl_at (ad := eA E) (tc := eC E) (h := h) (ob_lt (by rw [ho]; decide))
  rw [cellE_4 ho] at he
  refine va_last C.1 C.2.1 C.2.2.2.2.2.2.2.1 hP (wl_D C.2.2.2.2.2.2.2 h) hS o 3 he rfl hin hd (fun H1 locs1 hP1 hD1 hS1 => ?_)
  rw [wl_sL (k := i.toNatClampNeg) (v := x) (by rw [cellE_4 ho, sL_self])] at hP1
  exact kk p e s m args below meth cc H1 locs1 L C hS1 hP1 hL
/-! returns -/
theorem q_iret {v : Int32} (hr0 : mR M = some .int) (hv : r = some (.int v)) (hh : hr = h) (hd : decode (mB M) pc = .ok (.ireturn, 1)) : Go E M pc ls [.int v] h r hr := by
  subst hv; subst hh
  intro p e s m args below meth cc H locs L C hS hP hL
  have hlocks := C.2.2.2.2.2.2.1
  exact W.iret C.1 C.2.1 (C.2.2.1.trans hr0) (fun t ht hW => ⟨⟨rfl, by rw [PP, ht]; exact hP⟩, hS.F ht⟩) hS.2.2 hd
theorem q_zret {v : Int32} (hr0 : mR M = some .boolean) (hb : v = 0 ∨ v = 1) (hv : r = some (.int v)) (hh : hr = h) (hd : decode (mB M) pc = .ok (.ireturn, 1)) : Go E M pc ls [.int v] h r hr := by
  subst hv; subst hh
  intro p e s m args below meth cc H locs L C hS hP hL
  have hlocks := C.2.2.2.2.2.2.1
  exact W.zret (ty := .boolean) C.1 C.2.1 (C.2.2.1.trans hr0) (by rcases hb with rfl | rfl <;> decide +kernel) (fun t ht hW => ⟨⟨rfl, by rw [PP, ht]; exact hP⟩, hS.F ht⟩) hS.2.2 hd
theorem q_lret {v : Int64} (hr0 : mR M = some .long) (hv : r = some (.long v)) (hh : hr = h) (hd : decode (mB M) pc = .ok (.lreturn, 1)) : Go E M pc ls [.long v] h r hr := by
  subst hv; subst hh
  intro p e s m args below meth cc H locs L C hS hP hL
  have hlocks := C.2.2.2.2.2.2.1
  exact W.lret C.1 C.2.1 (C.2.2.1.trans hr0) (fun t ht hW => ⟨⟨rfl, by rw [PP, ht]; exact hP⟩, hS.F ht⟩) hS.2.2 hd
theorem q_vret (hr0 : mR M = none) (hv : r = none) (hh : hr = h) (hd : decode (mB M) pc = .ok (.return_, 1)) : Go E M pc ls [] h r hr := by
  subst hv; subst hh
  intro p e s m args below meth cc H locs L C hS hP hL
  have hlocks := C.2.2.2.2.2.2.1
  exact W.vret C.1 C.2.1 (C.2.2.1.trans hr0) (fun t ht hW => ⟨⟨rfl, by rw [PP, ht]; exact hP⟩, hS.F ht⟩) hS.2.2 hd
end GO
