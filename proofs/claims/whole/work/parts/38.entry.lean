/-! the law from its entry, for any invariant that the calls keep -/
set_option maxHeartbeats 4000000 in
theorem law_whole {p : Program} {e : Env} {s : State} {m : MethodId} {below : List Frame} {meth : Method} {c : Code} (l : Launch) {b L : Nat} {xs : Nat → Int32} (hL : L ≤ 3072) (C0 : lw_At p s m meth c b L xs) {J : Nat → pH → Prop} (hJ : J 0 hp0) (hsp : SpAll J) :
    W p l e room_1 s m #[Value.ref b] below meth c s.heap [] 0 0 (lw_Z below #[Value.ref b] s) (entryFrame m ([Value.ref b] : List Value).toArray 4) := by
  obtain ⟨hx, hb, hr, hml, hown, hts, hX, hbl, hlocks, hgv⟩ := id C0
  have hA : ∀ q : Nat, s.heap.size ≤ q → (fun q : Nat => s.heap.size ≤ q) q := fun _ h => h
  have hfl := flat_of_before _ hgv
  -- classes
  have kn : ∀ ci : Nat, ∃ r : ClassId × (Nat → Nat), ∀ q : vw_C, classes[ci]? = some q → u_Kn s q.1 q.2.1 q.2.2 r.1 r.2 := by
    intro ci
    cases hq : classes[ci]? with
    | none => exact ⟨(0, fun _ => 0), fun q h => by cases h⟩
    | some q =>
      obtain ⟨ty, hi, -, -, -, -⟩ := cl_ok hq
      obtain ⟨cC, iS, hk⟩ := u_known (C := q.1) (T := q.2.1) (N := q.2.2) (n := q.2.2) hts (fun w hw => LT_tbl (hi w hw)) (hts _ (ins_tbl hq))
      exact ⟨(cC, iS), fun q' h => by cases h; exact hk⟩
  obtain ⟨f, hf⟩ := Classical.axiomOfChoice kn
  obtain ⟨D, hDd⟩ : ∃ D : va_G, D = (fun k => (f k).1, fun k => (f k).2) := ⟨_, rfl⟩
  have hKc : ∀ (k : Nat) (q : vw_C), classes[k]? = some q → u_Kn s q.1 q.2.1 q.2.2 (D.1 k) (D.2 k) := fun k q h => by rw [hDd]; exact hf k q h
  -- array classes
  obtain ⟨c1, k1, p1, f1, g1, e1⟩ := Cond.arrayClass_spec (hts _ ac_i)
  obtain ⟨c2, k2, p2, f2, g2, e2⟩ := Cond.arrayClass_spec (hts _ ac_b)
  obtain ⟨c3, k3, p3, f3, g3, e3⟩ := Cond.arrayClass_spec (hts _ ac_z)
  obtain ⟨c4, k4, p4, f4, g4, e4⟩ := Cond.arrayClass_spec (hts _ ac_l)
  obtain ⟨p5, c5, k5, h51, h52, h53, h54, h55⟩ := Jvm.Stand.arrayOver_specB (hts _ ao_tbl)
  obtain ⟨tc, htc⟩ : ∃ tc : Nat → ClassId, tc = fun k => if k = 1 then c1 else if k = 2 then c2 else if k = 3 then c3 else if k = 4 then c4 else c5 := ⟨_, rfl⟩
  have t1 : tc 1 = c1 := by rw [htc]; rfl
  have t2 : tc 2 = c2 := by rw [htc]; rfl
  have t3 : tc 3 = c3 := by rw [htc]; rfl
  have t4 : tc 4 = c4 := by rw [htc]; rfl
  have t5 : tc 5 = c5 := by rw [htc]; rfl
  have hK : va_K D classes (tysE tc) s := by
    refine ⟨hKc, fun k q hk => ?_⟩
    match k, hk with
    | 0, hk => cases hk; rw [t1]; exact ⟨fun n z => ⟨fun k h => (by cases h), k1, g1, p1, e1⟩, f1⟩
    | 1, hk => cases hk; rw [t2]; exact ⟨fun n z => ⟨fun k h => (by cases h), k2, g2, p2, e2⟩, f2⟩
    | 2, hk => cases hk; rw [t3]; exact ⟨fun n z => ⟨fun k h => (by cases h), k3, g3, p3, e3⟩, f3⟩
    | 3, hk => cases hk; rw [t4]; exact ⟨fun n z => ⟨fun k h => (by cases h), k4, g4, p4, e4⟩, f4⟩
    | 4, hk => cases hk; rw [t5]; exact ⟨fun n z => ⟨fun k h => (by cases h), k5, h53, p5, h54⟩, h55⟩
    | k + 5, hk => simp [tysE] at hk
  have hN : NK s := fun q hq => va_tabs rfl rfl (hts _ (NL_tbl q hq))
  have hO : AOI s := by
    refine ⟨p5, c5, k5, ?_, h52, h53, h54, ?_⟩
    · rw [show (FieldType.array .int).toString = "[I" by decide +kernel] at h51
      exact h51
    · rw [show "[" ++ (FieldType.array .int).toString = "[[I" by decide +kernel] at h55
      exact h55
  -- texts
  obtain ⟨sK, sV, hvS, hvE⟩ := vk_Sof (args := #[Value.ref b]) (s := s) (N := 2) (tm := fun i => Term.string "CloudDepth$Tape" (if i = 0 then 54 else 60)) (len := sLen) (byt := sByt) (A := fun q : Nat => s.heap.size ≤ q)
    (by decide) (fun i hi => by rcases (show i = 0 ∨ i = 1 by omega) with rfl | rfl <;> exact hfl _ (by decide +kernel))
    (fun i hi => by rcases (show i = 0 ∨ i = 1 by omega) with rfl | rfl <;> exact hfl _ (by decide +kernel))
    (fun i hi => by rcases (show i = 0 ∨ i = 1 by omega) with rfl | rfl <;> exact hfl _ (by decide +kernel))
    (fun i hi => by rcases (show i = 0 ∨ i = 1 by omega) with rfl | rfl <;> exact hfl _ (by decide +kernel))
    (fun i hi j hj => by
      rcases (show i = 0 ∨ i = 1 by omega) with rfl | rfl
      · have hj : j < 5 := hj
        rcases (show j = 0 ∨ j = 1 ∨ j = 2 ∨ j = 3 ∨ j = 4 by omega) with rfl | rfl | rfl | rfl | rfl <;> exact hfl _ (by decide +kernel)
      · have hj : j < 4 := hj
        rcases (show j = 0 ∨ j = 1 ∨ j = 2 ∨ j = 3 by omega) with rfl | rfl | rfl | rfl <;> exact hfl _ (by decide +kernel))
    (fun i j hi hj hij => by
      rcases (show (i = 0 ∧ j = 1) ∨ (i = 1 ∧ j = 0) by omega) with ⟨rfl, rfl⟩ | ⟨rfl, rfl⟩
      · exact Or.inl (hfl _ (by decide +kernel))
      · exact Or.inr (hfl _ (by decide +kernel)))
    (fun a ha => Nat.not_le.mpr ha)
  have hr54 : vk_R "CloudDepth$Tape" 54 "point" (sK 0) s := vk_R.of (A := #[Value.ref b]) (hts _ sr_54) (hvE 0 (by decide))
  have hr60 : vk_R "CloudDepth$Tape" 60 "grid" (sK 1) s := vk_R.of (A := #[Value.ref b]) (hts _ sr_60) (hvE 1 (by decide))
  have hcs : (Term.static "java/lang/String" "COMPACT_STRINGS" "Z").eval #[Value.ref b] s none [] s = some (.int 1) := by
    have h9 := hfl (Cond.eq (.static "java/lang/String" "COMPACT_STRINGS" "Z") (.int 1)) (by decide +kernel)
    cases hv : (Term.static "java/lang/String" "COMPACT_STRINGS" "Z").eval #[Value.ref b] s none [] s with
    | none => simp [Cond.before, Cond.holds, Cond.value, hv] at h9
    | some v =>
      simp only [Cond.before, Cond.holds, Cond.value, hv] at h9
      have e9 : (Term.int 1).eval #[Value.ref b] s none [] s = some (.int 1) := rfl
      rw [e9] at h9
      cases v <;> simp at h9
      rw [h9]
  have hZ1 : va_Z "java/lang/String" "COMPACT_STRINGS" "Z" (.int 1) (fun q : Nat => s.heap.size ≤ q) s s.heap := va_Zof (hts _ ls_c) (hts _ in_S) hcs (fun a ha => Nat.not_le.mpr ha)
  have hZ2 : va_Zq "jdk/internal/util/Preconditions" "SIOOBE_FORMATTER" "Ljava/util/function/BiFunction;" (fun q : Nat => s.heap.size ≤ q) s s.heap := va_Zqof (hts _ ls_f) (hts _ in_P) (hfl _ (by decide +kernel)) (fun a ha => Nat.not_le.mpr ha)
  obtain ⟨fm, hfm⟩ : ∃ fm : Nat, va_Z "jdk/internal/util/Preconditions" "SIOOBE_FORMATTER" "Ljava/util/function/BiFunction;" .null (fun q : Nat => s.heap.size ≤ q) s s.heap ∨ va_Z "jdk/internal/util/Preconditions" "SIOOBE_FORMATTER" "Ljava/util/function/BiFunction;" (.ref fm) (fun q : Nat => s.heap.size ≤ q) s s.heap := by
    rcases hZ2 with h | ⟨t, h⟩
    · exact ⟨0, Or.inl h⟩
    · exact ⟨t, Or.inr h⟩
  -- the walk
  have hS : va_S (fun q : Nat => s.heap.size ≤ q) s.heap s.heap [] := va_S.rf
  have hP : va_P D classes [] s.heap := fun k q h => by simp at h
  have hD : va_D (fun q : Nat => s.heap.size ≤ q) [] := ⟨fun i j p q h => by simp at h, fun k q h => by simp at h⟩
  have hl := lv_entry ([.ref b]) (n := 4) (Nat.le_of_ble_eq_true rfl)
  rw [lg_entry_eq]
  generalize (lg_sl ([.ref b]) ++ List.replicate (4 - (lg_sl ([.ref b])).length) Slot.unset).toArray = ls at hl ⊢
  have hl : lv_has ls 4 [(0, .ref b)] := hl
  refine va_new (ci := 11) (fs := bl_11) (C := R_11) (T := F_11) (N := 15) hx hb hts (fun w hw => LT_tbl (i_11 w hw)) t_11 t_11_ok hown (hts _ nw_C) (hts _ (ins_tbl (ci := 11) rfl)) (hts _ (LT_tbl wi_C)) hK hP hD hS hA rfl (df_11 t_11 t_11_ok) (Nat.le_of_ble_eq_true rfl) (Nat.le_of_ble_eq_true rfl) (index := 7) (by decide +kernel) (fun q0 H hP hD hS => ?_)
  refine lv_dup hx hb (by decide +kernel) rfl ?_
  refine l_ctor C0 hK hN hO okI_C (i := 9) ⟨li_C, lj_C, wi_C, dsI_C, Nat.le_of_ble_eq_true rfl, Nat.le_of_ble_eq_true rfl⟩ (cI_C q0) ⟨rfl, rfl⟩ (Nat.le_of_ble_eq_true rfl) (Nat.le_of_ble_eq_true rfl) (Nat.le_of_ble_eq_true rfl) (by decide +kernel) hl.1 hP hD hS (fun w1 H1 locs1 hw1 hP hD hS => ?_)
  obtain ⟨u, v0, v1, rfl⟩ := hw1
  refine lv_astore_n (k := 1) (lv' := [(1, .ref q0), (0, .ref b)]) hx hb (by decide +kernel) rfl hl (by decide) rfl (fun ls hl => ?_)
  refine va_new (ci := 12) (fs := bl_12) (C := R_12) (T := F_12) (N := 40) hx hb hts (fun w hw => LT_tbl (i_12 w hw)) t_12 t_12_ok hown (hts _ nw_R) (hts _ (ins_tbl (ci := 12) rfl)) (hts _ (LT_tbl wi_R)) hK hP hD hS hA rfl (df_12 t_12 t_12_ok) (Nat.le_of_ble_eq_true rfl) (Nat.le_of_ble_eq_true rfl) (index := 10) (by decide +kernel) (fun q1 H hP hD hS => ?_)
  refine lv_dup hx hb (by decide +kernel) rfl ?_
  refine l_ctor C0 hK hN hO okI_R (i := 12) ⟨li_R, lj_R, wi_R, dsI_R, Nat.le_of_ble_eq_true rfl, Nat.le_of_ble_eq_true rfl⟩ (cI_R q1) ⟨rfl, rfl⟩ (Nat.le_of_ble_eq_true rfl) (Nat.le_of_ble_eq_true rfl) (Nat.le_of_ble_eq_true rfl) (by decide +kernel) hl.1 hP hD hS (fun w2 H2 locs2 hw2 hP hD hS => ?_)
  obtain ⟨w, rfl⟩ := hw2
  refine lv_astore_n (k := 2) (lv' := [(2, .ref q1), (1, .ref q0), (0, .ref b)]) hx hb (by decide +kernel) rfl hl (by decide) rfl (fun ls hl => ?_)
  refine lv_iconst (n := 0) (v := 0) hx hb (by decide +kernel) rfl ?_
  refine lv_istore_n (k := 3) (lv' := [(3, .int 0), (2, .ref q1), (1, .ref q0), (0, .ref b)]) hx hb (by decide +kernel) rfl hl (by decide) rfl (fun ls hl => ?_)
  rw [wl_0 (sK := sK) (sV := sV) (fm := fm) (b := b)] at hP hD
  have hinj : ∀ i j, i < NO → j < NO → adO q0 u v0 v1 q1 w sK sV fm b i = adO q0 u v0 v1 q1 w sK sV fm b j → i = j := fun i j hi hj hij => hD.1 i j _ _ (wl_at hi) (wl_at hj) hij
  have hlo : ∀ o, o < NO → s.heap.size ≤ adO q0 u v0 v1 q1 w sK sV fm b o := fun o ho => hD.2 o _ (wl_at ho)
  have hwA : ∀ q, wA (adO q0 u v0 v1 q1 w sK sV fm b) q → s.heap.size ≤ q := fun q ⟨o, h1, h2⟩ => by rw [h2]; exact hlo o h1
  have hG : GE (l, adO q0 u v0 v1 q1 w sK sV fm b, D, tc) s := by
    refine ⟨hK, ⟨?_, ?_, ?_, hZ1.narrow hwA, hfm.imp (fun z => z.narrow hwA) (fun z => z.narrow hwA)⟩, hinj, hN⟩
    · have h1 := hvS.narrow hwA
      refine ⟨fun i hi => ?_, fun i j hi hj hij => ?_⟩
      · have h2 := h1.1 i hi
        rcases (show i = 0 ∨ i = 1 by omega) with rfl | rfl <;> exact h2
      · apply h1.2 i j hi hj
        rcases (show i = 0 ∨ i = 1 by omega) with rfl | rfl <;> rcases (show j = 0 ∨ j = 1 by omega) with rfl | rfl <;> exact hij
    · exact hr54
    · exact hr60
  have C : LCx (l, adO q0 u v0 v1 q1 w sK sV fm b, D, tc) p s m meth c b L xs := ⟨C0, hG, hlo, rfl⟩
  refine W.widen (k := lCells) (n := lSlots) (Nat.le_of_ble_eq_true rfl) (Nat.le_of_ble_eq_true rfl) ?_
  exact law_loop C hL hsp (L + 1) 0 hp0 hJ (by omega) (by omega) H2 locs2 ls hS hP (lv_sub hl [3, 2, 1, 0] rfl)
