/-! from the law's entry to its loop, and the loop -/
theorem NL_tbl : ∀ q ∈ NL, Cond.methodLinkNest q.1 q.2.1 q.2.2.1 q.2.2.2 ∈ lw_tbl := List.forall_mem_cons.mpr ⟨List.mem_append_right _ (List.mem_append_left _ (List.mem_of_getElem? (l := tables_1_1) (i := 31) rfl)), List.forall_mem_cons.mpr ⟨List.mem_append_right _ (List.mem_append_left _ (List.mem_of_getElem? (l := tables_1_1) (i := 72) rfl)), List.forall_mem_cons.mpr ⟨List.mem_append_right _ (List.mem_append_left _ (List.mem_of_getElem? (l := tables_1_1) (i := 158) rfl)), List.forall_mem_cons.mpr ⟨List.mem_append_right _ (List.mem_append_left _ (List.mem_of_getElem? (l := tables_1_1) (i := 161) rfl)), List.forall_mem_cons.mpr ⟨List.mem_append_right _ (List.mem_append_left _ (List.mem_of_getElem? (l := tables_1_1) (i := 182) rfl)), List.forall_mem_cons.mpr ⟨List.mem_append_right _ (List.mem_append_left _ (List.mem_of_getElem? (l := tables_1_1) (i := 237) rfl)), List.forall_mem_cons.mpr ⟨List.mem_append_right _ (List.mem_append_right _ (List.mem_append_left _ (List.mem_of_getElem? (l := tables_1_2) (i := 3) rfl))), List.forall_mem_cons.mpr ⟨List.mem_append_right _ (List.mem_append_right _ (List.mem_append_left _ (List.mem_of_getElem? (l := tables_1_2) (i := 21) rfl))), List.forall_mem_cons.mpr ⟨List.mem_append_right _ (List.mem_append_right _ (List.mem_append_left _ (List.mem_of_getElem? (l := tables_1_2) (i := 35) rfl))), List.forall_mem_cons.mpr ⟨List.mem_append_right _ (List.mem_append_right _ (List.mem_append_left _ (List.mem_of_getElem? (l := tables_1_2) (i := 64) rfl))), List.forall_mem_cons.mpr ⟨List.mem_append_right _ (List.mem_append_right _ (List.mem_append_left _ (List.mem_of_getElem? (l := tables_1_2) (i := 69) rfl))), List.forall_mem_cons.mpr ⟨List.mem_append_right _ (List.mem_append_right _ (List.mem_append_right _ (List.mem_append_left _ (List.mem_of_getElem? (l := tables_1_3) (i := 35) rfl)))), List.forall_mem_cons.mpr ⟨List.mem_append_right _ (List.mem_append_right _ (List.mem_append_right _ (List.mem_append_left _ (List.mem_of_getElem? (l := tables_1_3) (i := 42) rfl)))), List.forall_mem_cons.mpr ⟨List.mem_append_right _ (List.mem_append_right _ (List.mem_append_right _ (List.mem_append_left _ (List.mem_of_getElem? (l := tables_1_3) (i := 155) rfl)))), List.forall_mem_cons.mpr ⟨List.mem_append_right _ (List.mem_append_right _ (List.mem_append_right _ (List.mem_append_left _ (List.mem_of_getElem? (l := tables_1_3) (i := 169) rfl)))), List.forall_mem_cons.mpr ⟨List.mem_append_right _ (List.mem_append_right _ (List.mem_append_right _ (List.mem_append_right _ (List.mem_append_left _ (List.mem_of_getElem? (l := tables_1_4) (i := 72) rfl))))), List.forall_mem_cons.mpr ⟨List.mem_append_right _ (List.mem_append_right _ (List.mem_append_right _ (List.mem_append_right _ (List.mem_append_left _ (List.mem_of_getElem? (l := tables_1_4) (i := 165) rfl))))), List.forall_mem_cons.mpr ⟨List.mem_append_right _ (List.mem_append_right _ (List.mem_append_right _ (List.mem_append_right _ (List.mem_append_left _ (List.mem_of_getElem? (l := tables_1_4) (i := 173) rfl))))), fun _ h => absurd h List.not_mem_nil⟩⟩⟩⟩⟩⟩⟩⟩⟩⟩⟩⟩⟩⟩⟩⟩⟩⟩
theorem ins_tbl {ci : Nat} {q : vw_C} (h : classes[ci]? = some q) : Cond.instantiable q.1 q.2.2 ∈ lw_tbl := by
  match ci, h with
  | 0, h => cases h; exact List.mem_append_right _ (List.mem_append_left _ (List.mem_of_getElem? (l := tables_1_1) (i := 71) rfl))
  | 1, h => cases h; exact List.mem_append_right _ (List.mem_append_left _ (List.mem_of_getElem? (l := tables_1_1) (i := 236) rfl))
  | 2, h => cases h; exact List.mem_append_right _ (List.mem_append_left _ (List.mem_of_getElem? (l := tables_1_1) (i := 181) rfl))
  | 3, h => cases h; exact List.mem_append_right _ (List.mem_append_right _ (List.mem_append_left _ (List.mem_of_getElem? (l := tables_1_2) (i := 34) rfl)))
  | 4, h => cases h; exact List.mem_append_right _ (List.mem_append_left _ (List.mem_of_getElem? (l := tables_1_1) (i := 160) rfl))
  | 5, h => cases h; exact List.mem_append_right _ (List.mem_append_right _ (List.mem_append_left _ (List.mem_of_getElem? (l := tables_1_2) (i := 20) rfl)))
  | 6, h => cases h; exact List.mem_append_right _ (List.mem_append_right _ (List.mem_append_left _ (List.mem_of_getElem? (l := tables_1_2) (i := 2) rfl)))
  | 7, h => cases h; exact List.mem_append_right _ (List.mem_append_right _ (List.mem_append_left _ (List.mem_of_getElem? (l := tables_1_2) (i := 63) rfl)))
  | 8, h => cases h; exact List.mem_append_right _ (List.mem_append_right _ (List.mem_append_left _ (List.mem_of_getElem? (l := tables_1_2) (i := 75) rfl)))
  | 9, h => cases h; exact List.mem_append_right _ (List.mem_append_left _ (List.mem_of_getElem? (l := tables_1_1) (i := 30) rfl))
  | 10, h => cases h; exact List.mem_append_right _ (List.mem_append_left _ (List.mem_of_getElem? (l := tables_1_1) (i := 65) rfl))
  | 11, h => cases h; exact List.mem_append_right _ (List.mem_append_left _ (List.mem_of_getElem? (l := tables_1_1) (i := 22) rfl))
  | 12, h => cases h; exact List.mem_append_right _ (List.mem_append_right _ (List.mem_append_right _ (List.mem_append_right _ (List.mem_append_right _ (List.mem_append_left _ (List.mem_of_getElem? (l := tables_1_5) (i := 99) rfl))))))
  | c + 13, h => simp [classes] at h
theorem ao_tbl : Cond.arrayOver (.array .int) ∈ lw_tbl := List.mem_append_right _ (List.mem_append_right _ (List.mem_append_left _ (List.mem_of_getElem? (l := tables_1_2) (i := 84) rfl)))
theorem ac_i : Cond.arrayClass .int ∈ lw_tbl := List.mem_append_right _ (List.mem_append_left _ (List.mem_of_getElem? (l := tables_1_1) (i := 63) rfl))
theorem ac_b : Cond.arrayClass .byte ∈ lw_tbl := List.mem_append_right _ (List.mem_append_right _ (List.mem_append_right _ (List.mem_append_left _ (List.mem_of_getElem? (l := tables_1_3) (i := 65) rfl))))
theorem ac_z : Cond.arrayClass .boolean ∈ lw_tbl := List.mem_append_right _ (List.mem_append_right _ (List.mem_append_left _ (List.mem_of_getElem? (l := tables_1_2) (i := 135) rfl)))
theorem ac_l : Cond.arrayClass .long ∈ lw_tbl := List.mem_append_right _ (List.mem_append_left _ (List.mem_of_getElem? (l := tables_1_1) (i := 156) rfl))
theorem sr_54 : Cond.stringRef "CloudDepth$Tape" 54 "point" ∈ lw_tbl := List.mem_append_right _ (List.mem_append_right _ (List.mem_append_left _ (List.mem_of_getElem? (l := tables_1_2) (i := 187) rfl)))
theorem sr_60 : Cond.stringRef "CloudDepth$Tape" 60 "grid" ∈ lw_tbl := List.mem_append_right _ (List.mem_append_right _ (List.mem_append_right _ (List.mem_append_left _ (List.mem_of_getElem? (l := tables_1_3) (i := 0) rfl))))
theorem ls_c : Cond.laysStatic "java/lang/String" "COMPACT_STRINGS" "Z" ∈ lw_tbl := List.mem_append_right _ (List.mem_append_right _ (List.mem_append_left _ (List.mem_of_getElem? (l := tables_1_2) (i := 201) rfl)))
theorem ls_f : Cond.laysStatic "jdk/internal/util/Preconditions" "SIOOBE_FORMATTER" "Ljava/util/function/BiFunction;" ∈ lw_tbl := List.mem_append_right _ (List.mem_append_right _ (List.mem_append_left _ (List.mem_of_getElem? (l := tables_1_2) (i := 217) rfl)))
theorem in_S : Cond.initialized "java/lang/String" ∈ lw_tbl := List.mem_append_right _ (List.mem_append_left _ (List.mem_of_getElem? (l := tables_1_1) (i := 15) rfl))
theorem in_P : Cond.initialized "jdk/internal/util/Preconditions" ∈ lw_tbl := List.mem_append_right _ (List.mem_append_left _ (List.mem_of_getElem? (l := tables_1_1) (i := 17) rfl))
theorem nw_C : Cond.classLink "CloudDepthLaw" 7 "CloudDepth" ∈ lw_tbl := List.mem_append_right _ (List.mem_append_left _ (List.mem_of_getElem? (l := tables_1_1) (i := 21) rfl))
theorem nw_R : Cond.classLink "CloudDepthLaw" 10 "CloudDepthModel" ∈ lw_tbl := List.mem_append_right _ (List.mem_append_right _ (List.mem_append_right _ (List.mem_append_right _ (List.mem_append_right _ (List.mem_append_left _ (List.mem_of_getElem? (l := tables_1_5) (i := 98) rfl))))))
theorem li_C : Cond.methodLink "CloudDepthLaw" 9 (mY M_IC) ∈ LT := mG (List.mem_append_right _ (List.mem_append_left _ (List.mem_of_getElem? (l := tables_1_1) (i := 23) rfl))) rfl
theorem li_R : Cond.methodLink "CloudDepthLaw" 12 (mY M_IR) ∈ LT := mG (List.mem_append_right _ (List.mem_append_right _ (List.mem_append_right _ (List.mem_append_right _ (List.mem_append_right _ (List.mem_append_left _ (List.mem_of_getElem? (l := tables_1_5) (i := 100) rfl))))))) rfl
theorem lj_C : Cond.instanceMethod (mY M_IC) ∈ LT := mG (List.mem_append_right _ (List.mem_append_left _ (List.mem_of_getElem? (l := tables_1_1) (i := 24) rfl))) rfl
theorem lj_R : Cond.instanceMethod (mY M_IR) ∈ LT := mG (List.mem_append_right _ (List.mem_append_right _ (List.mem_append_right _ (List.mem_append_right _ (List.mem_append_right _ (List.mem_append_left _ (List.mem_of_getElem? (l := tables_1_5) (i := 101) rfl))))))) rfl
/-- the heap with which both systems begin -/
def h0I (o : Nat) : Nat → Int32 := if o = 3 then (fun k => if k = 1 then -1 else 0) else if o = 4 then (fun k => if k = 3 then 10 else 0) else if o = 8 then (fun k => if k = 3 then 10 else 0) else if o = 11 then (fun k => if k = 3 then 10 else 0) else if o = 17 then (fun k => if k = 3 then -1 else 0) else if o = 21 then (fun k => if k = 1 then -1 else 0) else if o = 26 then (fun k => if k = 1 then -1 else 0) else if o = 79 then (fun k => if k = 16 then -1 else 0) else if o = 87 then upd (fun _ => 0) 1 10 else fun _ => 0
def h0L (o : Nat) : Nat → Int64 := if o = 86 then vp_updL (vp_updL (fun _ => 0) 0 (jletters 112 111 105 110 116 0 0)) 1 (jletters 103 114 105 100 0 0 0) else fun _ => 0
def hp0 : pH := (h0I, h0L)
def adO (q0 : Nat) (u v0 v1 : Nat → Nat) (q1 : Nat) (w sK sV : Nat → Nat) (fm b o : Nat) : Nat :=
  if o = 0 then q0 else if o ≤ 31 then u (o - 1) else if o ≤ 72 then v0 (o - 32) else if o = 73 then u 31 else if o ≤ 77 then v1 (o - 74) else if o = 78 then u 32 else if o = 79 then q1 else if o ≤ 102 then w (o - 80)
  else if o = 230 then b else if o = 220 then fm else if o < 210 then sK (o - 200) else sV (o - 210)
theorem rf_32 : ∀ i, i < 40 → rf 32 i = 33 + i := by decide +kernel
theorem rf_74 : ∀ i, i < 3 → rf 74 i = 75 + i := by decide +kernel
section W0
variable {tc : Nat → ClassId} {q0 : Nat} {u v0 v1 : Nat → Nat} {q1 : Nat} {w sK sV : Nat → Nat} {fm b : Nat}
theorem cellE_o0 {ad : Nat → Nat} {tc : Nat → ClassId} {h : pH} {o x : Nat} {rs : List Nat} (ho : ob o = (0, x, rs)) : cellE ad tc h o = .inr (x, (KF.getD x []).mapIdx (fun k kd => match kd with | 2 => .ref (ad (rs.getD k 33)) | 1 => .long (hL h o k) | _ => .int (hI h o k))) := by
  have e1 : ak o = 0 := by unfold ak; rw [ho]
  have e2 : cx o = x := by unfold cx; rw [ho]
  rw [cellE_0 e1, e2]
  unfold fvs fv rf
  rw [ho]
  all_goals rfl
theorem cellE_o1 {ad : Nat → Nat} {tc : Nat → ClassId} {h : pH} {o x : Nat} {rs : List Nat} (ho : ob o = (1, x, rs)) : cellE ad tc h o = .inl (tc 1, x, .inl (h.1 o)) := by
  have e1 : ak o = 1 := by unfold ak; rw [ho]
  have e2 : cx o = x := by unfold cx; rw [ho]
  rw [cellE_1 e1, e2]
theorem cellE_o2 {ad : Nat → Nat} {tc : Nat → ClassId} {h : pH} {o x : Nat} {rs : List Nat} (ho : ob o = (2, x, rs)) : cellE ad tc h o = .inl (tc 2, x, .inl (h.1 o)) := by
  have e1 : ak o = 2 := by unfold ak; rw [ho]
  have e2 : cx o = x := by unfold cx; rw [ho]
  rw [cellE_2 e1, e2]
theorem cellE_o3 {ad : Nat → Nat} {tc : Nat → ClassId} {h : pH} {o x : Nat} {rs : List Nat} (ho : ob o = (3, x, rs)) : cellE ad tc h o = .inl (tc 3, x, .inl (h.1 o)) := by
  have e1 : ak o = 3 := by unfold ak; rw [ho]
  have e2 : cx o = x := by unfold cx; rw [ho]
  rw [cellE_3 e1, e2]
theorem cellE_o4 {ad : Nat → Nat} {tc : Nat → ClassId} {h : pH} {o x : Nat} {rs : List Nat} (ho : ob o = (4, x, rs)) : cellE ad tc h o = .inl (tc 4, x, .inr (.inl (h.2 o))) := by
  have e1 : ak o = 4 := by unfold ak; rw [ho]
  have e2 : cx o = x := by unfold cx; rw [ho]
  rw [cellE_4 e1, e2]
theorem ob_0 : ob 0 = (0, 11, [1, 3, 8, 11, 14, 17, 21, 24, 26, 28, 31, 73, 78, 0, 0]) := by decide +kernel
theorem ob_1 : ob 1 = (0, 9, [2, 0, 0, 0, 0, 0, 0]) := by decide +kernel
theorem ob_2 : ob 2 = (1, 2000, []) := by decide +kernel
theorem ob_3 : ob 3 = (0, 10, [4, 0, 1, 7, 0, 0, 0, 0, 0, 0]) := by decide +kernel
theorem ob_4 : ob 4 = (0, 0, [5, 6, 0, 0, 0]) := by decide +kernel
theorem ob_5 : ob 5 = (1, 12, []) := by decide +kernel
theorem ob_6 : ob 6 = (1, 12, []) := by decide +kernel
theorem ob_7 : ob 7 = (4, 12, []) := by decide +kernel
theorem ob_8 : ob 8 = (0, 0, [9, 10, 0, 0, 0]) := by decide +kernel
theorem ob_9 : ob 9 = (1, 12, []) := by decide +kernel
theorem ob_10 : ob 10 = (1, 12, []) := by decide +kernel
theorem ob_11 : ob 11 = (0, 0, [12, 13, 0, 0, 0]) := by decide +kernel
theorem ob_12 : ob 12 = (1, 12, []) := by decide +kernel
theorem ob_13 : ob 13 = (1, 12, []) := by decide +kernel
theorem ob_14 : ob 14 = (0, 4, [15, 16, 0, 0]) := by decide +kernel
theorem ob_15 : ob 15 = (1, 12, []) := by decide +kernel
theorem ob_16 : ob 16 = (1, 12, []) := by decide +kernel
theorem ob_17 : ob 17 = (0, 2, [18, 19, 20, 0, 0, 0, 0, 0, 0, 0, 0, 0, 0]) := by decide +kernel
theorem ob_18 : ob 18 = (1, 1681, []) := by decide +kernel
theorem ob_19 : ob 19 = (1, 12, []) := by decide +kernel
theorem ob_20 : ob 20 = (1, 12, []) := by decide +kernel
theorem ob_21 : ob 21 = (0, 1, [22, 0]) := by decide +kernel
theorem ob_22 : ob 22 = (0, 6, [23]) := by decide +kernel
theorem ob_23 : ob 23 = (1, 128, []) := by decide +kernel
theorem ob_24 : ob 24 = (0, 5, [25, 0]) := by decide +kernel
theorem ob_25 : ob 25 = (1, 66, []) := by decide +kernel
theorem ob_26 : ob 26 = (0, 3, [27, 0, 0, 0, 0, 0]) := by decide +kernel
theorem ob_27 : ob 27 = (1, 12, []) := by decide +kernel
theorem ob_28 : ob 28 = (0, 7, [29]) := by decide +kernel
theorem ob_29 : ob 29 = (0, 6, [30]) := by decide +kernel
theorem ob_30 : ob 30 = (1, 128, []) := by decide +kernel
theorem ob_31 : ob 31 = (0, 8, [32]) := by decide +kernel
theorem ob_73 : ob 73 = (0, 8, [74]) := by decide +kernel
theorem ob_78 : ob 78 = (3, 3, []) := by decide +kernel
theorem ob_79 : ob 79 = (0, 12, [0, 80, 0, 81, 0, 82, 83, 84, 85, 86, 0, 0, 0, 0, 0, 0, 0, 87, 88, 89, 90, 0, 91, 0, 0, 92, 93, 94, 95, 96, 97, 0, 0, 0, 0, 98, 99, 100, 101, 102]) := by decide +kernel
theorem ob_80 : ob 80 = (2, 2000, []) := by decide +kernel
theorem ob_81 : ob 81 = (2, 2000, []) := by decide +kernel
theorem ob_82 : ob 82 = (1, 403, []) := by decide +kernel
theorem ob_83 : ob 83 = (1, 403, []) := by decide +kernel
theorem ob_84 : ob 84 = (1, 403, []) := by decide +kernel
theorem ob_85 : ob 85 = (4, 403, []) := by decide +kernel
theorem ob_86 : ob 86 = (4, 2, []) := by decide +kernel
theorem ob_87 : ob 87 = (1, 28, []) := by decide +kernel
theorem ob_88 : ob 88 = (1, 28, []) := by decide +kernel
theorem ob_89 : ob 89 = (4, 12, []) := by decide +kernel
theorem ob_90 : ob 90 = (3, 12, []) := by decide +kernel
theorem ob_91 : ob 91 = (1, 1040, []) := by decide +kernel
theorem ob_92 : ob 92 = (1, 78, []) := by decide +kernel
theorem ob_93 : ob 93 = (3, 3, []) := by decide +kernel
theorem ob_94 : ob 94 = (1, 13, []) := by decide +kernel
theorem ob_95 : ob 95 = (1, 13, []) := by decide +kernel
theorem ob_96 : ob 96 = (1, 900, []) := by decide +kernel
theorem ob_97 : ob 97 = (1, 900, []) := by decide +kernel
theorem ob_98 : ob 98 = (1, 66, []) := by decide +kernel
theorem ob_99 : ob 99 = (1, 66, []) := by decide +kernel
theorem ob_100 : ob 100 = (1, 66, []) := by decide +kernel
theorem ob_101 : ob 101 = (1, 66, []) := by decide +kernel
theorem ob_102 : ob 102 = (1, 12, []) := by decide +kernel
theorem hp0_row {i : Nat} (h : 33 ≤ i ∧ i ≤ 77 ∧ i ≠ 73 ∧ i ≠ 74) : hp0.1 i = fun _ => 0 := by
  show h0I i = _
  unfold h0I
  rw [if_neg (by omega), if_neg (by omega), if_neg (by omega), if_neg (by omega), if_neg (by omega), if_neg (by omega), if_neg (by omega), if_neg (by omega), if_neg (by omega)]
theorem ak_row : ∀ i, i < 78 → 33 ≤ i → i ≠ 73 → i ≠ 74 → ak i = 1 ∧ cx i = 26 := by decide +kernel
theorem cell_row {ad : Nat → Nat} {i : Nat} (h : 33 ≤ i ∧ i ≤ 77 ∧ i ≠ 73 ∧ i ≠ 74) : cellE ad tc hp0 i = .inl (tc 1, 26, .inl (fun _ => 0)) := by
  obtain ⟨e1, e2⟩ := ak_row i (by omega) h.1 h.2.2.1 h.2.2.2
  rw [cellE_1 e1, e2, hp0_row h]
theorem rows_at {r : Nat → Nat} {N j : Nat} (h : j < N) : (rowsW tc r N)[j]? = some (r j, .inl (tc 1, 26, .inl (fun _ => 0))) := by
  unfold rowsW
  rw [List.getElem?_map, List.getElem?_range h]
  rfl
def flatW (tc : Nat → ClassId) (o : Nat) (u : Nat → Nat) : va_W := [(o, .inr (11, [.ref (u 0), .ref (u 2), .ref (u 7), .ref (u 10), .ref (u 13), .ref (u 16), .ref (u 20), .ref (u 23), .ref (u 25), .ref (u 27), .ref (u 30), .ref (u 31), .ref (u 32), .int 0, .int 0])), ((u 0), .inr (9, [.ref (u 1), .int 0, .int 0, .int 0, .int 0, .long 0, .int 0])), ((u 1), .inl (tc 1, 2000, .inl (fun _ => 0))), ((u 2), .inr (10, [.ref (u 3), .int (-1), .ref (u 0), .ref (u 6), .int 0, .int 0, .int 0, .int 0, .int 0, .int 0])), ((u 3), .inr (0, [.ref (u 4), .ref (u 5), .int 0, .int 10, .int 0])), ((u 4), .inl (tc 1, 12, .inl (fun _ => 0))), ((u 5), .inl (tc 1, 12, .inl (fun _ => 0))), ((u 6), .inl (tc 4, 12, .inr (.inl (fun _ => 0)))), ((u 7), .inr (0, [.ref (u 8), .ref (u 9), .int 0, .int 10, .int 0])), ((u 8), .inl (tc 1, 12, .inl (fun _ => 0))), ((u 9), .inl (tc 1, 12, .inl (fun _ => 0))), ((u 10), .inr (0, [.ref (u 11), .ref (u 12), .int 0, .int 10, .int 0])), ((u 11), .inl (tc 1, 12, .inl (fun _ => 0))), ((u 12), .inl (tc 1, 12, .inl (fun _ => 0))), ((u 13), .inr (4, [.ref (u 14), .ref (u 15), .int 0, .int 0])), ((u 14), .inl (tc 1, 12, .inl (fun _ => 0))), ((u 15), .inl (tc 1, 12, .inl (fun _ => 0))), ((u 16), .inr (2, [.ref (u 17), .ref (u 18), .ref (u 19), .int (-1), .int 0, .int 0, .int 0, .int 0, .int 0, .int 0, .int 0, .int 0, .int 0])), ((u 17), .inl (tc 1, 1681, .inl (fun _ => 0))), ((u 18), .inl (tc 1, 12, .inl (fun _ => 0))), ((u 19), .inl (tc 1, 12, .inl (fun _ => 0))), ((u 20), .inr (1, [.ref (u 21), .int (-1)])), ((u 21), .inr (6, [.ref (u 22)])), ((u 22), .inl (tc 1, 128, .inl (fun _ => 0))), ((u 23), .inr (5, [.ref (u 24), .int 0])), ((u 24), .inl (tc 1, 66, .inl (fun _ => 0))), ((u 25), .inr (3, [.ref (u 26), .int (-1), .int 0, .int 0, .int 0, .int 0])), ((u 26), .inl (tc 1, 12, .inl (fun _ => 0))), ((u 27), .inr (7, [.ref (u 28)])), ((u 28), .inr (6, [.ref (u 29)])), ((u 29), .inl (tc 1, 128, .inl (fun _ => 0)))]
theorem W_C_eq : W_C tc q0 u v0 v1 = ((flatW tc q0 u ++ W_Shelf tc (u 30) 40 v0) ++ W_Shelf tc (u 31) 3 v1) ++ [((u 32), .inl (tc 3, 3, .inl (fun _ => 0)))] := rfl
set_option maxHeartbeats 400000 in
theorem fl_0 : (flatW tc q0 u)[0]? = some (adO q0 u v0 v1 q1 w sK sV fm b 0, cellE (adO q0 u v0 v1 q1 w sK sV fm b) tc hp0 0) := by rw [cellE_o0 ob_0]; rfl
set_option maxHeartbeats 400000 in
theorem fl_1 : (flatW tc q0 u)[1]? = some (adO q0 u v0 v1 q1 w sK sV fm b 1, cellE (adO q0 u v0 v1 q1 w sK sV fm b) tc hp0 1) := by rw [cellE_o0 ob_1]; rfl
set_option maxHeartbeats 400000 in
theorem fl_2 : (flatW tc q0 u)[2]? = some (adO q0 u v0 v1 q1 w sK sV fm b 2, cellE (adO q0 u v0 v1 q1 w sK sV fm b) tc hp0 2) := by rw [cellE_o1 ob_2]; rfl
set_option maxHeartbeats 400000 in
theorem fl_3 : (flatW tc q0 u)[3]? = some (adO q0 u v0 v1 q1 w sK sV fm b 3, cellE (adO q0 u v0 v1 q1 w sK sV fm b) tc hp0 3) := by rw [cellE_o0 ob_3]; rfl
set_option maxHeartbeats 400000 in
theorem fl_4 : (flatW tc q0 u)[4]? = some (adO q0 u v0 v1 q1 w sK sV fm b 4, cellE (adO q0 u v0 v1 q1 w sK sV fm b) tc hp0 4) := by rw [cellE_o0 ob_4]; rfl
set_option maxHeartbeats 400000 in
theorem fl_5 : (flatW tc q0 u)[5]? = some (adO q0 u v0 v1 q1 w sK sV fm b 5, cellE (adO q0 u v0 v1 q1 w sK sV fm b) tc hp0 5) := by rw [cellE_o1 ob_5]; rfl
set_option maxHeartbeats 400000 in
theorem fl_6 : (flatW tc q0 u)[6]? = some (adO q0 u v0 v1 q1 w sK sV fm b 6, cellE (adO q0 u v0 v1 q1 w sK sV fm b) tc hp0 6) := by rw [cellE_o1 ob_6]; rfl
set_option maxHeartbeats 400000 in
theorem fl_7 : (flatW tc q0 u)[7]? = some (adO q0 u v0 v1 q1 w sK sV fm b 7, cellE (adO q0 u v0 v1 q1 w sK sV fm b) tc hp0 7) := by rw [cellE_o4 ob_7]; rfl
set_option maxHeartbeats 400000 in
theorem fl_8 : (flatW tc q0 u)[8]? = some (adO q0 u v0 v1 q1 w sK sV fm b 8, cellE (adO q0 u v0 v1 q1 w sK sV fm b) tc hp0 8) := by rw [cellE_o0 ob_8]; rfl
set_option maxHeartbeats 400000 in
theorem fl_9 : (flatW tc q0 u)[9]? = some (adO q0 u v0 v1 q1 w sK sV fm b 9, cellE (adO q0 u v0 v1 q1 w sK sV fm b) tc hp0 9) := by rw [cellE_o1 ob_9]; rfl
set_option maxHeartbeats 400000 in
theorem fl_10 : (flatW tc q0 u)[10]? = some (adO q0 u v0 v1 q1 w sK sV fm b 10, cellE (adO q0 u v0 v1 q1 w sK sV fm b) tc hp0 10) := by rw [cellE_o1 ob_10]; rfl
set_option maxHeartbeats 400000 in
theorem fl_11 : (flatW tc q0 u)[11]? = some (adO q0 u v0 v1 q1 w sK sV fm b 11, cellE (adO q0 u v0 v1 q1 w sK sV fm b) tc hp0 11) := by rw [cellE_o0 ob_11]; rfl
set_option maxHeartbeats 400000 in
theorem fl_12 : (flatW tc q0 u)[12]? = some (adO q0 u v0 v1 q1 w sK sV fm b 12, cellE (adO q0 u v0 v1 q1 w sK sV fm b) tc hp0 12) := by rw [cellE_o1 ob_12]; rfl
set_option maxHeartbeats 400000 in
theorem fl_13 : (flatW tc q0 u)[13]? = some (adO q0 u v0 v1 q1 w sK sV fm b 13, cellE (adO q0 u v0 v1 q1 w sK sV fm b) tc hp0 13) := by rw [cellE_o1 ob_13]; rfl
set_option maxHeartbeats 400000 in
theorem fl_14 : (flatW tc q0 u)[14]? = some (adO q0 u v0 v1 q1 w sK sV fm b 14, cellE (adO q0 u v0 v1 q1 w sK sV fm b) tc hp0 14) := by rw [cellE_o0 ob_14]; rfl
set_option maxHeartbeats 400000 in
theorem fl_15 : (flatW tc q0 u)[15]? = some (adO q0 u v0 v1 q1 w sK sV fm b 15, cellE (adO q0 u v0 v1 q1 w sK sV fm b) tc hp0 15) := by rw [cellE_o1 ob_15]; rfl
set_option maxHeartbeats 400000 in
theorem fl_16 : (flatW tc q0 u)[16]? = some (adO q0 u v0 v1 q1 w sK sV fm b 16, cellE (adO q0 u v0 v1 q1 w sK sV fm b) tc hp0 16) := by rw [cellE_o1 ob_16]; rfl
set_option maxHeartbeats 400000 in
theorem fl_17 : (flatW tc q0 u)[17]? = some (adO q0 u v0 v1 q1 w sK sV fm b 17, cellE (adO q0 u v0 v1 q1 w sK sV fm b) tc hp0 17) := by rw [cellE_o0 ob_17]; rfl
set_option maxHeartbeats 400000 in
theorem fl_18 : (flatW tc q0 u)[18]? = some (adO q0 u v0 v1 q1 w sK sV fm b 18, cellE (adO q0 u v0 v1 q1 w sK sV fm b) tc hp0 18) := by rw [cellE_o1 ob_18]; rfl
set_option maxHeartbeats 400000 in
theorem fl_19 : (flatW tc q0 u)[19]? = some (adO q0 u v0 v1 q1 w sK sV fm b 19, cellE (adO q0 u v0 v1 q1 w sK sV fm b) tc hp0 19) := by rw [cellE_o1 ob_19]; rfl
set_option maxHeartbeats 400000 in
theorem fl_20 : (flatW tc q0 u)[20]? = some (adO q0 u v0 v1 q1 w sK sV fm b 20, cellE (adO q0 u v0 v1 q1 w sK sV fm b) tc hp0 20) := by rw [cellE_o1 ob_20]; rfl
set_option maxHeartbeats 400000 in
theorem fl_21 : (flatW tc q0 u)[21]? = some (adO q0 u v0 v1 q1 w sK sV fm b 21, cellE (adO q0 u v0 v1 q1 w sK sV fm b) tc hp0 21) := by rw [cellE_o0 ob_21]; rfl
set_option maxHeartbeats 400000 in
theorem fl_22 : (flatW tc q0 u)[22]? = some (adO q0 u v0 v1 q1 w sK sV fm b 22, cellE (adO q0 u v0 v1 q1 w sK sV fm b) tc hp0 22) := by rw [cellE_o0 ob_22]; rfl
set_option maxHeartbeats 400000 in
theorem fl_23 : (flatW tc q0 u)[23]? = some (adO q0 u v0 v1 q1 w sK sV fm b 23, cellE (adO q0 u v0 v1 q1 w sK sV fm b) tc hp0 23) := by rw [cellE_o1 ob_23]; rfl
set_option maxHeartbeats 400000 in
theorem fl_24 : (flatW tc q0 u)[24]? = some (adO q0 u v0 v1 q1 w sK sV fm b 24, cellE (adO q0 u v0 v1 q1 w sK sV fm b) tc hp0 24) := by rw [cellE_o0 ob_24]; rfl
set_option maxHeartbeats 400000 in
theorem fl_25 : (flatW tc q0 u)[25]? = some (adO q0 u v0 v1 q1 w sK sV fm b 25, cellE (adO q0 u v0 v1 q1 w sK sV fm b) tc hp0 25) := by rw [cellE_o1 ob_25]; rfl
set_option maxHeartbeats 400000 in
theorem fl_26 : (flatW tc q0 u)[26]? = some (adO q0 u v0 v1 q1 w sK sV fm b 26, cellE (adO q0 u v0 v1 q1 w sK sV fm b) tc hp0 26) := by rw [cellE_o0 ob_26]; rfl
set_option maxHeartbeats 400000 in
theorem fl_27 : (flatW tc q0 u)[27]? = some (adO q0 u v0 v1 q1 w sK sV fm b 27, cellE (adO q0 u v0 v1 q1 w sK sV fm b) tc hp0 27) := by rw [cellE_o1 ob_27]; rfl
set_option maxHeartbeats 400000 in
theorem fl_28 : (flatW tc q0 u)[28]? = some (adO q0 u v0 v1 q1 w sK sV fm b 28, cellE (adO q0 u v0 v1 q1 w sK sV fm b) tc hp0 28) := by rw [cellE_o0 ob_28]; rfl
set_option maxHeartbeats 400000 in
theorem fl_29 : (flatW tc q0 u)[29]? = some (adO q0 u v0 v1 q1 w sK sV fm b 29, cellE (adO q0 u v0 v1 q1 w sK sV fm b) tc hp0 29) := by rw [cellE_o0 ob_29]; rfl
set_option maxHeartbeats 400000 in
theorem fl_30 : (flatW tc q0 u)[30]? = some (adO q0 u v0 v1 q1 w sK sV fm b 30, cellE (adO q0 u v0 v1 q1 w sK sV fm b) tc hp0 30) := by rw [cellE_o1 ob_30]; rfl
theorem fl_at : ∀ i, i < 31 → (flatW tc q0 u)[i]? = some (adO q0 u v0 v1 q1 w sK sV fm b i, cellE (adO q0 u v0 v1 q1 w sK sV fm b) tc hp0 i) := (lt_s (lt_s (lt_s (lt_s (lt_s (lt_s (lt_s (lt_s (lt_s (lt_s (lt_s (lt_s (lt_s (lt_s (lt_s (lt_s (lt_s (lt_s (lt_s (lt_s (lt_s (lt_s (lt_s (lt_s (lt_s (lt_s (lt_s (lt_s (lt_s (lt_s (lt_s lt_0 fl_0) fl_1) fl_2) fl_3) fl_4) fl_5) fl_6) fl_7) fl_8) fl_9) fl_10) fl_11) fl_12) fl_13) fl_14) fl_15) fl_16) fl_17) fl_18) fl_19) fl_20) fl_21) fl_22) fl_23) fl_24) fl_25) fl_26) fl_27) fl_28) fl_29) fl_30)
theorem sh_at {i : Nat} (h1 : 31 ≤ i) (h2 : i < 73) : (W_Shelf tc (u 30) 40 v0)[i - 31]? = some (adO q0 u v0 v1 q1 w sK sV fm b i, cellE (adO q0 u v0 v1 q1 w sK sV fm b) tc hp0 i) := by
  by_cases e1 : i = 31
  · subst e1; rw [cellE_o0 ob_31]; rfl
  by_cases e2 : i = 32
  · subst e2
    show some (v0 0, (Sum.inl (tc 5, 40, .inr (.inr (.inr (.inr (fun i => if i < 40 then some (v0 (1 + i)) else none))))) : va_E)) = some (v0 0, (Sum.inl (tc 5, 40, .inr (.inr (.inr (.inr (fun i => if i < 40 then some (adO q0 u v0 v1 q1 w sK sV fm b (rf 32 i)) else none))))) : va_E))
    have e : (fun i => if i < 40 then some (adO q0 u v0 v1 q1 w sK sV fm b (rf 32 i)) else none) = (fun i => if i < 40 then some (v0 (1 + i)) else none) := by
      funext i
      by_cases hi : i < 40
      · rw [if_pos hi, if_pos hi, rf_32 i hi]
        unfold adO
        rw [if_neg (by omega), if_neg (by omega), if_pos (by omega)]
        congr 2
        omega
      · rw [if_neg hi, if_neg hi]
    rw [e]
  · obtain ⟨j, rfl⟩ : ∃ j, i = 33 + j := ⟨i - 33, by omega⟩
    rw [show 33 + j - 31 = j + 1 + 1 by omega]
    show (rowsW tc (fun i => v0 (1 + i)) 40)[j]? = _
    rw [rows_at (by omega), cell_row ⟨by omega, by omega, by omega, by omega⟩]
    have : adO q0 u v0 v1 q1 w sK sV fm b (33 + j) = v0 (1 + j) := by
      unfold adO
      rw [if_neg (by omega), if_neg (by omega), if_pos (by omega)]
      congr 1
      omega
    rw [this]
theorem sl_at {i : Nat} (h1 : 73 ≤ i) (h2 : i < 78) : (W_Shelf tc (u 31) 3 v1)[i - 73]? = some (adO q0 u v0 v1 q1 w sK sV fm b i, cellE (adO q0 u v0 v1 q1 w sK sV fm b) tc hp0 i) := by
  by_cases e1 : i = 73
  · subst e1; rw [cellE_o0 ob_73]; rfl
  by_cases e2 : i = 74
  · subst e2
    show some (v1 0, (Sum.inl (tc 5, 3, .inr (.inr (.inr (.inr (fun i => if i < 3 then some (v1 (1 + i)) else none))))) : va_E)) = some (v1 0, (Sum.inl (tc 5, 3, .inr (.inr (.inr (.inr (fun i => if i < 3 then some (adO q0 u v0 v1 q1 w sK sV fm b (rf 74 i)) else none))))) : va_E))
    have e : (fun i => if i < 3 then some (adO q0 u v0 v1 q1 w sK sV fm b (rf 74 i)) else none) = (fun i => if i < 3 then some (v1 (1 + i)) else none) := by
      funext i
      by_cases hi : i < 3
      · rw [if_pos hi, if_pos hi, rf_74 i hi]
        unfold adO
        rw [if_neg (by omega), if_neg (by omega), if_neg (by omega), if_neg (by omega), if_pos (by omega)]
        congr 2
        omega
      · rw [if_neg hi, if_neg hi]
    rw [e]
  · obtain ⟨j, rfl⟩ : ∃ j, i = 75 + j := ⟨i - 75, by omega⟩
    rw [show 75 + j - 73 = j + 1 + 1 by omega]
    show (rowsW tc (fun i => v1 (1 + i)) 3)[j]? = _
    rw [rows_at (by omega), cell_row ⟨by omega, by omega, by omega, by omega⟩]
    have : adO q0 u v0 v1 q1 w sK sV fm b (75 + j) = v1 (1 + j) := by
      unfold adO
      rw [if_neg (by omega), if_neg (by omega), if_neg (by omega), if_neg (by omega), if_pos (by omega)]
      congr 1
      omega
    rw [this]
theorem wC_at {i : Nat} (h : i < 79) : (W_C tc q0 u v0 v1)[i]? = some (adO q0 u v0 v1 q1 w sK sV fm b i, cellE (adO q0 u v0 v1 q1 w sK sV fm b) tc hp0 i) := by
  rw [W_C_eq]
  have l1 : (flatW tc q0 u).length = 31 := rfl
  have l2 : (W_Shelf tc (u 30) 40 v0).length = 42 := rfl
  have l3 : (W_Shelf tc (u 31) 3 v1).length = 5 := rfl
  by_cases e1 : i < 78
  · rw [List.getElem?_append_left (by simp only [List.length_append, l1, l2, l3]; omega)]
    by_cases e2 : i < 73
    · rw [List.getElem?_append_left (by simp only [List.length_append, l1, l2]; omega)]
      by_cases e3 : i < 31
      · rw [List.getElem?_append_left (by omega)]
        exact fl_at i e3
      · rw [List.getElem?_append_right (by omega), l1]
        exact sh_at (by omega) e2
    · rw [List.getElem?_append_right (by simp only [List.length_append, l1, l2]; omega)]
      simp only [List.length_append, l1, l2]
      exact sl_at (by omega) e1
  · have : i = 78 := by omega
    subst this
    rw [List.getElem?_append_right (by simp only [List.length_append, l1, l2, l3]; omega)]
    simp only [List.length_append, l1, l2, l3]
    rw [cellE_o3 ob_78]
    rfl
theorem ad_w : ∀ k, k < 23 → adO q0 u v0 v1 q1 w sK sV fm b (80 + k) = w k := by
  intro k hk
  unfold adO
  rw [if_neg (by omega), if_neg (by omega), if_neg (by omega), if_neg (by omega), if_neg (by omega), if_neg (by omega), if_neg (by omega), if_pos (by omega)]
  congr 1
  omega
theorem ad_80 : adO q0 u v0 v1 q1 w sK sV fm b 80 = w 0 := ad_w 0 (by decide)
theorem ad_81 : adO q0 u v0 v1 q1 w sK sV fm b 81 = w 1 := ad_w 1 (by decide)
theorem ad_82 : adO q0 u v0 v1 q1 w sK sV fm b 82 = w 2 := ad_w 2 (by decide)
theorem ad_83 : adO q0 u v0 v1 q1 w sK sV fm b 83 = w 3 := ad_w 3 (by decide)
theorem ad_84 : adO q0 u v0 v1 q1 w sK sV fm b 84 = w 4 := ad_w 4 (by decide)
theorem ad_85 : adO q0 u v0 v1 q1 w sK sV fm b 85 = w 5 := ad_w 5 (by decide)
theorem ad_86 : adO q0 u v0 v1 q1 w sK sV fm b 86 = w 6 := ad_w 6 (by decide)
theorem ad_87 : adO q0 u v0 v1 q1 w sK sV fm b 87 = w 7 := ad_w 7 (by decide)
theorem ad_88 : adO q0 u v0 v1 q1 w sK sV fm b 88 = w 8 := ad_w 8 (by decide)
theorem ad_89 : adO q0 u v0 v1 q1 w sK sV fm b 89 = w 9 := ad_w 9 (by decide)
theorem ad_90 : adO q0 u v0 v1 q1 w sK sV fm b 90 = w 10 := ad_w 10 (by decide)
theorem ad_91 : adO q0 u v0 v1 q1 w sK sV fm b 91 = w 11 := ad_w 11 (by decide)
theorem ad_92 : adO q0 u v0 v1 q1 w sK sV fm b 92 = w 12 := ad_w 12 (by decide)
theorem ad_93 : adO q0 u v0 v1 q1 w sK sV fm b 93 = w 13 := ad_w 13 (by decide)
theorem ad_94 : adO q0 u v0 v1 q1 w sK sV fm b 94 = w 14 := ad_w 14 (by decide)
theorem ad_95 : adO q0 u v0 v1 q1 w sK sV fm b 95 = w 15 := ad_w 15 (by decide)
theorem ad_96 : adO q0 u v0 v1 q1 w sK sV fm b 96 = w 16 := ad_w 16 (by decide)
theorem ad_97 : adO q0 u v0 v1 q1 w sK sV fm b 97 = w 17 := ad_w 17 (by decide)
theorem ad_98 : adO q0 u v0 v1 q1 w sK sV fm b 98 = w 18 := ad_w 18 (by decide)
theorem ad_99 : adO q0 u v0 v1 q1 w sK sV fm b 99 = w 19 := ad_w 19 (by decide)
theorem ad_100 : adO q0 u v0 v1 q1 w sK sV fm b 100 = w 20 := ad_w 20 (by decide)
theorem ad_101 : adO q0 u v0 v1 q1 w sK sV fm b 101 = w 21 := ad_w 21 (by decide)
theorem ad_102 : adO q0 u v0 v1 q1 w sK sV fm b 102 = w 22 := ad_w 22 (by decide)
def F79 (ad : Nat → Nat) (k kd : Nat) : Value := match kd with | 2 => Value.ref (ad ([0, 80, 0, 81, 0, 82, 83, 84, 85, 86, 0, 0, 0, 0, 0, 0, 0, 87, 88, 89, 90, 0, 91, 0, 0, 92, 93, 94, 95, 96, 97, 0, 0, 0, 0, 98, 99, 100, 101, 102].getD k 33)) | 1 => .long (hL hp0 79 k) | _ => .int (hI hp0 79 k)
def L79 (ad : Nat → Nat) : List Value := [.int (hI hp0 79 0), .ref (ad 80), .int (hI hp0 79 2), .ref (ad 81), .int (hI hp0 79 4), .ref (ad 82), .ref (ad 83), .ref (ad 84), .ref (ad 85), .ref (ad 86), .int (hI hp0 79 10), .int (hI hp0 79 11), .int (hI hp0 79 12), .int (hI hp0 79 13), .int (hI hp0 79 14), .int (hI hp0 79 15), .int (hI hp0 79 16), .ref (ad 87), .ref (ad 88), .ref (ad 89), .ref (ad 90), .int (hI hp0 79 21), .ref (ad 91), .int (hI hp0 79 23), .int (hI hp0 79 24), .ref (ad 92), .ref (ad 93), .ref (ad 94), .ref (ad 95), .ref (ad 96), .ref (ad 97), .int (hI hp0 79 31), .int (hI hp0 79 32), .int (hI hp0 79 33), .int (hI hp0 79 34), .ref (ad 98), .ref (ad 99), .ref (ad 100), .ref (ad 101), .ref (ad 102)]
theorem e79_0 {ad : Nat → Nat} : (((KF.getD 12 [])[0]?).map (F79 ad 0)) = (L79 ad)[0]? := rfl
theorem e79_1 {ad : Nat → Nat} : (((KF.getD 12 [])[1]?).map (F79 ad 1)) = (L79 ad)[1]? := rfl
theorem e79_2 {ad : Nat → Nat} : (((KF.getD 12 [])[2]?).map (F79 ad 2)) = (L79 ad)[2]? := rfl
theorem e79_3 {ad : Nat → Nat} : (((KF.getD 12 [])[3]?).map (F79 ad 3)) = (L79 ad)[3]? := rfl
theorem e79_4 {ad : Nat → Nat} : (((KF.getD 12 [])[4]?).map (F79 ad 4)) = (L79 ad)[4]? := rfl
theorem e79_5 {ad : Nat → Nat} : (((KF.getD 12 [])[5]?).map (F79 ad 5)) = (L79 ad)[5]? := rfl
theorem e79_6 {ad : Nat → Nat} : (((KF.getD 12 [])[6]?).map (F79 ad 6)) = (L79 ad)[6]? := rfl
theorem e79_7 {ad : Nat → Nat} : (((KF.getD 12 [])[7]?).map (F79 ad 7)) = (L79 ad)[7]? := rfl
theorem e79_8 {ad : Nat → Nat} : (((KF.getD 12 [])[8]?).map (F79 ad 8)) = (L79 ad)[8]? := rfl
theorem e79_9 {ad : Nat → Nat} : (((KF.getD 12 [])[9]?).map (F79 ad 9)) = (L79 ad)[9]? := rfl
theorem e79_10 {ad : Nat → Nat} : (((KF.getD 12 [])[10]?).map (F79 ad 10)) = (L79 ad)[10]? := rfl
theorem e79_11 {ad : Nat → Nat} : (((KF.getD 12 [])[11]?).map (F79 ad 11)) = (L79 ad)[11]? := rfl
theorem e79_12 {ad : Nat → Nat} : (((KF.getD 12 [])[12]?).map (F79 ad 12)) = (L79 ad)[12]? := rfl
theorem e79_13 {ad : Nat → Nat} : (((KF.getD 12 [])[13]?).map (F79 ad 13)) = (L79 ad)[13]? := rfl
theorem e79_14 {ad : Nat → Nat} : (((KF.getD 12 [])[14]?).map (F79 ad 14)) = (L79 ad)[14]? := rfl
theorem e79_15 {ad : Nat → Nat} : (((KF.getD 12 [])[15]?).map (F79 ad 15)) = (L79 ad)[15]? := rfl
theorem e79_16 {ad : Nat → Nat} : (((KF.getD 12 [])[16]?).map (F79 ad 16)) = (L79 ad)[16]? := rfl
theorem e79_17 {ad : Nat → Nat} : (((KF.getD 12 [])[17]?).map (F79 ad 17)) = (L79 ad)[17]? := rfl
theorem e79_18 {ad : Nat → Nat} : (((KF.getD 12 [])[18]?).map (F79 ad 18)) = (L79 ad)[18]? := rfl
theorem e79_19 {ad : Nat → Nat} : (((KF.getD 12 [])[19]?).map (F79 ad 19)) = (L79 ad)[19]? := rfl
theorem e79_20 {ad : Nat → Nat} : (((KF.getD 12 [])[20]?).map (F79 ad 20)) = (L79 ad)[20]? := rfl
theorem e79_21 {ad : Nat → Nat} : (((KF.getD 12 [])[21]?).map (F79 ad 21)) = (L79 ad)[21]? := rfl
theorem e79_22 {ad : Nat → Nat} : (((KF.getD 12 [])[22]?).map (F79 ad 22)) = (L79 ad)[22]? := rfl
theorem e79_23 {ad : Nat → Nat} : (((KF.getD 12 [])[23]?).map (F79 ad 23)) = (L79 ad)[23]? := rfl
theorem e79_24 {ad : Nat → Nat} : (((KF.getD 12 [])[24]?).map (F79 ad 24)) = (L79 ad)[24]? := rfl
theorem e79_25 {ad : Nat → Nat} : (((KF.getD 12 [])[25]?).map (F79 ad 25)) = (L79 ad)[25]? := rfl
theorem e79_26 {ad : Nat → Nat} : (((KF.getD 12 [])[26]?).map (F79 ad 26)) = (L79 ad)[26]? := rfl
theorem e79_27 {ad : Nat → Nat} : (((KF.getD 12 [])[27]?).map (F79 ad 27)) = (L79 ad)[27]? := rfl
theorem e79_28 {ad : Nat → Nat} : (((KF.getD 12 [])[28]?).map (F79 ad 28)) = (L79 ad)[28]? := rfl
theorem e79_29 {ad : Nat → Nat} : (((KF.getD 12 [])[29]?).map (F79 ad 29)) = (L79 ad)[29]? := rfl
theorem e79_30 {ad : Nat → Nat} : (((KF.getD 12 [])[30]?).map (F79 ad 30)) = (L79 ad)[30]? := rfl
theorem e79_31 {ad : Nat → Nat} : (((KF.getD 12 [])[31]?).map (F79 ad 31)) = (L79 ad)[31]? := rfl
theorem e79_32 {ad : Nat → Nat} : (((KF.getD 12 [])[32]?).map (F79 ad 32)) = (L79 ad)[32]? := rfl
theorem e79_33 {ad : Nat → Nat} : (((KF.getD 12 [])[33]?).map (F79 ad 33)) = (L79 ad)[33]? := rfl
theorem e79_34 {ad : Nat → Nat} : (((KF.getD 12 [])[34]?).map (F79 ad 34)) = (L79 ad)[34]? := rfl
theorem e79_35 {ad : Nat → Nat} : (((KF.getD 12 [])[35]?).map (F79 ad 35)) = (L79 ad)[35]? := rfl
theorem e79_36 {ad : Nat → Nat} : (((KF.getD 12 [])[36]?).map (F79 ad 36)) = (L79 ad)[36]? := rfl
theorem e79_37 {ad : Nat → Nat} : (((KF.getD 12 [])[37]?).map (F79 ad 37)) = (L79 ad)[37]? := rfl
theorem e79_38 {ad : Nat → Nat} : (((KF.getD 12 [])[38]?).map (F79 ad 38)) = (L79 ad)[38]? := rfl
theorem e79_39 {ad : Nat → Nat} : (((KF.getD 12 [])[39]?).map (F79 ad 39)) = (L79 ad)[39]? := rfl
theorem e79_all {ad : Nat → Nat} : ∀ k, k < 40 → (((KF.getD 12 [])[k]?).map (F79 ad k)) = (L79 ad)[k]? := (lt_s (lt_s (lt_s (lt_s (lt_s (lt_s (lt_s (lt_s (lt_s (lt_s (lt_s (lt_s (lt_s (lt_s (lt_s (lt_s (lt_s (lt_s (lt_s (lt_s (lt_s (lt_s (lt_s (lt_s (lt_s (lt_s (lt_s (lt_s (lt_s (lt_s (lt_s (lt_s (lt_s (lt_s (lt_s (lt_s (lt_s (lt_s (lt_s (lt_s lt_0 e79_0) e79_1) e79_2) e79_3) e79_4) e79_5) e79_6) e79_7) e79_8) e79_9) e79_10) e79_11) e79_12) e79_13) e79_14) e79_15) e79_16) e79_17) e79_18) e79_19) e79_20) e79_21) e79_22) e79_23) e79_24) e79_25) e79_26) e79_27) e79_28) e79_29) e79_30) e79_31) e79_32) e79_33) e79_34) e79_35) e79_36) e79_37) e79_38) e79_39)
theorem e79 {ad : Nat → Nat} : (KF.getD 12 []).mapIdx (F79 ad) = L79 ad := by
  apply List.ext_getElem?
  intro k
  rw [List.getElem?_mapIdx]
  by_cases hk : k < 40
  · exact e79_all k hk
  · rw [List.getElem?_eq_none (by have e : (KF.getD 12 []).length = 40 := rfl; omega), List.getElem?_eq_none (by have e : (L79 ad).length = 40 := rfl; omega)]
    rfl
theorem wR_0 : (W_R tc q1 w)[0]? = some (adO q0 u v0 v1 q1 w sK sV fm b (79 + 0), cellE (adO q0 u v0 v1 q1 w sK sV fm b) tc hp0 (79 + 0)) := by
  rw [show 79 + 0 = 79 from rfl, cellE_o0 ob_79]
  show some (q1, (Sum.inr (12, _) : va_E)) = some (q1, (Sum.inr (12, (KF.getD 12 []).mapIdx (F79 (adO q0 u v0 v1 q1 w sK sV fm b))) : va_E))
  rw [e79]
  unfold L79
  rw [ad_80, ad_81, ad_82, ad_83, ad_84, ad_85, ad_86, ad_87, ad_88, ad_89, ad_90, ad_91, ad_92, ad_93, ad_94, ad_95, ad_96, ad_97, ad_98, ad_99, ad_100, ad_101, ad_102]
  rfl
set_option maxHeartbeats 400000 in
theorem wR_1 : (W_R tc q1 w)[1]? = some (adO q0 u v0 v1 q1 w sK sV fm b (79 + 1), cellE (adO q0 u v0 v1 q1 w sK sV fm b) tc hp0 (79 + 1)) := by rw [show 79 + 1 = 80 from rfl, cellE_o2 ob_80]; rfl
set_option maxHeartbeats 400000 in
theorem wR_2 : (W_R tc q1 w)[2]? = some (adO q0 u v0 v1 q1 w sK sV fm b (79 + 2), cellE (adO q0 u v0 v1 q1 w sK sV fm b) tc hp0 (79 + 2)) := by rw [show 79 + 2 = 81 from rfl, cellE_o2 ob_81]; rfl
set_option maxHeartbeats 400000 in
theorem wR_3 : (W_R tc q1 w)[3]? = some (adO q0 u v0 v1 q1 w sK sV fm b (79 + 3), cellE (adO q0 u v0 v1 q1 w sK sV fm b) tc hp0 (79 + 3)) := by rw [show 79 + 3 = 82 from rfl, cellE_o1 ob_82]; rfl
set_option maxHeartbeats 400000 in
theorem wR_4 : (W_R tc q1 w)[4]? = some (adO q0 u v0 v1 q1 w sK sV fm b (79 + 4), cellE (adO q0 u v0 v1 q1 w sK sV fm b) tc hp0 (79 + 4)) := by rw [show 79 + 4 = 83 from rfl, cellE_o1 ob_83]; rfl
set_option maxHeartbeats 400000 in
theorem wR_5 : (W_R tc q1 w)[5]? = some (adO q0 u v0 v1 q1 w sK sV fm b (79 + 5), cellE (adO q0 u v0 v1 q1 w sK sV fm b) tc hp0 (79 + 5)) := by rw [show 79 + 5 = 84 from rfl, cellE_o1 ob_84]; rfl
set_option maxHeartbeats 400000 in
theorem wR_6 : (W_R tc q1 w)[6]? = some (adO q0 u v0 v1 q1 w sK sV fm b (79 + 6), cellE (adO q0 u v0 v1 q1 w sK sV fm b) tc hp0 (79 + 6)) := by rw [show 79 + 6 = 85 from rfl, cellE_o4 ob_85]; rfl
set_option maxHeartbeats 400000 in
theorem wR_7 : (W_R tc q1 w)[7]? = some (adO q0 u v0 v1 q1 w sK sV fm b (79 + 7), cellE (adO q0 u v0 v1 q1 w sK sV fm b) tc hp0 (79 + 7)) := by rw [show 79 + 7 = 86 from rfl, cellE_o4 ob_86]; rfl
set_option maxHeartbeats 400000 in
theorem wR_8 : (W_R tc q1 w)[8]? = some (adO q0 u v0 v1 q1 w sK sV fm b (79 + 8), cellE (adO q0 u v0 v1 q1 w sK sV fm b) tc hp0 (79 + 8)) := by rw [show 79 + 8 = 87 from rfl, cellE_o1 ob_87]; rfl
set_option maxHeartbeats 400000 in
theorem wR_9 : (W_R tc q1 w)[9]? = some (adO q0 u v0 v1 q1 w sK sV fm b (79 + 9), cellE (adO q0 u v0 v1 q1 w sK sV fm b) tc hp0 (79 + 9)) := by rw [show 79 + 9 = 88 from rfl, cellE_o1 ob_88]; rfl
set_option maxHeartbeats 400000 in
theorem wR_10 : (W_R tc q1 w)[10]? = some (adO q0 u v0 v1 q1 w sK sV fm b (79 + 10), cellE (adO q0 u v0 v1 q1 w sK sV fm b) tc hp0 (79 + 10)) := by rw [show 79 + 10 = 89 from rfl, cellE_o4 ob_89]; rfl
set_option maxHeartbeats 400000 in
theorem wR_11 : (W_R tc q1 w)[11]? = some (adO q0 u v0 v1 q1 w sK sV fm b (79 + 11), cellE (adO q0 u v0 v1 q1 w sK sV fm b) tc hp0 (79 + 11)) := by rw [show 79 + 11 = 90 from rfl, cellE_o3 ob_90]; rfl
set_option maxHeartbeats 400000 in
theorem wR_12 : (W_R tc q1 w)[12]? = some (adO q0 u v0 v1 q1 w sK sV fm b (79 + 12), cellE (adO q0 u v0 v1 q1 w sK sV fm b) tc hp0 (79 + 12)) := by rw [show 79 + 12 = 91 from rfl, cellE_o1 ob_91]; rfl
set_option maxHeartbeats 400000 in
theorem wR_13 : (W_R tc q1 w)[13]? = some (adO q0 u v0 v1 q1 w sK sV fm b (79 + 13), cellE (adO q0 u v0 v1 q1 w sK sV fm b) tc hp0 (79 + 13)) := by rw [show 79 + 13 = 92 from rfl, cellE_o1 ob_92]; rfl
set_option maxHeartbeats 400000 in
theorem wR_14 : (W_R tc q1 w)[14]? = some (adO q0 u v0 v1 q1 w sK sV fm b (79 + 14), cellE (adO q0 u v0 v1 q1 w sK sV fm b) tc hp0 (79 + 14)) := by rw [show 79 + 14 = 93 from rfl, cellE_o3 ob_93]; rfl
set_option maxHeartbeats 400000 in
theorem wR_15 : (W_R tc q1 w)[15]? = some (adO q0 u v0 v1 q1 w sK sV fm b (79 + 15), cellE (adO q0 u v0 v1 q1 w sK sV fm b) tc hp0 (79 + 15)) := by rw [show 79 + 15 = 94 from rfl, cellE_o1 ob_94]; rfl
set_option maxHeartbeats 400000 in
theorem wR_16 : (W_R tc q1 w)[16]? = some (adO q0 u v0 v1 q1 w sK sV fm b (79 + 16), cellE (adO q0 u v0 v1 q1 w sK sV fm b) tc hp0 (79 + 16)) := by rw [show 79 + 16 = 95 from rfl, cellE_o1 ob_95]; rfl
set_option maxHeartbeats 400000 in
theorem wR_17 : (W_R tc q1 w)[17]? = some (adO q0 u v0 v1 q1 w sK sV fm b (79 + 17), cellE (adO q0 u v0 v1 q1 w sK sV fm b) tc hp0 (79 + 17)) := by rw [show 79 + 17 = 96 from rfl, cellE_o1 ob_96]; rfl
set_option maxHeartbeats 400000 in
theorem wR_18 : (W_R tc q1 w)[18]? = some (adO q0 u v0 v1 q1 w sK sV fm b (79 + 18), cellE (adO q0 u v0 v1 q1 w sK sV fm b) tc hp0 (79 + 18)) := by rw [show 79 + 18 = 97 from rfl, cellE_o1 ob_97]; rfl
set_option maxHeartbeats 400000 in
theorem wR_19 : (W_R tc q1 w)[19]? = some (adO q0 u v0 v1 q1 w sK sV fm b (79 + 19), cellE (adO q0 u v0 v1 q1 w sK sV fm b) tc hp0 (79 + 19)) := by rw [show 79 + 19 = 98 from rfl, cellE_o1 ob_98]; rfl
set_option maxHeartbeats 400000 in
theorem wR_20 : (W_R tc q1 w)[20]? = some (adO q0 u v0 v1 q1 w sK sV fm b (79 + 20), cellE (adO q0 u v0 v1 q1 w sK sV fm b) tc hp0 (79 + 20)) := by rw [show 79 + 20 = 99 from rfl, cellE_o1 ob_99]; rfl
set_option maxHeartbeats 400000 in
theorem wR_21 : (W_R tc q1 w)[21]? = some (adO q0 u v0 v1 q1 w sK sV fm b (79 + 21), cellE (adO q0 u v0 v1 q1 w sK sV fm b) tc hp0 (79 + 21)) := by rw [show 79 + 21 = 100 from rfl, cellE_o1 ob_100]; rfl
set_option maxHeartbeats 400000 in
theorem wR_22 : (W_R tc q1 w)[22]? = some (adO q0 u v0 v1 q1 w sK sV fm b (79 + 22), cellE (adO q0 u v0 v1 q1 w sK sV fm b) tc hp0 (79 + 22)) := by rw [show 79 + 22 = 101 from rfl, cellE_o1 ob_101]; rfl
set_option maxHeartbeats 400000 in
theorem wR_23 : (W_R tc q1 w)[23]? = some (adO q0 u v0 v1 q1 w sK sV fm b (79 + 23), cellE (adO q0 u v0 v1 q1 w sK sV fm b) tc hp0 (79 + 23)) := by rw [show 79 + 23 = 102 from rfl, cellE_o1 ob_102]; rfl
theorem wR_at : ∀ i, i < 24 → (W_R tc q1 w)[i]? = some (adO q0 u v0 v1 q1 w sK sV fm b (79 + i), cellE (adO q0 u v0 v1 q1 w sK sV fm b) tc hp0 (79 + i)) := (lt_s (lt_s (lt_s (lt_s (lt_s (lt_s (lt_s (lt_s (lt_s (lt_s (lt_s (lt_s (lt_s (lt_s (lt_s (lt_s (lt_s (lt_s (lt_s (lt_s (lt_s (lt_s (lt_s (lt_s lt_0 wR_0) wR_1) wR_2) wR_3) wR_4) wR_5) wR_6) wR_7) wR_8) wR_9) wR_10) wR_11) wR_12) wR_13) wR_14) wR_15) wR_16) wR_17) wR_18) wR_19) wR_20) wR_21) wR_22) wR_23)
theorem wl_0 : ([] ++ W_C tc q0 u v0 v1) ++ W_R tc q1 w = wl (adO q0 u v0 v1 q1 w sK sV fm b) tc hp0 := by
  have l1 : (W_C tc q0 u v0 v1).length = 79 := rfl
  have l2 : (W_R tc q1 w).length = 24 := rfl
  rw [List.nil_append]
  apply List.ext_getElem?
  intro i
  by_cases hi : i < 103
  · rw [wl_at hi]
    by_cases h2 : i < 79
    · rw [List.getElem?_append_left (by omega)]
      exact wC_at h2
    · rw [List.getElem?_append_right (by omega), l1]
      have e := wR_at (tc := tc) (q0 := q0) (u := u) (v0 := v0) (v1 := v1) (q1 := q1) (w := w) (sK := sK) (sV := sV) (fm := fm) (b := b) (i - 79) (by omega)
      rw [show 79 + (i - 79) = i by omega] at e
      exact e
  · rw [List.getElem?_eq_none (by simp only [List.length_append, l1, l2]; omega), List.getElem?_eq_none (by simp [wl, NO]; omega)]
end W0
section LAW
variable {p : Program} {e : Env} {s : State} {m : MethodId} {below : List Frame} {meth : Method} {c : Code} {b Ln : Nat} {xs : Nat → Int32} {l : Launch}
theorem l_ctor (C0 : lw_At p s m meth c b Ln xs) {D : va_G} {tc : Nat → ClassId} {M' : MI} (hK : va_K D classes (tysE tc) s) (hN : NK s) (hO : AOI s) (hM' : MOKn M') {i o pc : Nat} {e0 : va_E} {mc' ms' cells slots : Nat} {B' : va_W → Prop} {ws : va_W} {H : Heap} {locs : List Loc} {L : Array Slot} {st : List Value} {Q : State → Prop} (hlk : Cond.methodLink "CloudDepthLaw" i (mY M') ∈ LT ∧ Cond.instanceMethod (mY M') ∈ LT ∧ Cond.initialized (mO M') ∈ LT ∧ ((mY M').cls ≠ "java/lang/invoke/MethodHandle" ∧ (mY M').cls ≠ "java/lang/invoke/VarHandle" ∧ (parseMethodDescriptor (mY M').desc).map (fun d => d.parameters.length) = some 0) ∧ (mRm M').frames + 1 ≤ 12 ∧ 8 + (mL M' + 11) + (mRm M').locals ≤ 482)
    (ct : Cn l D tc M' [.ref o] [(o, e0)] mc' ms' B') (hrc : (mRm M').cells = mc' ∧ (mRm M').slots = ms') (hcat : (st.map fun v => v.category).sum ≤ 8) (hc : cells + mc' ≤ 600000) (hs : slots + ms' ≤ 7302250) (hd : decode code pc = .ok (.invokespecial i, 3)) (hL : L.size = 4) (hP : va_P D classes (ws ++ [(o, e0)]) H) (hD : va_D (fun q : Nat => s.heap.size ≤ q) (ws ++ [(o, e0)])) (hS : va_S (fun q : Nat => s.heap.size ≤ q) s.heap H locs)
    (k : ∀ (w : va_W) (H1 : Heap) (locs1 : List Loc), B' w → va_P D classes (ws ++ w) H1 → va_D (fun q : Nat => s.heap.size ≤ q) (ws ++ w) → va_S (fun q : Nat => s.heap.size ≤ q) s.heap H1 locs1 → W p l e room_1 s m #[Value.ref b] below meth c H1 locs1 (cells + mc') (slots + ms') Q (F0 m (pc + 3) L st)) : W p l e room_1 s m #[Value.ref b] below meth c H locs cells slots Q (F0 m pc L (.ref o :: st)) := by
  obtain ⟨hx, hb, hr, hml, hown, hts, hX, hbl, hlocks, hgv⟩ := C0
  have hPc : va_P D classes [(o, e0)] H := fun j q hj => hP (ws.length + j) q (by rw [List.getElem?_append_right (by omega)]; simpa using hj)
  have hDc : va_D (fun _ => True) [(o, e0)] := ⟨fun i j p q hi hj _ => by
    have h1 := (List.getElem?_eq_some_iff.mp hi).1
    have h2 := (List.getElem?_eq_some_iff.mp hj).1
    simp at h1 h2
    omega, fun _ _ _ => trivial⟩
  have hFc := va_free (wc := [(o, e0)]) hD hS (fun _ h => h) [ws.length] (ix_last ws (o, e0))
  have hmr : mR M' = none := hM'.2.2.2.1
  have ct' := ct H.size
  unfold wsM at ct'
  rw [hmr] at ct'
  have hgood : GoodIn lw_tbl (Cond.code (mY M') (mB M') (mL M') none :: LT) := fun w hw => by
    rcases List.mem_cons.mp hw with rfl | hw
    · exact ⟨LT_tbl hM'.2.1, LT_good _ hM'.2.1⟩
    · exact ⟨LT_tbl hw, LT_good _ hw⟩
  have hpre : PreS s H (va_Pc [.ref o] (fun U => U.heap.size = H.size ∧ va_P D classes [(o, e0)] U.heap ∧ va_D (fun _ => True) [(o, e0)] ∧ va_K D classes (tysE tc) U ∧ NK U ∧ AOI U)) [.ref o] :=
    ⟨pn_blind, fun U hU hW => ⟨rfl, by rw [hU], by rw [hU]; exact hPc, hDc, va_K.moved hW.alike hK, fun q hq => (hN q hq).warmM hW, hO.moved hW.alike⟩⟩
  have hrun := va_runI (p := p) (l := l) (e := e) (R := room_1) (below := below) (meth := meth) (H := H) (locs := locs) (cells := cells) (slots := slots) (g := F0 m pc L (.ref o :: st)) (rest := st) (As := []) (b := o) (n := 0) (bytes := mB M') (maxL := mL M') (index := i) (own := "CloudDepthLaw") (Ts := lw_tbl) (args := #[Value.ref b]) ⟨hx, hb, hml, hown, hts⟩ ct' ⟨callB_of 0 hts hgood rfl hrc.1 hrc.2 (by rw [hM'.2.2.1]; exact hts _ (LT_tbl hlk.2.2.1)) (hts _ (LT_tbl hlk.1)) hlk.2.2.2.1 hlk.2.2.2.2, hM'.2.2.2.2.1, hts _ (LT_tbl hlk.2.1)⟩ hpre rfl rfl hL rfl (lv_room hcat) hd ⟨hc, hs⟩
  refine va_callv hrun hS (fun q _ h => hFc q h) hFc (fun u t H1 locs1 ht hvm hw hB hz1 hk1 hS1 => ?_)
  obtain ⟨hP1, hD1⟩ := hB
  rw [ht] at hP1
  obtain ⟨hP2, hD2⟩ := va_join hP hD [ws.length] (List.range ws.length) (ix_last ws (o, e0)) (ix_rest ws (o, e0)) (nd_range _ List.nodup_range) (fun i hi => by have := List.mem_range.mp hi; simp; omega) hk1 hFc hP1 hD1
  exact k u H1 locs1 hw hP2 hD2 hS1
theorem l_iinc {E : pE} (C : LCx E p s m meth c b Ln xs) {j : Nat} {h : pH} (hd : decode code 1219 = .ok (.iinc 3 6, 3)) (k : GL E p e s m below meth c b 1222 (lawLs (j + 6)) [] h) : GL E p e s m below meth c b 1219 (lawLs j) [] h := by
  intro H locs L hS hP hL
  obtain ⟨k0, hk0⟩ := List.getElem?_of_mem (pairs_mem (ad := eA E) (ls := lawLs j) (k := 0) (i := 3) (v := .int (nI j)) |>.mpr ⟨3, .int (nI j), rfl, by omega, rfl⟩)
  have e6 : nI j + Int32.ofInt 6 = nI (j + 6) := nI_add j 6
  exact lv_iinc C.1.1 C.1.2.1 hd hL hk0 e6 (by decide) rfl (fun L' hL' => k H locs L' hS hP (LR.set1 (ls := lawLs j) (i := 3) (v := .int (nI (j + 6))) rfl hL'))
theorem law_loop {E : pE} (C : LCx E p s m meth c b Ln xs) (hL : Ln ≤ 3072) {J : Nat → pH → Prop} (hsp : SpAll J) : ∀ (d n : Nat) (h : pH), J n h → Ln < 6 * n + d → 6 * n ≤ Ln → GL E p e s m below meth c b 18 (lawLs (6 * n)) [] h := by
  intro d
  induction d using Nat.strongRecOn with
  | ind d ih =>
    intro n h hJ hd hb
    refine l_iload (i := 3) (x := nI (6 * n)) C rfl (by decide +kernel) ?_
    refine l_aload (i := 0) (x := 230) C rfl (by decide +kernel) ?_
    refine l_slen C (by decide +kernel) ?_
    refine l_bipush C (n := 6) (v := 6) (by decide +kernel) rfl ?_
    refine l_isub C (by decide +kernel) ?_
    refine l_icmp_gt C (off := 1201) (tgt := 1225) (by decide +kernel) (by decide) (fun q => ?_) (fun q => ?_)
    · refine l_iconst C (n := 1) (v := 1) (by decide +kernel) rfl ?_
      intro H locs L hS hP hLs
      refine va_forget (fun q hq => hS.2.2 q hq) ?_
      refine W.widen (k := 600000) (n := 7302250) (Nat.le_of_ble_eq_true rfl) (Nat.le_of_ble_eq_true rfl) ?_
      exact lw_ret C.1.1 C.1.2.1 C.1.2.2.1 C.1.2.2.2.2.2.2.2.2.1 (by decide +kernel)
    · have hle : 6 * n + 6 ≤ Ln := by
        by_cases hs : 6 * n < 2 ^ 30
        · have e1 : (nI Ln - 6).toInt = (Ln : Int) - 6 := pk_sub_toInt (a := Ln) (b := 6) (by omega) (by decide)
          rw [Int32.lt_iff_toInt_lt, e1, nI_toInt (by omega)] at q
          omega
        · exfalso
          omega
      refine l_aload (i := 0) (x := 230) C rfl (by decide +kernel) ?_
      refine l_iload (i := 3) (x := nI (6 * n)) C rfl (by decide +kernel) ?_
      refine l_sld C (by omega) (by omega) (by decide +kernel) ?_
      refine l_bipush C (n := 63) (v := 63) (by decide +kernel) rfl ?_
      refine l_iand C (by decide +kernel) ?_
      refine l_switch C hL hsp hle hJ (fun h2 hJ2 => ?_) _
      refine l_iinc C (by decide +kernel) ?_
      refine l_goto C (off := -1204) (tgt := 18) (by decide +kernel) (by decide) ?_
      exact ih (d - 6) (by omega) (n + 1) h2 hJ2 (by omega) (by omega)
end LAW
