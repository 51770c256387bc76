def bl_0 : List Value := [.null, .null, .int 0, .int 0, .int 0]
theorem df_0 (ty : Nat → FieldType) (h : ∀ k, k < 5 → parseFieldDescriptor (F_0 k).2.2.1 = some (ty k)) (j : Nat) (hj : j < 5) : defaultValue (ty j) = vp_V bl_0 j := by
  have e : ty j = t_0 j := Option.some.inj ((h j hj).symm.trans (t_0_ok j hj))
  rw [e]
  exact (by decide +kernel : ∀ j, j < 5 → defaultValue (t_0 j) = vp_V bl_0 j) j hj
def bl_1 : List Value := [.null, .int 0]
theorem df_1 (ty : Nat → FieldType) (h : ∀ k, k < 2 → parseFieldDescriptor (F_1 k).2.2.1 = some (ty k)) (j : Nat) (hj : j < 2) : defaultValue (ty j) = vp_V bl_1 j := by
  have e : ty j = t_1 j := Option.some.inj ((h j hj).symm.trans (t_1_ok j hj))
  rw [e]
  exact (by decide +kernel : ∀ j, j < 2 → defaultValue (t_1 j) = vp_V bl_1 j) j hj
def bl_2 : List Value := [.null, .null, .null, .int 0, .int 0, .int 0, .int 0, .int 0, .int 0, .int 0, .int 0, .int 0, .int 0]
theorem df_2 (ty : Nat → FieldType) (h : ∀ k, k < 13 → parseFieldDescriptor (F_2 k).2.2.1 = some (ty k)) (j : Nat) (hj : j < 13) : defaultValue (ty j) = vp_V bl_2 j := by
  have e : ty j = t_2 j := Option.some.inj ((h j hj).symm.trans (t_2_ok j hj))
  rw [e]
  exact (by decide +kernel : ∀ j, j < 13 → defaultValue (t_2 j) = vp_V bl_2 j) j hj
def bl_3 : List Value := [.null, .int 0, .int 0, .int 0, .int 0, .int 0]
theorem df_3 (ty : Nat → FieldType) (h : ∀ k, k < 6 → parseFieldDescriptor (F_3 k).2.2.1 = some (ty k)) (j : Nat) (hj : j < 6) : defaultValue (ty j) = vp_V bl_3 j := by
  have e : ty j = t_3 j := Option.some.inj ((h j hj).symm.trans (t_3_ok j hj))
  rw [e]
  exact (by decide +kernel : ∀ j, j < 6 → defaultValue (t_3 j) = vp_V bl_3 j) j hj
def bl_4 : List Value := [.null, .null, .int 0, .int 0]
theorem df_4 (ty : Nat → FieldType) (h : ∀ k, k < 4 → parseFieldDescriptor (F_4 k).2.2.1 = some (ty k)) (j : Nat) (hj : j < 4) : defaultValue (ty j) = vp_V bl_4 j := by
  have e : ty j = t_4 j := Option.some.inj ((h j hj).symm.trans (t_4_ok j hj))
  rw [e]
  exact (by decide +kernel : ∀ j, j < 4 → defaultValue (t_4 j) = vp_V bl_4 j) j hj
def bl_5 : List Value := [.null, .int 0]
theorem df_5 (ty : Nat → FieldType) (h : ∀ k, k < 2 → parseFieldDescriptor (F_5 k).2.2.1 = some (ty k)) (j : Nat) (hj : j < 2) : defaultValue (ty j) = vp_V bl_5 j := by
  have e : ty j = t_5 j := Option.some.inj ((h j hj).symm.trans (t_5_ok j hj))
  rw [e]
  exact (by decide +kernel : ∀ j, j < 2 → defaultValue (t_5 j) = vp_V bl_5 j) j hj
def bl_6 : List Value := [.null]
theorem df_6 (ty : Nat → FieldType) (h : ∀ k, k < 1 → parseFieldDescriptor (F_6 k).2.2.1 = some (ty k)) (j : Nat) (hj : j < 1) : defaultValue (ty j) = vp_V bl_6 j := by
  have e : ty j = t_6 j := Option.some.inj ((h j hj).symm.trans (t_6_ok j hj))
  rw [e]
  exact (by decide +kernel : ∀ j, j < 1 → defaultValue (t_6 j) = vp_V bl_6 j) j hj
def bl_7 : List Value := [.null]
theorem df_7 (ty : Nat → FieldType) (h : ∀ k, k < 1 → parseFieldDescriptor (F_7 k).2.2.1 = some (ty k)) (j : Nat) (hj : j < 1) : defaultValue (ty j) = vp_V bl_7 j := by
  have e : ty j = t_7 j := Option.some.inj ((h j hj).symm.trans (t_7_ok j hj))
  rw [e]
  exact (by decide +kernel : ∀ j, j < 1 → defaultValue (t_7 j) = vp_V bl_7 j) j hj
def bl_8 : List Value := [.null]
theorem df_8 (ty : Nat → FieldType) (h : ∀ k, k < 1 → parseFieldDescriptor (F_8 k).2.2.1 = some (ty k)) (j : Nat) (hj : j < 1) : defaultValue (ty j) = vp_V bl_8 j := by
  have e : ty j = t_8 j := Option.some.inj ((h j hj).symm.trans (t_8_ok j hj))
  rw [e]
  exact (by decide +kernel : ∀ j, j < 1 → defaultValue (t_8 j) = vp_V bl_8 j) j hj
def bl_9 : List Value := [.null, .int 0, .int 0, .int 0, .int 0, .long 0, .int 0]
theorem df_9 (ty : Nat → FieldType) (h : ∀ k, k < 7 → parseFieldDescriptor (F_9 k).2.2.1 = some (ty k)) (j : Nat) (hj : j < 7) : defaultValue (ty j) = vp_V bl_9 j := by
  have e : ty j = t_9 j := Option.some.inj ((h j hj).symm.trans (t_9_ok j hj))
  rw [e]
  exact (by decide +kernel : ∀ j, j < 7 → defaultValue (t_9 j) = vp_V bl_9 j) j hj
def bl_10 : List Value := [.null, .int 0, .null, .null, .int 0, .int 0, .int 0, .int 0, .int 0, .int 0]
theorem df_10 (ty : Nat → FieldType) (h : ∀ k, k < 10 → parseFieldDescriptor (F_10 k).2.2.1 = some (ty k)) (j : Nat) (hj : j < 10) : defaultValue (ty j) = vp_V bl_10 j := by
  have e : ty j = t_10 j := Option.some.inj ((h j hj).symm.trans (t_10_ok j hj))
  rw [e]
  exact (by decide +kernel : ∀ j, j < 10 → defaultValue (t_10 j) = vp_V bl_10 j) j hj
def bl_11 : List Value := [.null, .null, .null, .null, .null, .null, .null, .null, .null, .null, .null, .null, .null, .int 0, .int 0]
theorem df_11 (ty : Nat → FieldType) (h : ∀ k, k < 15 → parseFieldDescriptor (F_11 k).2.2.1 = some (ty k)) (j : Nat) (hj : j < 15) : defaultValue (ty j) = vp_V bl_11 j := by
  have e : ty j = t_11 j := Option.some.inj ((h j hj).symm.trans (t_11_ok j hj))
  rw [e]
  exact (by decide +kernel : ∀ j, j < 15 → defaultValue (t_11 j) = vp_V bl_11 j) j hj
def bl_12 : List Value := [.int 0, .null, .int 0, .null, .int 0, .null, .null, .null, .null, .null, .int 0, .int 0, .int 0, .int 0, .int 0, .int 0, .int 0, .null, .null, .null, .null, .int 0, .null, .int 0, .int 0, .null, .null, .null, .null, .null, .null, .int 0, .int 0, .int 0, .int 0, .null, .null, .null, .null, .null]
theorem df_12 (ty : Nat → FieldType) (h : ∀ k, k < 40 → parseFieldDescriptor (F_12 k).2.2.1 = some (ty k)) (j : Nat) (hj : j < 40) : defaultValue (ty j) = vp_V bl_12 j := by
  have e : ty j = t_12 j := Option.some.inj ((h j hj).symm.trans (t_12_ok j hj))
  rw [e]
  exact (by decide +kernel : ∀ j, j < 40 → defaultValue (t_12 j) = vp_V bl_12 j) j hj
theorem wk_0 : (Cond.methodLink "CloudDepth$Tape" (3 : Nat) ({ cls := "java/lang/Object", name := "<init>", desc := "()V" } : MethodName)) ∈ LT := mG (List.mem_append_right _ (List.mem_append_left _ (List.mem_of_getElem? (l := tables_1_1) (i := 34) rfl))) rfl
theorem wk_1 : (Cond.arrayClass Jvm.ClassFile.FieldType.int) ∈ LT := mG (List.mem_append_right _ (List.mem_append_left _ (List.mem_of_getElem? (l := tables_1_1) (i := 63) rfl))) rfl
def W_Tape (tc : Nat → ClassId) (o : Nat) (u : Nat → Nat) : va_W := [(o, .inr (9, [.ref (u 0), .int 0, .int 0, .int 0, .int 0, .long 0, .int 0])), ((u 0), .inl (tc 1, 2000, .inl (fun _ => 0)))]
def M_ITape : MI := (⟨"CloudDepth$Tape", "<init>", "()V"⟩, prog_11_method_1_code, 1, none, "CloudDepth$Tape", mF_9, (fun _ => none), { frames := 1, cells := 1, slots := 2000, locals := 20 })
theorem wk_2 : (Cond.code ({ cls := "CloudDepth$Tape", name := "<init>", desc := "()V" } : MethodName) prog_11_method_1_code (1 : Nat) (Option.none : Option Jvm.ClassFile.FieldType)) ∈ LT := mG (List.mem_append_right _ (List.mem_append_left _ (List.mem_of_getElem? (l := tables_1_1) (i := 33) rfl))) rfl
theorem okI_Tape : MOKn M_ITape := ⟨by decide, wk_2, rfl, rfl, rfl, fOK_9⟩
theorem dsI_Tape : (mY M_ITape).cls ≠ "java/lang/invoke/MethodHandle" ∧ (mY M_ITape).cls ≠ "java/lang/invoke/VarHandle" ∧ (parseMethodDescriptor (mY M_ITape).desc).map (fun d => d.parameters.length) = some 0 := ⟨by decide +kernel, by decide +kernel, by decide +kernel⟩
set_option maxHeartbeats 4000000 in
theorem cI_Tape {l : Launch} {D : va_G} {tc : Nat → ClassId} (o : Nat) : Cn l D tc M_ITape [.ref o] [(o, .inr (9, bl_9))] 1 2000 (fun w => ∃ u : Nat → Nat, w = W_Tape tc o u) := by
  refine Cn_of okI_Tape [some (.ref o)] (Nat.le_of_ble_eq_true rfl) rfl (fun A _ => ?_)
  refine n_aload (i := 0) (x := o) rfl (by decide +kernel) ?_
  refine n_obj (i := 3) wk_0 (Nat.le_of_ble_eq_true rfl) (Nat.le_of_ble_eq_true rfl) (by decide +kernel) ?_
  refine n_aload (i := 0) (x := o) rfl (by decide +kernel) ?_
  refine n_sipush (n := 2000) (v := 2000) (by decide +kernel) rfl ?_
  refine n_newa (n := 2000) (aty := .int) (ty := .int) (kd := 0) (N := 2000) (a0 := (2000, .inl (fun _ => 0))) rfl rfl (fun _ h => by cases h) wk_1 (fun _ => rfl) (by decide) rfl (Nat.le_of_ble_eq_true rfl) (Nat.le_of_ble_eq_true rfl) (Nat.le_of_ble_eq_true rfl) (by decide +kernel) (fun x0 => ?_)
  refine n_putF (i := 9) (hM := okI_Tape) (q := (R_9, F_9, 7)) (ty := (.array .int)) rfl rfl 0 rfl rfl rfl (by decide +kernel) rfl rfl (Nat.le_of_ble_eq_true rfl) (Nat.le_of_ble_eq_true rfl) (by decide +kernel) ?_
  show Gn l D tc M_ITape A 1 2000 _ 13 [some (.ref o)] [] [(o, .inr (9, [.ref x0, .int 0, .int 0, .int 0, .int 0, .long 0, .int 0])), (x0, .inl (tc 1, 2000, .inl (fun _ => 0)))] 1 2000
  exact n_ret ⟨fun i => if i = 0 then x0 else 0, rfl⟩ (Nat.le_refl _) (Nat.le_refl _) (by decide +kernel)
theorem wk_3 : (Cond.methodLink "CloudDepth$Cloud" (3 : Nat) ({ cls := "java/lang/Object", name := "<init>", desc := "()V" } : MethodName)) ∈ LT := mG (List.mem_append_right _ (List.mem_append_left _ (List.mem_of_getElem? (l := tables_1_1) (i := 75) rfl))) rfl
def W_Cloud (tc : Nat → ClassId) (o : Nat) (u : Nat → Nat) : va_W := [(o, .inr (0, [.ref (u 0), .ref (u 1), .int 0, .int 10, .int 0])), ((u 0), .inl (tc 1, 12, .inl (fun _ => 0))), ((u 1), .inl (tc 1, 12, .inl (fun _ => 0)))]
def M_ICloud : MI := (⟨"CloudDepth$Cloud", "<init>", "()V"⟩, prog_2_method_1_code, 1, none, "CloudDepth$Cloud", mF_0, (fun _ => none), { frames := 1, cells := 2, slots := 24, locals := 20 })
theorem wk_4 : (Cond.code ({ cls := "CloudDepth$Cloud", name := "<init>", desc := "()V" } : MethodName) prog_2_method_1_code (1 : Nat) (Option.none : Option Jvm.ClassFile.FieldType)) ∈ LT := mG (List.mem_append_right _ (List.mem_append_left _ (List.mem_of_getElem? (l := tables_1_1) (i := 74) rfl))) rfl
theorem okI_Cloud : MOKn M_ICloud := ⟨by decide, wk_4, rfl, rfl, rfl, fOK_0⟩
theorem dsI_Cloud : (mY M_ICloud).cls ≠ "java/lang/invoke/MethodHandle" ∧ (mY M_ICloud).cls ≠ "java/lang/invoke/VarHandle" ∧ (parseMethodDescriptor (mY M_ICloud).desc).map (fun d => d.parameters.length) = some 0 := ⟨by decide +kernel, by decide +kernel, by decide +kernel⟩
set_option maxHeartbeats 4000000 in
theorem cI_Cloud {l : Launch} {D : va_G} {tc : Nat → ClassId} (o : Nat) : Cn l D tc M_ICloud [.ref o] [(o, .inr (0, bl_0))] 2 24 (fun w => ∃ u : Nat → Nat, w = W_Cloud tc o u) := by
  refine Cn_of okI_Cloud [some (.ref o)] (Nat.le_of_ble_eq_true rfl) rfl (fun A _ => ?_)
  refine n_aload (i := 0) (x := o) rfl (by decide +kernel) ?_
  refine n_obj (i := 3) wk_3 (Nat.le_of_ble_eq_true rfl) (Nat.le_of_ble_eq_true rfl) (by decide +kernel) ?_
  refine n_aload (i := 0) (x := o) rfl (by decide +kernel) ?_
  refine n_bipush (n := 12) (v := 12) (by decide +kernel) rfl ?_
  refine n_newa (n := 12) (aty := .int) (ty := .int) (kd := 0) (N := 12) (a0 := (12, .inl (fun _ => 0))) rfl rfl (fun _ h => by cases h) wk_1 (fun _ => rfl) (by decide) rfl (Nat.le_of_ble_eq_true rfl) (Nat.le_of_ble_eq_true rfl) (Nat.le_of_ble_eq_true rfl) (by decide +kernel) (fun x0 => ?_)
  refine n_putF (i := 9) (hM := okI_Cloud) (q := (R_0, F_0, 5)) (ty := (.array .int)) rfl rfl 0 rfl rfl rfl (by decide +kernel) rfl rfl (Nat.le_of_ble_eq_true rfl) (Nat.le_of_ble_eq_true rfl) (by decide +kernel) ?_
  show Gn l D tc M_ICloud A 2 24 _ 12 [some (.ref o)] [] [(o, .inr (0, [.ref x0, .null, .int 0, .int 0, .int 0])), (x0, .inl (tc 1, 12, .inl (fun _ => 0)))] 1 12
  refine n_aload (i := 0) (x := o) rfl (by decide +kernel) ?_
  refine n_bipush (n := 12) (v := 12) (by decide +kernel) rfl ?_
  refine n_newa (n := 12) (aty := .int) (ty := .int) (kd := 0) (N := 12) (a0 := (12, .inl (fun _ => 0))) rfl rfl (fun _ h => by cases h) wk_1 (fun _ => rfl) (by decide) rfl (Nat.le_of_ble_eq_true rfl) (Nat.le_of_ble_eq_true rfl) (Nat.le_of_ble_eq_true rfl) (by decide +kernel) (fun x1 => ?_)
  refine n_putF (i := 15) (hM := okI_Cloud) (q := (R_0, F_0, 5)) (ty := (.array .int)) rfl rfl 0 rfl rfl rfl (by decide +kernel) rfl rfl (Nat.le_of_ble_eq_true rfl) (Nat.le_of_ble_eq_true rfl) (by decide +kernel) ?_
  show Gn l D tc M_ICloud A 2 24 _ 20 [some (.ref o)] [] [(o, .inr (0, [.ref x0, .ref x1, .int 0, .int 0, .int 0])), (x0, .inl (tc 1, 12, .inl (fun _ => 0))), (x1, .inl (tc 1, 12, .inl (fun _ => 0)))] 2 24
  refine n_aload (i := 0) (x := o) rfl (by decide +kernel) ?_
  refine n_bipush (n := 10) (v := 10) (by decide +kernel) rfl ?_
  refine n_putI (i := 18) (hM := okI_Cloud) (q := (R_0, F_0, 5)) rfl rfl 0 rfl rfl (by decide +kernel) (Nat.le_of_ble_eq_true rfl) (Nat.le_of_ble_eq_true rfl) (by decide +kernel) ?_
  show Gn l D tc M_ICloud A 2 24 _ 26 [some (.ref o)] [] [(o, .inr (0, [.ref x0, .ref x1, .int 0, .int 10, .int 0])), (x0, .inl (tc 1, 12, .inl (fun _ => 0))), (x1, .inl (tc 1, 12, .inl (fun _ => 0)))] 2 24
  exact n_ret ⟨fun i => if i = 0 then x0 else if i = 1 then x1 else 0, rfl⟩ (Nat.le_refl _) (Nat.le_refl _) (by decide +kernel)
theorem wk_5 : (Cond.methodLink "CloudDepth$Hulls" (3 : Nat) ({ cls := "java/lang/Object", name := "<init>", desc := "()V" } : MethodName)) ∈ LT := mG (List.mem_append_right _ (List.mem_append_left _ (List.mem_of_getElem? (l := tables_1_1) (i := 164) rfl))) rfl
def W_Hulls (tc : Nat → ClassId) (o : Nat) (u : Nat → Nat) : va_W := [(o, .inr (4, [.ref (u 0), .ref (u 1), .int 0, .int 0])), ((u 0), .inl (tc 1, 12, .inl (fun _ => 0))), ((u 1), .inl (tc 1, 12, .inl (fun _ => 0)))]
def M_IHulls : MI := (⟨"CloudDepth$Hulls", "<init>", "()V"⟩, prog_6_method_1_code, 1, none, "CloudDepth$Hulls", mF_4, (fun _ => none), { frames := 1, cells := 2, slots := 24, locals := 20 })
theorem wk_6 : (Cond.code ({ cls := "CloudDepth$Hulls", name := "<init>", desc := "()V" } : MethodName) prog_6_method_1_code (1 : Nat) (Option.none : Option Jvm.ClassFile.FieldType)) ∈ LT := mG (List.mem_append_right _ (List.mem_append_left _ (List.mem_of_getElem? (l := tables_1_1) (i := 163) rfl))) rfl
theorem okI_Hulls : MOKn M_IHulls := ⟨by decide, wk_6, rfl, rfl, rfl, fOK_4⟩
theorem dsI_Hulls : (mY M_IHulls).cls ≠ "java/lang/invoke/MethodHandle" ∧ (mY M_IHulls).cls ≠ "java/lang/invoke/VarHandle" ∧ (parseMethodDescriptor (mY M_IHulls).desc).map (fun d => d.parameters.length) = some 0 := ⟨by decide +kernel, by decide +kernel, by decide +kernel⟩
set_option maxHeartbeats 4000000 in
theorem cI_Hulls {l : Launch} {D : va_G} {tc : Nat → ClassId} (o : Nat) : Cn l D tc M_IHulls [.ref o] [(o, .inr (4, bl_4))] 2 24 (fun w => ∃ u : Nat → Nat, w = W_Hulls tc o u) := by
  refine Cn_of okI_Hulls [some (.ref o)] (Nat.le_of_ble_eq_true rfl) rfl (fun A _ => ?_)
  refine n_aload (i := 0) (x := o) rfl (by decide +kernel) ?_
  refine n_obj (i := 3) wk_5 (Nat.le_of_ble_eq_true rfl) (Nat.le_of_ble_eq_true rfl) (by decide +kernel) ?_
  refine n_aload (i := 0) (x := o) rfl (by decide +kernel) ?_
  refine n_bipush (n := 12) (v := 12) (by decide +kernel) rfl ?_
  refine n_newa (n := 12) (aty := .int) (ty := .int) (kd := 0) (N := 12) (a0 := (12, .inl (fun _ => 0))) rfl rfl (fun _ h => by cases h) wk_1 (fun _ => rfl) (by decide) rfl (Nat.le_of_ble_eq_true rfl) (Nat.le_of_ble_eq_true rfl) (Nat.le_of_ble_eq_true rfl) (by decide +kernel) (fun x0 => ?_)
  refine n_putF (i := 9) (hM := okI_Hulls) (q := (R_4, F_4, 4)) (ty := (.array .int)) rfl rfl 0 rfl rfl rfl (by decide +kernel) rfl rfl (Nat.le_of_ble_eq_true rfl) (Nat.le_of_ble_eq_true rfl) (by decide +kernel) ?_
  show Gn l D tc M_IHulls A 2 24 _ 12 [some (.ref o)] [] [(o, .inr (4, [.ref x0, .null, .int 0, .int 0])), (x0, .inl (tc 1, 12, .inl (fun _ => 0)))] 1 12
  refine n_aload (i := 0) (x := o) rfl (by decide +kernel) ?_
  refine n_bipush (n := 12) (v := 12) (by decide +kernel) rfl ?_
  refine n_newa (n := 12) (aty := .int) (ty := .int) (kd := 0) (N := 12) (a0 := (12, .inl (fun _ => 0))) rfl rfl (fun _ h => by cases h) wk_1 (fun _ => rfl) (by decide) rfl (Nat.le_of_ble_eq_true rfl) (Nat.le_of_ble_eq_true rfl) (Nat.le_of_ble_eq_true rfl) (by decide +kernel) (fun x1 => ?_)
  refine n_putF (i := 15) (hM := okI_Hulls) (q := (R_4, F_4, 4)) (ty := (.array .int)) rfl rfl 0 rfl rfl rfl (by decide +kernel) rfl rfl (Nat.le_of_ble_eq_true rfl) (Nat.le_of_ble_eq_true rfl) (by decide +kernel) ?_
  show Gn l D tc M_IHulls A 2 24 _ 20 [some (.ref o)] [] [(o, .inr (4, [.ref x0, .ref x1, .int 0, .int 0])), (x0, .inl (tc 1, 12, .inl (fun _ => 0))), (x1, .inl (tc 1, 12, .inl (fun _ => 0)))] 2 24
  exact n_ret ⟨fun i => if i = 0 then x0 else if i = 1 then x1 else 0, rfl⟩ (Nat.le_refl _) (Nat.le_refl _) (by decide +kernel)
theorem wk_7 : (Cond.methodLink "CloudDepth$Depths" (3 : Nat) ({ cls := "java/lang/Object", name := "<init>", desc := "()V" } : MethodName)) ∈ LT := mG (List.mem_append_right _ (List.mem_append_left _ (List.mem_of_getElem? (l := tables_1_1) (i := 185) rfl))) rfl
def W_Depths (tc : Nat → ClassId) (o : Nat) (u : Nat → Nat) : va_W := [(o, .inr (2, [.ref (u 0), .ref (u 1), .ref (u 2), .int (-1), .int 0, .int 0, .int 0, .int 0, .int 0, .int 0, .int 0, .int 0, .int 0])), ((u 0), .inl (tc 1, 1681, .inl (fun _ => 0))), ((u 1), .inl (tc 1, 12, .inl (fun _ => 0))), ((u 2), .inl (tc 1, 12, .inl (fun _ => 0)))]
def M_IDepths : MI := (⟨"CloudDepth$Depths", "<init>", "()V"⟩, prog_4_method_1_code, 1, none, "CloudDepth$Depths", mF_2, (fun _ => none), { frames := 1, cells := 3, slots := 1705, locals := 20 })
theorem wk_8 : (Cond.code ({ cls := "CloudDepth$Depths", name := "<init>", desc := "()V" } : MethodName) prog_4_method_1_code (1 : Nat) (Option.none : Option Jvm.ClassFile.FieldType)) ∈ LT := mG (List.mem_append_right _ (List.mem_append_left _ (List.mem_of_getElem? (l := tables_1_1) (i := 184) rfl))) rfl
theorem okI_Depths : MOKn M_IDepths := ⟨by decide, wk_8, rfl, rfl, rfl, fOK_2⟩
theorem dsI_Depths : (mY M_IDepths).cls ≠ "java/lang/invoke/MethodHandle" ∧ (mY M_IDepths).cls ≠ "java/lang/invoke/VarHandle" ∧ (parseMethodDescriptor (mY M_IDepths).desc).map (fun d => d.parameters.length) = some 0 := ⟨by decide +kernel, by decide +kernel, by decide +kernel⟩
set_option maxHeartbeats 4000000 in
theorem cI_Depths {l : Launch} {D : va_G} {tc : Nat → ClassId} (o : Nat) : Cn l D tc M_IDepths [.ref o] [(o, .inr (2, bl_2))] 3 1705 (fun w => ∃ u : Nat → Nat, w = W_Depths tc o u) := by
  refine Cn_of okI_Depths [some (.ref o)] (Nat.le_of_ble_eq_true rfl) rfl (fun A _ => ?_)
  refine n_aload (i := 0) (x := o) rfl (by decide +kernel) ?_
  refine n_obj (i := 3) wk_7 (Nat.le_of_ble_eq_true rfl) (Nat.le_of_ble_eq_true rfl) (by decide +kernel) ?_
  refine n_aload (i := 0) (x := o) rfl (by decide +kernel) ?_
  refine n_sipush (n := 1681) (v := 1681) (by decide +kernel) rfl ?_
  refine n_newa (n := 1681) (aty := .int) (ty := .int) (kd := 0) (N := 1681) (a0 := (1681, .inl (fun _ => 0))) rfl rfl (fun _ h => by cases h) wk_1 (fun _ => rfl) (by decide) rfl (Nat.le_of_ble_eq_true rfl) (Nat.le_of_ble_eq_true rfl) (Nat.le_of_ble_eq_true rfl) (by decide +kernel) (fun x0 => ?_)
  refine n_putF (i := 9) (hM := okI_Depths) (q := (R_2, F_2, 13)) (ty := (.array .int)) rfl rfl 0 rfl rfl rfl (by decide +kernel) rfl rfl (Nat.le_of_ble_eq_true rfl) (Nat.le_of_ble_eq_true rfl) (by decide +kernel) ?_
  show Gn l D tc M_IDepths A 3 1705 _ 13 [some (.ref o)] [] [(o, .inr (2, [.ref x0, .null, .null, .int 0, .int 0, .int 0, .int 0, .int 0, .int 0, .int 0, .int 0, .int 0, .int 0])), (x0, .inl (tc 1, 1681, .inl (fun _ => 0)))] 1 1681
  refine n_aload (i := 0) (x := o) rfl (by decide +kernel) ?_
  refine n_bipush (n := 12) (v := 12) (by decide +kernel) rfl ?_
  refine n_newa (n := 12) (aty := .int) (ty := .int) (kd := 0) (N := 12) (a0 := (12, .inl (fun _ => 0))) rfl rfl (fun _ h => by cases h) wk_1 (fun _ => rfl) (by decide) rfl (Nat.le_of_ble_eq_true rfl) (Nat.le_of_ble_eq_true rfl) (Nat.le_of_ble_eq_true rfl) (by decide +kernel) (fun x1 => ?_)
  refine n_putF (i := 15) (hM := okI_Depths) (q := (R_2, F_2, 13)) (ty := (.array .int)) rfl rfl 0 rfl rfl rfl (by decide +kernel) rfl rfl (Nat.le_of_ble_eq_true rfl) (Nat.le_of_ble_eq_true rfl) (by decide +kernel) ?_
  show Gn l D tc M_IDepths A 3 1705 _ 21 [some (.ref o)] [] [(o, .inr (2, [.ref x0, .ref x1, .null, .int 0, .int 0, .int 0, .int 0, .int 0, .int 0, .int 0, .int 0, .int 0, .int 0])), (x0, .inl (tc 1, 1681, .inl (fun _ => 0))), (x1, .inl (tc 1, 12, .inl (fun _ => 0)))] 2 1693
  refine n_aload (i := 0) (x := o) rfl (by decide +kernel) ?_
  refine n_bipush (n := 12) (v := 12) (by decide +kernel) rfl ?_
  refine n_newa (n := 12) (aty := .int) (ty := .int) (kd := 0) (N := 12) (a0 := (12, .inl (fun _ => 0))) rfl rfl (fun _ h => by cases h) wk_1 (fun _ => rfl) (by decide) rfl (Nat.le_of_ble_eq_true rfl) (Nat.le_of_ble_eq_true rfl) (Nat.le_of_ble_eq_true rfl) (by decide +kernel) (fun x2 => ?_)
  refine n_putF (i := 18) (hM := okI_Depths) (q := (R_2, F_2, 13)) (ty := (.array .int)) rfl rfl 0 rfl rfl rfl (by decide +kernel) rfl rfl (Nat.le_of_ble_eq_true rfl) (Nat.le_of_ble_eq_true rfl) (by decide +kernel) ?_
  show Gn l D tc M_IDepths A 3 1705 _ 29 [some (.ref o)] [] [(o, .inr (2, [.ref x0, .ref x1, .ref x2, .int 0, .int 0, .int 0, .int 0, .int 0, .int 0, .int 0, .int 0, .int 0, .int 0])), (x0, .inl (tc 1, 1681, .inl (fun _ => 0))), (x1, .inl (tc 1, 12, .inl (fun _ => 0))), (x2, .inl (tc 1, 12, .inl (fun _ => 0)))] 3 1705
  refine n_aload (i := 0) (x := o) rfl (by decide +kernel) ?_
  refine n_iconst (n := (-1)) (v := (-1)) (by decide +kernel) rfl ?_
  refine n_putI (i := 21) (hM := okI_Depths) (q := (R_2, F_2, 13)) rfl rfl 0 rfl rfl (by decide +kernel) (Nat.le_of_ble_eq_true rfl) (Nat.le_of_ble_eq_true rfl) (by decide +kernel) ?_
  show Gn l D tc M_IDepths A 3 1705 _ 34 [some (.ref o)] [] [(o, .inr (2, [.ref x0, .ref x1, .ref x2, .int (-1), .int 0, .int 0, .int 0, .int 0, .int 0, .int 0, .int 0, .int 0, .int 0])), (x0, .inl (tc 1, 1681, .inl (fun _ => 0))), (x1, .inl (tc 1, 12, .inl (fun _ => 0))), (x2, .inl (tc 1, 12, .inl (fun _ => 0)))] 3 1705
  exact n_ret ⟨fun i => if i = 0 then x0 else if i = 1 then x1 else if i = 2 then x2 else 0, rfl⟩ (Nat.le_refl _) (Nat.le_refl _) (by decide +kernel)
theorem wk_9 : (Cond.methodLink "CloudDepth$SetMarks" (1 : Nat) ({ cls := "java/lang/Object", name := "<init>", desc := "()V" } : MethodName)) ∈ LT := mG (List.mem_append_right _ (List.mem_append_right _ (List.mem_append_left _ (List.mem_of_getElem? (l := tables_1_2) (i := 6) rfl)))) rfl
def W_SetMarks (tc : Nat → ClassId) (o : Nat) (u : Nat → Nat) : va_W := [(o, .inr (6, [.ref (u 0)])), ((u 0), .inl (tc 1, 128, .inl (fun _ => 0)))]
def M_ISetMarks : MI := (⟨"CloudDepth$SetMarks", "<init>", "()V"⟩, prog_8_method_1_code, 1, none, "CloudDepth$SetMarks", mF_6, (fun _ => none), { frames := 1, cells := 1, slots := 128, locals := 20 })
theorem wk_10 : (Cond.code ({ cls := "CloudDepth$SetMarks", name := "<init>", desc := "()V" } : MethodName) prog_8_method_1_code (1 : Nat) (Option.none : Option Jvm.ClassFile.FieldType)) ∈ LT := mG (List.mem_append_right _ (List.mem_append_right _ (List.mem_append_left _ (List.mem_of_getElem? (l := tables_1_2) (i := 5) rfl)))) rfl
theorem okI_SetMarks : MOKn M_ISetMarks := ⟨by decide, wk_10, rfl, rfl, rfl, fOK_6⟩
theorem dsI_SetMarks : (mY M_ISetMarks).cls ≠ "java/lang/invoke/MethodHandle" ∧ (mY M_ISetMarks).cls ≠ "java/lang/invoke/VarHandle" ∧ (parseMethodDescriptor (mY M_ISetMarks).desc).map (fun d => d.parameters.length) = some 0 := ⟨by decide +kernel, by decide +kernel, by decide +kernel⟩
set_option maxHeartbeats 4000000 in
theorem cI_SetMarks {l : Launch} {D : va_G} {tc : Nat → ClassId} (o : Nat) : Cn l D tc M_ISetMarks [.ref o] [(o, .inr (6, bl_6))] 1 128 (fun w => ∃ u : Nat → Nat, w = W_SetMarks tc o u) := by
  refine Cn_of okI_SetMarks [some (.ref o)] (Nat.le_of_ble_eq_true rfl) rfl (fun A _ => ?_)
  refine n_aload (i := 0) (x := o) rfl (by decide +kernel) ?_
  refine n_obj (i := 1) wk_9 (Nat.le_of_ble_eq_true rfl) (Nat.le_of_ble_eq_true rfl) (by decide +kernel) ?_
  refine n_aload (i := 0) (x := o) rfl (by decide +kernel) ?_
  refine n_sipush (n := 128) (v := 128) (by decide +kernel) rfl ?_
  refine n_newa (n := 128) (aty := .int) (ty := .int) (kd := 0) (N := 128) (a0 := (128, .inl (fun _ => 0))) rfl rfl (fun _ h => by cases h) wk_1 (fun _ => rfl) (by decide) rfl (Nat.le_of_ble_eq_true rfl) (Nat.le_of_ble_eq_true rfl) (Nat.le_of_ble_eq_true rfl) (by decide +kernel) (fun x0 => ?_)
  refine n_putF (i := 7) (hM := okI_SetMarks) (q := (R_6, F_6, 1)) (ty := (.array .int)) rfl rfl 0 rfl rfl rfl (by decide +kernel) rfl rfl (Nat.le_of_ble_eq_true rfl) (Nat.le_of_ble_eq_true rfl) (by decide +kernel) ?_
  show Gn l D tc M_ISetMarks A 1 128 _ 13 [some (.ref o)] [] [(o, .inr (6, [.ref x0])), (x0, .inl (tc 1, 128, .inl (fun _ => 0)))] 1 128
  exact n_ret ⟨fun i => if i = 0 then x0 else 0, rfl⟩ (Nat.le_refl _) (Nat.le_refl _) (by decide +kernel)
theorem wk_11 : (Cond.methodLink "CloudDepth$Lines" (3 : Nat) ({ cls := "java/lang/Object", name := "<init>", desc := "()V" } : MethodName)) ∈ LT := mG (List.mem_append_right _ (List.mem_append_right _ (List.mem_append_left _ (List.mem_of_getElem? (l := tables_1_2) (i := 24) rfl)))) rfl
def W_Lines (tc : Nat → ClassId) (o : Nat) (u : Nat → Nat) : va_W := [(o, .inr (5, [.ref (u 0), .int 0])), ((u 0), .inl (tc 1, 66, .inl (fun _ => 0)))]
def M_ILines : MI := (⟨"CloudDepth$Lines", "<init>", "()V"⟩, prog_7_method_1_code, 1, none, "CloudDepth$Lines", mF_5, (fun _ => none), { frames := 1, cells := 1, slots := 66, locals := 20 })
theorem wk_12 : (Cond.code ({ cls := "CloudDepth$Lines", name := "<init>", desc := "()V" } : MethodName) prog_7_method_1_code (1 : Nat) (Option.none : Option Jvm.ClassFile.FieldType)) ∈ LT := mG (List.mem_append_right _ (List.mem_append_right _ (List.mem_append_left _ (List.mem_of_getElem? (l := tables_1_2) (i := 23) rfl)))) rfl
theorem okI_Lines : MOKn M_ILines := ⟨by decide, wk_12, rfl, rfl, rfl, fOK_5⟩
theorem dsI_Lines : (mY M_ILines).cls ≠ "java/lang/invoke/MethodHandle" ∧ (mY M_ILines).cls ≠ "java/lang/invoke/VarHandle" ∧ (parseMethodDescriptor (mY M_ILines).desc).map (fun d => d.parameters.length) = some 0 := ⟨by decide +kernel, by decide +kernel, by decide +kernel⟩
set_option maxHeartbeats 4000000 in
theorem cI_Lines {l : Launch} {D : va_G} {tc : Nat → ClassId} (o : Nat) : Cn l D tc M_ILines [.ref o] [(o, .inr (5, bl_5))] 1 66 (fun w => ∃ u : Nat → Nat, w = W_Lines tc o u) := by
  refine Cn_of okI_Lines [some (.ref o)] (Nat.le_of_ble_eq_true rfl) rfl (fun A _ => ?_)
  refine n_aload (i := 0) (x := o) rfl (by decide +kernel) ?_
  refine n_obj (i := 3) wk_11 (Nat.le_of_ble_eq_true rfl) (Nat.le_of_ble_eq_true rfl) (by decide +kernel) ?_
  refine n_aload (i := 0) (x := o) rfl (by decide +kernel) ?_
  refine n_bipush (n := 66) (v := 66) (by decide +kernel) rfl ?_
  refine n_newa (n := 66) (aty := .int) (ty := .int) (kd := 0) (N := 66) (a0 := (66, .inl (fun _ => 0))) rfl rfl (fun _ h => by cases h) wk_1 (fun _ => rfl) (by decide) rfl (Nat.le_of_ble_eq_true rfl) (Nat.le_of_ble_eq_true rfl) (Nat.le_of_ble_eq_true rfl) (by decide +kernel) (fun x0 => ?_)
  refine n_putF (i := 9) (hM := okI_Lines) (q := (R_5, F_5, 2)) (ty := (.array .int)) rfl rfl 0 rfl rfl rfl (by decide +kernel) rfl rfl (Nat.le_of_ble_eq_true rfl) (Nat.le_of_ble_eq_true rfl) (by decide +kernel) ?_
  show Gn l D tc M_ILines A 1 66 _ 12 [some (.ref o)] [] [(o, .inr (5, [.ref x0, .int 0])), (x0, .inl (tc 1, 66, .inl (fun _ => 0)))] 1 66
  exact n_ret ⟨fun i => if i = 0 then x0 else 0, rfl⟩ (Nat.le_refl _) (Nat.le_refl _) (by decide +kernel)
theorem wk_13 : (Cond.methodLink "CloudDepth$Fits" (3 : Nat) ({ cls := "java/lang/Object", name := "<init>", desc := "()V" } : MethodName)) ∈ LT := mG (List.mem_append_right _ (List.mem_append_right _ (List.mem_append_left _ (List.mem_of_getElem? (l := tables_1_2) (i := 38) rfl)))) rfl
def W_Fits (tc : Nat → ClassId) (o : Nat) (u : Nat → Nat) : va_W := [(o, .inr (3, [.ref (u 0), .int (-1), .int 0, .int 0, .int 0, .int 0])), ((u 0), .inl (tc 1, 12, .inl (fun _ => 0)))]
def M_IFits : MI := (⟨"CloudDepth$Fits", "<init>", "()V"⟩, prog_5_method_1_code, 1, none, "CloudDepth$Fits", mF_3, (fun _ => none), { frames := 1, cells := 1, slots := 12, locals := 20 })
theorem wk_14 : (Cond.code ({ cls := "CloudDepth$Fits", name := "<init>", desc := "()V" } : MethodName) prog_5_method_1_code (1 : Nat) (Option.none : Option Jvm.ClassFile.FieldType)) ∈ LT := mG (List.mem_append_right _ (List.mem_append_right _ (List.mem_append_left _ (List.mem_of_getElem? (l := tables_1_2) (i := 37) rfl)))) rfl
theorem okI_Fits : MOKn M_IFits := ⟨by decide, wk_14, rfl, rfl, rfl, fOK_3⟩
theorem dsI_Fits : (mY M_IFits).cls ≠ "java/lang/invoke/MethodHandle" ∧ (mY M_IFits).cls ≠ "java/lang/invoke/VarHandle" ∧ (parseMethodDescriptor (mY M_IFits).desc).map (fun d => d.parameters.length) = some 0 := ⟨by decide +kernel, by decide +kernel, by decide +kernel⟩
set_option maxHeartbeats 4000000 in
theorem cI_Fits {l : Launch} {D : va_G} {tc : Nat → ClassId} (o : Nat) : Cn l D tc M_IFits [.ref o] [(o, .inr (3, bl_3))] 1 12 (fun w => ∃ u : Nat → Nat, w = W_Fits tc o u) := by
  refine Cn_of okI_Fits [some (.ref o)] (Nat.le_of_ble_eq_true rfl) rfl (fun A _ => ?_)
  refine n_aload (i := 0) (x := o) rfl (by decide +kernel) ?_
  refine n_obj (i := 3) wk_13 (Nat.le_of_ble_eq_true rfl) (Nat.le_of_ble_eq_true rfl) (by decide +kernel) ?_
  refine n_aload (i := 0) (x := o) rfl (by decide +kernel) ?_
  refine n_bipush (n := 12) (v := 12) (by decide +kernel) rfl ?_
  refine n_newa (n := 12) (aty := .int) (ty := .int) (kd := 0) (N := 12) (a0 := (12, .inl (fun _ => 0))) rfl rfl (fun _ h => by cases h) wk_1 (fun _ => rfl) (by decide) rfl (Nat.le_of_ble_eq_true rfl) (Nat.le_of_ble_eq_true rfl) (Nat.le_of_ble_eq_true rfl) (by decide +kernel) (fun x0 => ?_)
  refine n_putF (i := 9) (hM := okI_Fits) (q := (R_3, F_3, 6)) (ty := (.array .int)) rfl rfl 0 rfl rfl rfl (by decide +kernel) rfl rfl (Nat.le_of_ble_eq_true rfl) (Nat.le_of_ble_eq_true rfl) (by decide +kernel) ?_
  show Gn l D tc M_IFits A 1 12 _ 12 [some (.ref o)] [] [(o, .inr (3, [.ref x0, .int 0, .int 0, .int 0, .int 0, .int 0])), (x0, .inl (tc 1, 12, .inl (fun _ => 0)))] 1 12
  refine n_aload (i := 0) (x := o) rfl (by decide +kernel) ?_
  refine n_iconst (n := (-1)) (v := (-1)) (by decide +kernel) rfl ?_
  refine n_putI (i := 15) (hM := okI_Fits) (q := (R_3, F_3, 6)) rfl rfl 0 rfl rfl (by decide +kernel) (Nat.le_of_ble_eq_true rfl) (Nat.le_of_ble_eq_true rfl) (by decide +kernel) ?_
  show Gn l D tc M_IFits A 1 12 _ 17 [some (.ref o)] [] [(o, .inr (3, [.ref x0, .int (-1), .int 0, .int 0, .int 0, .int 0])), (x0, .inl (tc 1, 12, .inl (fun _ => 0)))] 1 12
  exact n_ret ⟨fun i => if i = 0 then x0 else 0, rfl⟩ (Nat.le_refl _) (Nat.le_refl _) (by decide +kernel)
theorem wk_15 : (Cond.methodLink "CloudDepth$Cuts" (3 : Nat) ({ cls := "java/lang/Object", name := "<init>", desc := "()V" } : MethodName)) ∈ LT := mG (List.mem_append_right _ (List.mem_append_right _ (List.mem_append_left _ (List.mem_of_getElem? (l := tables_1_2) (i := 0) rfl)))) rfl
theorem wk_16 : (Cond.classLink "CloudDepth$Cuts" (9 : Nat) "CloudDepth$SetMarks") ∈ LT := mG (List.mem_append_right _ (List.mem_append_right _ (List.mem_append_left _ (List.mem_of_getElem? (l := tables_1_2) (i := 1) rfl)))) rfl
theorem wk_17 : (Cond.instantiable "CloudDepth$SetMarks" (1 : Nat)) ∈ LT := mG (List.mem_append_right _ (List.mem_append_right _ (List.mem_append_left _ (List.mem_of_getElem? (l := tables_1_2) (i := 2) rfl)))) rfl
theorem wk_18 : (Cond.initialized "CloudDepth$SetMarks") ∈ LT := mG (List.mem_append_right _ (List.mem_append_left _ (List.mem_of_getElem? (l := tables_1_1) (i := 8) rfl))) rfl
theorem wk_19 : (Cond.instanceMethod ({ cls := "CloudDepth$SetMarks", name := "<init>", desc := "()V" } : MethodName)) ∈ LT := mG (List.mem_append_right _ (List.mem_append_right _ (List.mem_append_left _ (List.mem_of_getElem? (l := tables_1_2) (i := 4) rfl)))) rfl
def W_Cuts (tc : Nat → ClassId) (o : Nat) (u : Nat → Nat) : va_W := [(o, .inr (1, [.ref (u 0), .int (-1)])), ((u 0), .inr (6, [.ref (u 1)])), ((u 1), .inl (tc 1, 128, .inl (fun _ => 0)))]
def M_ICuts : MI := (⟨"CloudDepth$Cuts", "<init>", "()V"⟩, prog_3_method_1_code, 1, none, "CloudDepth$Cuts", mF_1, (fun _ => none), { frames := 2, cells := 2, slots := 129, locals := 40 })
theorem wk_20 : (Cond.code ({ cls := "CloudDepth$Cuts", name := "<init>", desc := "()V" } : MethodName) prog_3_method_1_code (1 : Nat) (Option.none : Option Jvm.ClassFile.FieldType)) ∈ LT := mG (List.mem_append_right _ (List.mem_append_left _ (List.mem_of_getElem? (l := tables_1_1) (i := 239) rfl))) rfl
theorem okI_Cuts : MOKn M_ICuts := ⟨by decide, wk_20, rfl, rfl, rfl, fOK_1⟩
theorem dsI_Cuts : (mY M_ICuts).cls ≠ "java/lang/invoke/MethodHandle" ∧ (mY M_ICuts).cls ≠ "java/lang/invoke/VarHandle" ∧ (parseMethodDescriptor (mY M_ICuts).desc).map (fun d => d.parameters.length) = some 0 := ⟨by decide +kernel, by decide +kernel, by decide +kernel⟩
set_option maxHeartbeats 4000000 in
theorem cI_Cuts {l : Launch} {D : va_G} {tc : Nat → ClassId} (o : Nat) : Cn l D tc M_ICuts [.ref o] [(o, .inr (1, bl_1))] 2 129 (fun w => ∃ u : Nat → Nat, w = W_Cuts tc o u) := by
  refine Cn_of okI_Cuts [some (.ref o)] (Nat.le_of_ble_eq_true rfl) rfl (fun A _ => ?_)
  refine n_aload (i := 0) (x := o) rfl (by decide +kernel) ?_
  refine n_obj (i := 3) wk_15 (Nat.le_of_ble_eq_true rfl) (Nat.le_of_ble_eq_true rfl) (by decide +kernel) ?_
  refine n_aload (i := 0) (x := o) rfl (by decide +kernel) ?_
  refine n_new (i := 9) (ci := 6) (fs := bl_6) (q := (R_6, F_6, 1)) rfl df_6 ⟨wk_16, wk_17, wk_18⟩ (Nat.le_of_ble_eq_true rfl) (Nat.le_of_ble_eq_true rfl) (by decide +kernel) (fun x0 => ?_)
  refine n_dup (by decide +kernel) ?_
  refine n_ctor okI_SetMarks (i := 11) (as := []) ⟨Or.inr (List.mem_of_getElem? (i := 6) rfl), wk_19, wk_18, dsI_SetMarks, Nat.le_of_ble_eq_true rfl, Nat.le_of_ble_eq_true rfl⟩ (cI_SetMarks x0) ⟨rfl, rfl⟩ rfl (Nat.le_of_ble_eq_true rfl) (Nat.le_of_ble_eq_true rfl) (Nat.le_of_ble_eq_true rfl) (by decide +kernel) rfl (fun wx0 hw => ?_)
  obtain ⟨u0, rfl⟩ := hw
  refine n_putF (i := 12) (hM := okI_Cuts) (q := (R_1, F_1, 2)) (ty := (.object "CloudDepth$SetMarks")) rfl rfl 0 rfl rfl rfl (by decide +kernel) rfl rfl (Nat.le_of_ble_eq_true rfl) (Nat.le_of_ble_eq_true rfl) (by decide +kernel) ?_
  show Gn l D tc M_ICuts A 2 129 _ 15 [some (.ref o)] [] [(o, .inr (1, [.ref x0, .int 0])), (x0, .inr (6, [.ref (u0 0)])), ((u0 0), .inl (tc 1, 128, .inl (fun _ => 0)))] 2 129
  refine n_aload (i := 0) (x := o) rfl (by decide +kernel) ?_
  refine n_iconst (n := (-1)) (v := (-1)) (by decide +kernel) rfl ?_
  refine n_putI (i := 18) (hM := okI_Cuts) (q := (R_1, F_1, 2)) rfl rfl 0 rfl rfl (by decide +kernel) (Nat.le_of_ble_eq_true rfl) (Nat.le_of_ble_eq_true rfl) (by decide +kernel) ?_
  show Gn l D tc M_ICuts A 2 129 _ 20 [some (.ref o)] [] [(o, .inr (1, [.ref x0, .int (-1)])), (x0, .inr (6, [.ref (u0 0)])), ((u0 0), .inl (tc 1, 128, .inl (fun _ => 0)))] 2 129
  exact n_ret ⟨fun i => if i = 0 then x0 else if i = 1 then (u0 0) else 0, rfl⟩ (Nat.le_refl _) (Nat.le_refl _) (by decide +kernel)
theorem wk_21 : (Cond.methodLink "CloudDepth$Shapes" (3 : Nat) ({ cls := "java/lang/Object", name := "<init>", desc := "()V" } : MethodName)) ∈ LT := mG (List.mem_append_right _ (List.mem_append_right _ (List.mem_append_left _ (List.mem_of_getElem? (l := tables_1_2) (i := 67) rfl)))) rfl
theorem wk_22 : (Cond.classLink "CloudDepth$Shapes" (9 : Nat) "CloudDepth$SetMarks") ∈ LT := mG (List.mem_append_right _ (List.mem_append_right _ (List.mem_append_left _ (List.mem_of_getElem? (l := tables_1_2) (i := 68) rfl)))) rfl
def W_Shapes (tc : Nat → ClassId) (o : Nat) (u : Nat → Nat) : va_W := [(o, .inr (7, [.ref (u 0)])), ((u 0), .inr (6, [.ref (u 1)])), ((u 1), .inl (tc 1, 128, .inl (fun _ => 0)))]
def M_IShapes : MI := (⟨"CloudDepth$Shapes", "<init>", "()V"⟩, prog_9_method_1_code, 1, none, "CloudDepth$Shapes", mF_7, (fun _ => none), { frames := 2, cells := 2, slots := 129, locals := 40 })
theorem wk_23 : (Cond.code ({ cls := "CloudDepth$Shapes", name := "<init>", desc := "()V" } : MethodName) prog_9_method_1_code (1 : Nat) (Option.none : Option Jvm.ClassFile.FieldType)) ∈ LT := mG (List.mem_append_right _ (List.mem_append_right _ (List.mem_append_left _ (List.mem_of_getElem? (l := tables_1_2) (i := 66) rfl)))) rfl
theorem okI_Shapes : MOKn M_IShapes := ⟨by decide, wk_23, rfl, rfl, rfl, fOK_7⟩
theorem dsI_Shapes : (mY M_IShapes).cls ≠ "java/lang/invoke/MethodHandle" ∧ (mY M_IShapes).cls ≠ "java/lang/invoke/VarHandle" ∧ (parseMethodDescriptor (mY M_IShapes).desc).map (fun d => d.parameters.length) = some 0 := ⟨by decide +kernel, by decide +kernel, by decide +kernel⟩
set_option maxHeartbeats 4000000 in
theorem cI_Shapes {l : Launch} {D : va_G} {tc : Nat → ClassId} (o : Nat) : Cn l D tc M_IShapes [.ref o] [(o, .inr (7, bl_7))] 2 129 (fun w => ∃ u : Nat → Nat, w = W_Shapes tc o u) := by
  refine Cn_of okI_Shapes [some (.ref o)] (Nat.le_of_ble_eq_true rfl) rfl (fun A _ => ?_)
  refine n_aload (i := 0) (x := o) rfl (by decide +kernel) ?_
  refine n_obj (i := 3) wk_21 (Nat.le_of_ble_eq_true rfl) (Nat.le_of_ble_eq_true rfl) (by decide +kernel) ?_
  refine n_aload (i := 0) (x := o) rfl (by decide +kernel) ?_
  refine n_new (i := 9) (ci := 6) (fs := bl_6) (q := (R_6, F_6, 1)) rfl df_6 ⟨wk_22, wk_17, wk_18⟩ (Nat.le_of_ble_eq_true rfl) (Nat.le_of_ble_eq_true rfl) (by decide +kernel) (fun x0 => ?_)
  refine n_dup (by decide +kernel) ?_
  refine n_ctor okI_SetMarks (i := 11) (as := []) ⟨Or.inr (List.mem_of_getElem? (i := 10) rfl), wk_19, wk_18, dsI_SetMarks, Nat.le_of_ble_eq_true rfl, Nat.le_of_ble_eq_true rfl⟩ (cI_SetMarks x0) ⟨rfl, rfl⟩ rfl (Nat.le_of_ble_eq_true rfl) (Nat.le_of_ble_eq_true rfl) (Nat.le_of_ble_eq_true rfl) (by decide +kernel) rfl (fun wx0 hw => ?_)
  obtain ⟨u0, rfl⟩ := hw
  refine n_putF (i := 12) (hM := okI_Shapes) (q := (R_7, F_7, 1)) (ty := (.object "CloudDepth$SetMarks")) rfl rfl 0 rfl rfl rfl (by decide +kernel) rfl rfl (Nat.le_of_ble_eq_true rfl) (Nat.le_of_ble_eq_true rfl) (by decide +kernel) ?_
  show Gn l D tc M_IShapes A 2 129 _ 15 [some (.ref o)] [] [(o, .inr (7, [.ref x0])), (x0, .inr (6, [.ref (u0 0)])), ((u0 0), .inl (tc 1, 128, .inl (fun _ => 0)))] 2 129
  exact n_ret ⟨fun i => if i = 0 then x0 else if i = 1 then (u0 0) else 0, rfl⟩ (Nat.le_refl _) (Nat.le_refl _) (by decide +kernel)
theorem wk_24 : (Cond.methodLink "CloudDepth$TextReader" (3 : Nat) ({ cls := "java/lang/Object", name := "<init>", desc := "()V" } : MethodName)) ∈ LT := mG (List.mem_append_right _ (List.mem_append_left _ (List.mem_of_getElem? (l := tables_1_1) (i := 69) rfl))) rfl
theorem wk_25 : (Cond.classLink "CloudDepth$TextReader" (9 : Nat) "CloudDepth$Cloud") ∈ LT := mG (List.mem_append_right _ (List.mem_append_left _ (List.mem_of_getElem? (l := tables_1_1) (i := 70) rfl))) rfl
theorem wk_26 : (Cond.instantiable "CloudDepth$Cloud" (5 : Nat)) ∈ LT := mG (List.mem_append_right _ (List.mem_append_left _ (List.mem_of_getElem? (l := tables_1_1) (i := 71) rfl))) rfl
theorem wk_27 : (Cond.initialized "CloudDepth$Cloud") ∈ LT := mG (List.mem_append_right _ (List.mem_append_left _ (List.mem_of_getElem? (l := tables_1_1) (i := 4) rfl))) rfl
theorem wk_28 : (Cond.instanceMethod ({ cls := "CloudDepth$Cloud", name := "<init>", desc := "()V" } : MethodName)) ∈ LT := mG (List.mem_append_right _ (List.mem_append_left _ (List.mem_of_getElem? (l := tables_1_1) (i := 73) rfl))) rfl
theorem wk_29 : (Cond.arrayClass Jvm.ClassFile.FieldType.long) ∈ LT := mG (List.mem_append_right _ (List.mem_append_left _ (List.mem_of_getElem? (l := tables_1_1) (i := 156) rfl))) rfl
def W_TextReader (tc : Nat → ClassId) (o : Nat) (t : Nat) (u : Nat → Nat) : va_W := [(o, .inr (10, [.ref (u 0), .int (-1), .ref t, .ref (u 3), .int 0, .int 0, .int 0, .int 0, .int 0, .int 0])), ((u 0), .inr (0, [.ref (u 1), .ref (u 2), .int 0, .int 10, .int 0])), ((u 1), .inl (tc 1, 12, .inl (fun _ => 0))), ((u 2), .inl (tc 1, 12, .inl (fun _ => 0))), ((u 3), .inl (tc 4, 12, .inr (.inl (fun _ => 0))))]
def M_ITextReader : MI := (⟨"CloudDepth$TextReader", "<init>", "(LCloudDepth$Tape;)V"⟩, prog_12_method_1_code, 2, none, "CloudDepth$TextReader", mF_10, (fun _ => none), { frames := 2, cells := 4, slots := 41, locals := 40 })
theorem wk_30 : (Cond.code ({ cls := "CloudDepth$TextReader", name := "<init>", desc := "(LCloudDepth$Tape;)V" } : MethodName) prog_12_method_1_code (2 : Nat) (Option.none : Option Jvm.ClassFile.FieldType)) ∈ LT := mG (List.mem_append_right _ (List.mem_append_left _ (List.mem_of_getElem? (l := tables_1_1) (i := 68) rfl))) rfl
theorem okI_TextReader : MOKn M_ITextReader := ⟨by decide, wk_30, rfl, rfl, rfl, fOK_10⟩
theorem dsI_TextReader : (mY M_ITextReader).cls ≠ "java/lang/invoke/MethodHandle" ∧ (mY M_ITextReader).cls ≠ "java/lang/invoke/VarHandle" ∧ (parseMethodDescriptor (mY M_ITextReader).desc).map (fun d => d.parameters.length) = some 1 := ⟨by decide +kernel, by decide +kernel, by decide +kernel⟩
set_option maxHeartbeats 4000000 in
theorem cI_TextReader {l : Launch} {D : va_G} {tc : Nat → ClassId} (o : Nat) (t : Nat) : Cn l D tc M_ITextReader [.ref o, .ref t] [(o, .inr (10, bl_10))] 4 41 (fun w => ∃ u : Nat → Nat, w = W_TextReader tc o t u) := by
  refine Cn_of okI_TextReader [some (.ref o), some (.ref t)] (Nat.le_of_ble_eq_true rfl) rfl (fun A _ => ?_)
  refine n_aload (i := 0) (x := o) rfl (by decide +kernel) ?_
  refine n_obj (i := 3) wk_24 (Nat.le_of_ble_eq_true rfl) (Nat.le_of_ble_eq_true rfl) (by decide +kernel) ?_
  refine n_aload (i := 0) (x := o) rfl (by decide +kernel) ?_
  refine n_new (i := 9) (ci := 0) (fs := bl_0) (q := (R_0, F_0, 5)) rfl df_0 ⟨wk_25, wk_26, wk_27⟩ (Nat.le_of_ble_eq_true rfl) (Nat.le_of_ble_eq_true rfl) (by decide +kernel) (fun x0 => ?_)
  refine n_dup (by decide +kernel) ?_
  refine n_ctor okI_Cloud (i := 11) (as := []) ⟨Or.inr (List.mem_of_getElem? (i := 1) rfl), wk_28, wk_27, dsI_Cloud, Nat.le_of_ble_eq_true rfl, Nat.le_of_ble_eq_true rfl⟩ (cI_Cloud x0) ⟨rfl, rfl⟩ rfl (Nat.le_of_ble_eq_true rfl) (Nat.le_of_ble_eq_true rfl) (Nat.le_of_ble_eq_true rfl) (by decide +kernel) rfl (fun wx0 hw => ?_)
  obtain ⟨u0, rfl⟩ := hw
  refine n_putF (i := 12) (hM := okI_TextReader) (q := (R_10, F_10, 10)) (ty := (.object "CloudDepth$Cloud")) rfl rfl 0 rfl rfl rfl (by decide +kernel) rfl rfl (Nat.le_of_ble_eq_true rfl) (Nat.le_of_ble_eq_true rfl) (by decide +kernel) ?_
  show Gn l D tc M_ITextReader A 4 41 _ 15 [some (.ref o), some (.ref t)] [] [(o, .inr (10, [.ref x0, .int 0, .null, .null, .int 0, .int 0, .int 0, .int 0, .int 0, .int 0])), (x0, .inr (0, [.ref (u0 0), .ref (u0 1), .int 0, .int 10, .int 0])), ((u0 0), .inl (tc 1, 12, .inl (fun _ => 0))), ((u0 1), .inl (tc 1, 12, .inl (fun _ => 0)))] 3 29
  refine n_aload (i := 0) (x := o) rfl (by decide +kernel) ?_
  refine n_iconst (n := (-1)) (v := (-1)) (by decide +kernel) rfl ?_
  refine n_putI (i := 18) (hM := okI_TextReader) (q := (R_10, F_10, 10)) rfl rfl 0 rfl rfl (by decide +kernel) (Nat.le_of_ble_eq_true rfl) (Nat.le_of_ble_eq_true rfl) (by decide +kernel) ?_
  show Gn l D tc M_ITextReader A 4 41 _ 20 [some (.ref o), some (.ref t)] [] [(o, .inr (10, [.ref x0, .int (-1), .null, .null, .int 0, .int 0, .int 0, .int 0, .int 0, .int 0])), (x0, .inr (0, [.ref (u0 0), .ref (u0 1), .int 0, .int 10, .int 0])), ((u0 0), .inl (tc 1, 12, .inl (fun _ => 0))), ((u0 1), .inl (tc 1, 12, .inl (fun _ => 0)))] 3 29
  refine n_aload (i := 0) (x := o) rfl (by decide +kernel) ?_
  refine n_bipush (n := 12) (v := 12) (by decide +kernel) rfl ?_
  refine n_newa (n := 12) (aty := .long) (ty := .long) (kd := 3) (N := 12) (a0 := (12, .inr (.inl (fun _ => 0)))) rfl rfl (fun _ h => by cases h) wk_29 (fun _ => rfl) (by decide) rfl (Nat.le_of_ble_eq_true rfl) (Nat.le_of_ble_eq_true rfl) (Nat.le_of_ble_eq_true rfl) (by decide +kernel) (fun x3 => ?_)
  refine n_putF (i := 22) (hM := okI_TextReader) (q := (R_10, F_10, 10)) (ty := (.array .long)) rfl rfl 0 rfl rfl rfl (by decide +kernel) rfl rfl (Nat.le_of_ble_eq_true rfl) (Nat.le_of_ble_eq_true rfl) (by decide +kernel) ?_
  show Gn l D tc M_ITextReader A 4 41 _ 28 [some (.ref o), some (.ref t)] [] [(o, .inr (10, [.ref x0, .int (-1), .null, .ref x3, .int 0, .int 0, .int 0, .int 0, .int 0, .int 0])), (x0, .inr (0, [.ref (u0 0), .ref (u0 1), .int 0, .int 10, .int 0])), ((u0 0), .inl (tc 1, 12, .inl (fun _ => 0))), ((u0 1), .inl (tc 1, 12, .inl (fun _ => 0))), (x3, .inl (tc 4, 12, .inr (.inl (fun _ => 0))))] 4 41
  refine n_aload (i := 0) (x := o) rfl (by decide +kernel) ?_
  refine n_aload (i := 1) (x := t) rfl (by decide +kernel) ?_
  refine n_putF (i := 26) (hM := okI_TextReader) (q := (R_10, F_10, 10)) (ty := (.object "CloudDepth$Tape")) rfl rfl 0 rfl rfl rfl (by decide +kernel) rfl rfl (Nat.le_of_ble_eq_true rfl) (Nat.le_of_ble_eq_true rfl) (by decide +kernel) ?_
  show Gn l D tc M_ITextReader A 4 41 _ 33 [some (.ref o), some (.ref t)] [] [(o, .inr (10, [.ref x0, .int (-1), .ref t, .ref x3, .int 0, .int 0, .int 0, .int 0, .int 0, .int 0])), (x0, .inr (0, [.ref (u0 0), .ref (u0 1), .int 0, .int 10, .int 0])), ((u0 0), .inl (tc 1, 12, .inl (fun _ => 0))), ((u0 1), .inl (tc 1, 12, .inl (fun _ => 0))), (x3, .inl (tc 4, 12, .inr (.inl (fun _ => 0))))] 4 41
  exact n_ret ⟨fun i => if i = 0 then x0 else if i = 1 then (u0 0) else if i = 2 then (u0 1) else if i = 3 then x3 else 0, rfl⟩ (Nat.le_refl _) (Nat.le_refl _) (by decide +kernel)
