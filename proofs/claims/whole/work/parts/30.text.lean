theorem wc_S_length : (Cond.code ({ cls := "java/lang/String", name := "length", desc := "()I" } : MethodName) prog_17_method_54_code (1 : Nat) (Option.some Jvm.ClassFile.FieldType.int)) ∈ LT := mG (List.mem_append_right _ (List.mem_append_right _ (List.mem_append_left _ (List.mem_of_getElem? (l := tables_1_2) (i := 195) rfl)))) rfl
def M_S_length : MI := (⟨"java/lang/String", "length", "()I"⟩, prog_17_method_54_code, 1, (some .int), "java/lang/String", (fun _ => none), (fun _ => none), { frames := 1, cells := 0, slots := 0, locals := 20 })
theorem ok_S_length : MOK M_S_length := ⟨by decide, wc_S_length, rfl, rfl, rfl, (fun i c k h => by cases h), (fun i v h => by cases h)⟩
theorem ds_S_length : (mY M_S_length).cls ≠ "java/lang/invoke/MethodHandle" ∧ (mY M_S_length).cls ≠ "java/lang/invoke/VarHandle" ∧ (parseMethodDescriptor (mY M_S_length).desc).map (fun d => d.parameters.length) = some 0 := ⟨by decide +kernel, by decide +kernel, by decide +kernel⟩
theorem wc_S_coder : (Cond.code ({ cls := "java/lang/String", name := "coder", desc := "()B" } : MethodName) prog_17_method_152_code (1 : Nat) (Option.some Jvm.ClassFile.FieldType.byte)) ∈ LT := mG (List.mem_append_right _ (List.mem_append_right _ (List.mem_append_left _ (List.mem_of_getElem? (l := tables_1_2) (i := 199) rfl)))) rfl
def M_S_coder : MI := (⟨"java/lang/String", "coder", "()B"⟩, prog_17_method_152_code, 1, (some .byte), "java/lang/String", (fun _ => none), (fun _ => none), { frames := 0, cells := 0, slots := 0, locals := 0 })
theorem ok_S_coder : MOK M_S_coder := ⟨by decide, wc_S_coder, rfl, rfl, rfl, (fun i c k h => by cases h), (fun i v h => by cases h)⟩
theorem ds_S_coder : (mY M_S_coder).cls ≠ "java/lang/invoke/MethodHandle" ∧ (mY M_S_coder).cls ≠ "java/lang/invoke/VarHandle" ∧ (parseMethodDescriptor (mY M_S_coder).desc).map (fun d => d.parameters.length) = some 0 := ⟨by decide +kernel, by decide +kernel, by decide +kernel⟩
theorem wc_S_isLatin1 : (Cond.code ({ cls := "java/lang/String", name := "isLatin1", desc := "()Z" } : MethodName) prog_17_method_154_code (1 : Nat) (Option.some Jvm.ClassFile.FieldType.boolean)) ∈ LT := mG (List.mem_append_right _ (List.mem_append_right _ (List.mem_append_left _ (List.mem_of_getElem? (l := tables_1_2) (i := 209) rfl)))) rfl
def M_S_isLatin1 : MI := (⟨"java/lang/String", "isLatin1", "()Z"⟩, prog_17_method_154_code, 1, (some .boolean), "java/lang/String", (fun _ => none), (fun _ => none), { frames := 0, cells := 0, slots := 0, locals := 0 })
theorem ok_S_isLatin1 : MOK M_S_isLatin1 := ⟨by decide, wc_S_isLatin1, rfl, rfl, rfl, (fun i c k h => by cases h), (fun i v h => by cases h)⟩
theorem ds_S_isLatin1 : (mY M_S_isLatin1).cls ≠ "java/lang/invoke/MethodHandle" ∧ (mY M_S_isLatin1).cls ≠ "java/lang/invoke/VarHandle" ∧ (parseMethodDescriptor (mY M_S_isLatin1).desc).map (fun d => d.parameters.length) = some 0 := ⟨by decide +kernel, by decide +kernel, by decide +kernel⟩
theorem wc_S_charAt : (Cond.code ({ cls := "java/lang/String", name := "charAt", desc := "(I)C" } : MethodName) prog_17_method_56_code (2 : Nat) (Option.some Jvm.ClassFile.FieldType.char)) ∈ LT := mG (List.mem_append_right _ (List.mem_append_right _ (List.mem_append_left _ (List.mem_of_getElem? (l := tables_1_2) (i := 205) rfl)))) rfl
def M_S_charAt : MI := (⟨"java/lang/String", "charAt", "(I)C"⟩, prog_17_method_56_code, 2, (some .char), "java/lang/String", (fun _ => none), (fun _ => none), { frames := 3, cells := 0, slots := 0, locals := 64 })
theorem ok_S_charAt : MOK M_S_charAt := ⟨by decide, wc_S_charAt, rfl, rfl, rfl, (fun i c k h => by cases h), (fun i v h => by cases h)⟩
theorem ds_S_charAt : (mY M_S_charAt).cls ≠ "java/lang/invoke/MethodHandle" ∧ (mY M_S_charAt).cls ≠ "java/lang/invoke/VarHandle" ∧ (parseMethodDescriptor (mY M_S_charAt).desc).map (fun d => d.parameters.length) = some 1 := ⟨by decide +kernel, by decide +kernel, by decide +kernel⟩
theorem wc_S_checkIndex : (Cond.code ({ cls := "java/lang/String", name := "checkIndex", desc := "(II)V" } : MethodName) prog_17_method_155_code (2 : Nat) (Option.none : Option Jvm.ClassFile.FieldType)) ∈ LT := mG (List.mem_append_right _ (List.mem_append_right _ (List.mem_append_left _ (List.mem_of_getElem? (l := tables_1_2) (i := 215) rfl)))) rfl
def M_S_checkIndex : MI := (⟨"java/lang/String", "checkIndex", "(II)V"⟩, prog_17_method_155_code, 2, none, "java/lang/String", (fun _ => none), (fun _ => none), { frames := 1, cells := 0, slots := 0, locals := 22 })
theorem ok_S_checkIndex : MOK M_S_checkIndex := ⟨by decide, wc_S_checkIndex, rfl, rfl, rfl, (fun i c k h => by cases h), (fun i v h => by cases h)⟩
theorem ds_S_checkIndex : (mY M_S_checkIndex).cls ≠ "java/lang/invoke/MethodHandle" ∧ (mY M_S_checkIndex).cls ≠ "java/lang/invoke/VarHandle" ∧ (parseMethodDescriptor (mY M_S_checkIndex).desc).map (fun d => d.parameters.length) = some 2 := ⟨by decide +kernel, by decide +kernel, by decide +kernel⟩
theorem wc_L_charAt : (Cond.code ({ cls := "java/lang/StringLatin1", name := "charAt", desc := "([BI)C" } : MethodName) prog_18_method_2_code (2 : Nat) (Option.some Jvm.ClassFile.FieldType.char)) ∈ LT := mG (List.mem_append_right _ (List.mem_append_right _ (List.mem_append_left _ (List.mem_of_getElem? (l := tables_1_2) (i := 212) rfl)))) rfl
def M_L_charAt : MI := (⟨"java/lang/StringLatin1", "charAt", "([BI)C"⟩, prog_18_method_2_code, 2, (some .char), "java/lang/StringLatin1", (fun _ => none), (fun _ => none), { frames := 2, cells := 0, slots := 0, locals := 43 })
theorem ok_L_charAt : MOK M_L_charAt := ⟨by decide, wc_L_charAt, rfl, rfl, rfl, (fun i c k h => by cases h), (fun i v h => by cases h)⟩
theorem ds_L_charAt : (mY M_L_charAt).cls ≠ "java/lang/invoke/MethodHandle" ∧ (mY M_L_charAt).cls ≠ "java/lang/invoke/VarHandle" ∧ (parseMethodDescriptor (mY M_L_charAt).desc).map (fun d => d.parameters.length) = some 2 := ⟨by decide +kernel, by decide +kernel, by decide +kernel⟩
theorem wc_P_checkIndex : (Cond.code ({ cls := "jdk/internal/util/Preconditions", name := "checkIndex", desc := "(IILjava/util/function/BiFunction;)I" } : MethodName) prog_21_method_11_code (3 : Nat) (Option.some Jvm.ClassFile.FieldType.int)) ∈ LT := mG (List.mem_append_right _ (List.mem_append_right _ (List.mem_append_left _ (List.mem_of_getElem? (l := tables_1_2) (i := 220) rfl)))) rfl
def M_P_checkIndex : MI := (⟨"jdk/internal/util/Preconditions", "checkIndex", "(IILjava/util/function/BiFunction;)I"⟩, prog_21_method_11_code, 3, (some .int), "jdk/internal/util/Preconditions", (fun _ => none), (fun _ => none), { frames := 0, cells := 0, slots := 0, locals := 0 })
theorem ok_P_checkIndex : MOK M_P_checkIndex := ⟨by decide, wc_P_checkIndex, rfl, rfl, rfl, (fun i c k h => by cases h), (fun i v h => by cases h)⟩
theorem ds_P_checkIndex : (mY M_P_checkIndex).cls ≠ "java/lang/invoke/MethodHandle" ∧ (mY M_P_checkIndex).cls ≠ "java/lang/invoke/VarHandle" ∧ (parseMethodDescriptor (mY M_P_checkIndex).desc).map (fun d => d.parameters.length) = some 3 := ⟨by decide +kernel, by decide +kernel, by decide +kernel⟩
theorem wi_S : (Cond.initialized "java/lang/String") ∈ LT := mG (List.mem_append_right _ (List.mem_append_left _ (List.mem_of_getElem? (l := tables_1_1) (i := 15) rfl))) rfl
theorem wi_L : (Cond.initialized "java/lang/StringLatin1") ∈ LT := mG (List.mem_append_right _ (List.mem_append_left _ (List.mem_of_getElem? (l := tables_1_1) (i := 16) rfl))) rfl
theorem wi_P : (Cond.initialized "jdk/internal/util/Preconditions") ∈ LT := mG (List.mem_append_right _ (List.mem_append_left _ (List.mem_of_getElem? (l := tables_1_1) (i := 17) rfl))) rfl
theorem wf_value : (Cond.fieldLink "java/lang/String" (9 : Nat) "java/lang/String" "value" "[B") ∈ LT := mG (List.mem_append_right _ (List.mem_append_right _ (List.mem_append_right _ (List.mem_append_right _ (List.mem_append_right _ (List.mem_append_right _ (List.mem_append_right _ (List.mem_of_getElem? (l := tables_1_7) (i := 148) rfl)))))))) rfl
theorem wf_coder : (Cond.fieldLink "java/lang/String" (15 : Nat) "java/lang/String" "coder" "B") ∈ LT := mG (List.mem_append_right _ (List.mem_append_right _ (List.mem_append_right _ (List.mem_append_right _ (List.mem_append_right _ (List.mem_append_right _ (List.mem_append_right _ (List.mem_of_getElem? (l := tables_1_7) (i := 149) rfl)))))))) rfl
theorem wf_comp : (Cond.fieldLink "java/lang/String" (38 : Nat) "java/lang/String" "COMPACT_STRINGS" "Z") ∈ LT := mG (List.mem_append_right _ (List.mem_append_right _ (List.mem_append_left _ (List.mem_of_getElem? (l := tables_1_2) (i := 200) rfl)))) rfl
theorem wf_fmt : (Cond.fieldLink "java/lang/String" (1053 : Nat) "jdk/internal/util/Preconditions" "SIOOBE_FORMATTER" "Ljava/util/function/BiFunction;") ∈ LT := mG (List.mem_append_right _ (List.mem_append_right _ (List.mem_append_left _ (List.mem_of_getElem? (l := tables_1_2) (i := 216) rfl)))) rfl
theorem wm_S_coder : (Cond.methodLink "java/lang/String" (335 : Nat) ({ cls := "java/lang/String", name := "coder", desc := "()B" } : MethodName)) ∈ LT := mG (List.mem_append_right _ (List.mem_append_right _ (List.mem_append_left _ (List.mem_of_getElem? (l := tables_1_2) (i := 196) rfl)))) rfl
theorem wn_S_coder : (Cond.instanceMethod ({ cls := "java/lang/String", name := "coder", desc := "()B" } : MethodName)) ∈ LT := mG (List.mem_append_right _ (List.mem_append_right _ (List.mem_append_left _ (List.mem_of_getElem? (l := tables_1_2) (i := 197) rfl)))) rfl
theorem ws_S_coder : (Cond.selects "java/lang/String" ({ cls := "java/lang/String", name := "coder", desc := "()B" } : MethodName) ({ cls := "java/lang/String", name := "coder", desc := "()B" } : MethodName)) ∈ LT := mG (List.mem_append_right _ (List.mem_append_right _ (List.mem_append_left _ (List.mem_of_getElem? (l := tables_1_2) (i := 198) rfl)))) rfl
theorem wm_S_isLatin1 : (Cond.methodLink "java/lang/String" (492 : Nat) ({ cls := "java/lang/String", name := "isLatin1", desc := "()Z" } : MethodName)) ∈ LT := mG (List.mem_append_right _ (List.mem_append_right _ (List.mem_append_left _ (List.mem_of_getElem? (l := tables_1_2) (i := 206) rfl)))) rfl
theorem wn_S_isLatin1 : (Cond.instanceMethod ({ cls := "java/lang/String", name := "isLatin1", desc := "()Z" } : MethodName)) ∈ LT := mG (List.mem_append_right _ (List.mem_append_right _ (List.mem_append_left _ (List.mem_of_getElem? (l := tables_1_2) (i := 207) rfl)))) rfl
theorem ws_S_isLatin1 : (Cond.selects "java/lang/String" ({ cls := "java/lang/String", name := "isLatin1", desc := "()Z" } : MethodName) ({ cls := "java/lang/String", name := "isLatin1", desc := "()Z" } : MethodName)) ∈ LT := mG (List.mem_append_right _ (List.mem_append_right _ (List.mem_append_left _ (List.mem_of_getElem? (l := tables_1_2) (i := 208) rfl)))) rfl
theorem wm_L_charAt : (Cond.methodLink "java/lang/String" (495 : Nat) ({ cls := "java/lang/StringLatin1", name := "charAt", desc := "([BI)C" } : MethodName)) ∈ LT := mG (List.mem_append_right _ (List.mem_append_right _ (List.mem_append_left _ (List.mem_of_getElem? (l := tables_1_2) (i := 210) rfl)))) rfl
theorem wn_L_charAt : (Cond.static ({ cls := "java/lang/StringLatin1", name := "charAt", desc := "([BI)C" } : MethodName)) ∈ LT := mG (List.mem_append_right _ (List.mem_append_right _ (List.mem_append_left _ (List.mem_of_getElem? (l := tables_1_2) (i := 211) rfl)))) rfl
theorem wm_S_checkIndex : (Cond.methodLink "java/lang/StringLatin1" (9 : Nat) ({ cls := "java/lang/String", name := "checkIndex", desc := "(II)V" } : MethodName)) ∈ LT := mG (List.mem_append_right _ (List.mem_append_right _ (List.mem_append_left _ (List.mem_of_getElem? (l := tables_1_2) (i := 213) rfl)))) rfl
theorem wn_S_checkIndex : (Cond.static ({ cls := "java/lang/String", name := "checkIndex", desc := "(II)V" } : MethodName)) ∈ LT := mG (List.mem_append_right _ (List.mem_append_right _ (List.mem_append_left _ (List.mem_of_getElem? (l := tables_1_2) (i := 214) rfl)))) rfl
theorem wm_P_checkIndex : (Cond.methodLink "java/lang/String" (1059 : Nat) ({ cls := "jdk/internal/util/Preconditions", name := "checkIndex", desc := "(IILjava/util/function/BiFunction;)I" } : MethodName)) ∈ LT := mG (List.mem_append_right _ (List.mem_append_right _ (List.mem_append_left _ (List.mem_of_getElem? (l := tables_1_2) (i := 218) rfl)))) rfl
theorem wn_P_checkIndex : (Cond.static ({ cls := "jdk/internal/util/Preconditions", name := "checkIndex", desc := "(IILjava/util/function/BiFunction;)I" } : MethodName)) ∈ LT := mG (List.mem_append_right _ (List.mem_append_right _ (List.mem_append_left _ (List.mem_of_getElem? (l := tables_1_2) (i := 219) rfl)))) rfl
/-! String constants of the class: number 200 "point", 201 "grid"; their rows of bytes 210, 211 -/
def sLn (o : Nat) : Nat := sLen.getD (o - 200) 0
def sCh (o k : Nat) : Int32 := (sByt.getD (o - 200) []).getD k 0
section TX
variable {E : pE} {M M' : MI} {pc : Nat} {ls : List (Option Value)} {st : List Value} {h h' hr h1 : pH} {r rv : Option Value} {o : Nat}
theorem st_ix (ho : o = 200 ∨ o = 201) : o - 200 < 2 ∧ 200 + (o - 200) = o ∧ 210 + (o - 200) = o + 10 := by omega
theorem q_ldcS200 (ho : mO M = "CloudDepth$Tape") (hd : decode (mB M) pc = .ok (.ldc 54, 2)) (k : Go E M (pc + 2) ls (.ref 200 :: st) h r hr) : Go E M pc ls st h r hr :=
  fun p e s m args below meth c H locs L C hS hP hL => va_ldcS C.1 C.2.1 (ho ▸ C.2.2.2.2.1) C.2.2.2.2.2.2.2.2.1.2.1 hd (k p e s m args below meth c H locs L C hS hP hL)
theorem q_ldcS201 (ho : mO M = "CloudDepth$Tape") (hd : decode (mB M) pc = .ok (.ldc 60, 2)) (k : Go E M (pc + 2) ls (.ref 201 :: st) h r hr) : Go E M pc ls st h r hr :=
  fun p e s m args below meth c H locs L C hS hP hL => va_ldcS C.1 C.2.1 (ho ▸ C.2.2.2.2.1) C.2.2.2.2.2.2.2.2.1.2.2.1 hd (k p e s m args below meth c H locs L C hS hP hL)
theorem q_sval (hM : mO M = "java/lang/String") (ho : o = 200 ∨ o = 201) (hd : decode (mB M) pc = .ok (.getfield 9, 3)) (k : Go E M (pc + 3) ls (.ref (o + 10) :: st) h r hr) : Go E M pc ls (.ref o :: st) h r hr := by
  intro p e s m args below meth c H locs L C hS hP hL
  obtain ⟨h1, h2, h3⟩ := st_ix ho
  have hE := (C.2.2.2.2.2.2.2.2.1.1.1 (o - 200) h1).2.2.1
  simp only [h2, h3] at hE
  have hw := C.2.2.2.2.2.1 _ (List.mem_cons_of_mem _ wf_value)
  exact vk_getf C.1 C.2.1 hE hS (hM ▸ C.2.2.2.2.1) hw (fun _ h9 => h9) hd (k p e s m args below meth c H locs L C hS hP hL)
theorem q_scod (hM : mO M = "java/lang/String") (ho : o = 200 ∨ o = 201) (hd : decode (mB M) pc = .ok (.getfield 15, 3)) (k : Go E M (pc + 3) ls (.int 0 :: st) h r hr) : Go E M pc ls (.ref o :: st) h r hr := by
  intro p e s m args below meth c H locs L C hS hP hL
  obtain ⟨h1, h2, h3⟩ := st_ix ho
  have hE := (C.2.2.2.2.2.2.2.2.1.1.1 (o - 200) h1).2.1
  simp only [h2] at hE
  have hw := C.2.2.2.2.2.1 _ (List.mem_cons_of_mem _ wf_coder)
  exact vk_getf C.1 C.2.1 hE hS (hM ▸ C.2.2.2.2.1) hw (fun _ h9 => h9) hd (k p e s m args below meth c H locs L C hS hP hL)
theorem q_vlen (ho : o = 200 ∨ o = 201) (hd : decode (mB M) pc = .ok (.arraylength, 1)) (k : Go E M (pc + 1) ls (.int (nI (sLn o)) :: st) h r hr) : Go E M pc ls (.ref (o + 10) :: st) h r hr := by
  intro p e s m args below meth c H locs L C hS hP hL
  obtain ⟨h1, h2, h3⟩ := st_ix ho
  have hE := (C.2.2.2.2.2.2.2.2.1.1.1 (o - 200) h1).2.2.2
  simp only [h3] at hE
  exact va_tlen C.1 C.2.1 hE hS rfl hd (k p e s m args below meth c H locs L C hS hP hL)
theorem q_vald (ho : o = 200 ∨ o = 201) {i : Int32} (hin : ¬ (i < 0 ∨ sLn o ≤ i.toNatClampNeg)) (hd : decode (mB M) pc = .ok (.baload, 1)) (k : Go E M (pc + 1) ls (.int (sCh o i.toNatClampNeg) :: st) h r hr) : Go E M pc ls (.int i :: .ref (o + 10) :: st) h r hr := by
  intro p e s m args below meth c H locs L C hS hP hL
  obtain ⟨h1, h2, h3⟩ := st_ix ho
  have hE := (C.2.2.2.2.2.2.2.2.1.1.1 (o - 200) h1).2.2.2
  simp only [h3] at hE
  exact va_tb C.1 C.2.1 hE hS hin rfl hd (k p e s m args below meth c H locs L C hS hP hL)
theorem q_comp (hM : mO M = "java/lang/String") (hd : decode (mB M) pc = .ok (.getstatic 38, 3)) (k : Go E M (pc + 3) ls (.int 1 :: st) h r hr) : Go E M pc ls st h r hr := by
  intro p e s m args below meth c H locs L C hS hP hL
  have hw := C.2.2.2.2.2.1 _ (List.mem_cons_of_mem _ wf_comp)
  exact va_gets C.1 C.2.1 C.2.2.2.2.2.2.2.2.1.2.2.2.1 hS (hM ▸ C.2.2.2.2.1) hw (fun _ h9 => h9) hd (k p e s m args below meth c H locs L C hS hP hL)
theorem q_fmt (hM : mO M = "java/lang/String") (hd : decode (mB M) pc = .ok (.getstatic 1053, 3)) (k : ∀ v : Value, (v = .null ∨ v = .ref 220) → Go E M (pc + 3) ls (v :: st) h r hr) : Go E M pc ls st h r hr := by
  intro p e s m args below meth c H locs L C hS hP hL
  have hw := C.2.2.2.2.2.1 _ (List.mem_cons_of_mem _ wf_fmt)
  rcases C.2.2.2.2.2.2.2.2.1.2.2.2.2 with hz | hz
  · exact va_gets C.1 C.2.1 hz hS (hM ▸ C.2.2.2.2.1) hw (fun _ h9 => h9) hd (k .null (Or.inl rfl) p e s m args below meth c H locs L C hS hP hL)
  · exact va_gets C.1 C.2.1 hz hS (hM ▸ C.2.2.2.2.1) hw (fun _ h9 => h9) hd (k (.ref 220) (Or.inr rfl) p e s m args below meth c H locs L C hS hP hL)
theorem q_i2c {x : Int32} (hd : decode (mB M) pc = .ok (.i2c, 1)) (k : Go E M (pc + 1) ls (.int (x.toUInt32 % 65536).toInt32 :: st) h r hr) : Go E M pc ls (.int x :: st) h r hr :=
  fun p e s m args below meth c H locs L C hS hP hL => lv_i2c C.1 C.2.1 hd rfl (k p e s m args below meth c H locs L C hS hP hL)
theorem q_nret {v : Int32} {ty : FieldType} (hr0 : mR M = some ty) (hb : narrow ty (.int v) = .int v) (hv : r = some (.int v)) (hh : hr = h) (hd : decode (mB M) pc = .ok (.ireturn, 1)) : Go E M pc ls [.int v] h r hr := by
  subst hv; subst hh
  intro p e s m args below meth cc H locs L C hS hP hL
  have hlocks := C.2.2.2.2.2.2.1
  exact W.zret (ty := ty) C.1 C.2.1 (C.2.2.1.trans hr0) hb (fun t ht hW => ⟨⟨rfl, by rw [PP, ht]; exact hP⟩, hS.F ht⟩) hS.2.2 hd
theorem q_callStr (hM' : MOK M') {i n : Nat} {as : List Value} (hlk : LkV M M' i n) (ct : Ct E M' (.ref o :: as) h rv h1) (hn : as.length = n) (ho : o = 200 ∨ o = 201) (hci : mO M' = "java/lang/String") (hv : ∀ v, rv = some v → vm (eA E) v = v) (hcat : (st.map fun v => v.category).sum ≤ 8) (hd : decode (mB M) pc = .ok (.invokevirtual i, 3)) {st0 : List Value} (hst : as.reverse ++ .ref o :: st = st0)
    (kk : Go E M (pc + 3) ls (rv.toList ++ st) h1 r hr) : Go E M pc ls st0 h r hr := by
  subst hst
  intro p e s m args below meth cc H locs L C hS hP hL
  have hts := C.2.2.2.2.2.1
  obtain ⟨g1, g2, g3⟩ := st_ix ho
  refine run_W (rv := rv) (h1 := h1) (a := (Value.ref (eA E o) :: as.map (vm (eA E))).toArray) (rest := st.map (vm (eA E))) (va_runV (As := as.map (vm (eA E))) (b := eA E o) (C := mO M') (n := n) (bytes := mB M') (maxL := mL M') (ret := mR M') (index := i) ⟨C.1, C.2.1, C.2.2.2.1, C.2.2.2.2.1, hts⟩ ct (cwV n hts ?_ rfl hM'.2.2.2.1 hM'.2.2.2.2.1 ⟨hM'.2.2.1, hlk.2.2.2.2.1⟩ hlk.2.2.2.2.2) ⟨pc_blind, ?_, fun U hU hW => ?_⟩ rfl (by rw [List.length_map]; exact hn) hL.1 ?_ (lv_room (by rw [cat_map]; exact hcat)) hd ⟨Nat.zero_le _, Nat.zero_le _⟩) hS (fun H1 locs1 hS1 hP1 => ?_)
  · intro w hw
    rcases List.mem_append.mp hw with hw | hw
    · have : w ∈ LT := by
        rcases List.mem_cons.mp hw with rfl | hw
        · exact hlk.1
        rcases List.mem_cons.mp hw with rfl | hw
        · exact hlk.2.1
        rcases List.mem_cons.mp hw with rfl | hw
        · exact hlk.2.2.1
        rcases List.mem_cons.mp hw with rfl | hw
        · exact hlk.2.2.2.1
        cases hw
      exact ⟨List.mem_cons_of_mem _ this, LT_good w this⟩
    · exact goodM hM' w hw
  · rw [hci]
    have := vk_recv (C.2.2.2.2.2.2.2.2.1.1) g1 hS
    simp only [g2] at this
    exact this
  · exact pre_at C hS hP (.ref o :: as) U hU hW
  · show (as.reverse ++ .ref o :: st).map (vm (eA E)) = _
    rw [List.map_append, List.map_reverse]
    rfl
  · rw [cat_app _ _ hv]
    exact kk p e s m args below meth cc H1 locs1 L C hS1 hP1 hL
theorem s_P_checkIndex {i n : Int32} {v : Value} (hv : v = .null ∨ v = .ref 220) (h0 : ¬ i < 0) (h1 : i < n) : Ct E M_P_checkIndex [.int i, .int n, v] h (some (.int i)) h := by
  refine Ct_of ok_P_checkIndex [some (.int i), some (.int n), some v] (by rcases hv with rfl | rfl <;> exact Nat.le_of_ble_eq_true rfl) (by rcases hv with rfl | rfl <;> rfl) ?_
  refine sl_ok ok_P_checkIndex [.iload_n 0] (pc1 := 1) (ls1 := [some (.int i), some (.int n), some v]) (st1 := [.int i]) (h1 := h) (P := True) (by decide +kernel) rfl trivial ?_
  refine q_if_lt (off := 8) (tgt := 9) (by decide +kernel) (by decide) (fun q => absurd q h0) (fun _ => ?_)
  refine sl_ok ok_P_checkIndex [.iload_n 0, .iload_n 1] (pc1 := 6) (ls1 := [some (.int i), some (.int n), some v]) (st1 := [.int n, .int i]) (h1 := h) (P := True) (by decide +kernel) rfl trivial ?_
  refine q_icmp_lt (off := 10) (tgt := 16) (by decide +kernel) (by decide) (fun _ => ?_) (fun q => absurd h1 q)
  refine sl_ok ok_P_checkIndex [.iload_n 0] (pc1 := 17) (ls1 := [some (.int i), some (.int n), some v]) (st1 := [.int i]) (h1 := h) (P := True) (by decide +kernel) rfl trivial ?_
  exact q_iret rfl rfl rfl (by decide +kernel)
theorem s_S_checkIndex {i n : Int32} (h0 : ¬ i < 0) (h1 : i < n) : Ct E M_S_checkIndex [.int i, .int n] h none h := by
  refine Ct_of ok_S_checkIndex [some (.int i), some (.int n)] (Nat.le_of_ble_eq_true rfl) rfl ?_
  refine sl_ok ok_S_checkIndex [.iload_n 0, .iload_n 1] (pc1 := 2) (ls1 := [some (.int i), some (.int n)]) (st1 := [.int n, .int i]) (h1 := h) (P := True) (by decide +kernel) rfl trivial ?_
  refine q_fmt rfl (by decide +kernel) (fun v hv => ?_)
  refine q_callS ok_P_checkIndex (as := [.int i, .int n, v]) (st := []) ⟨wm_P_checkIndex, wn_P_checkIndex, wi_P, ds_P_checkIndex, Nat.le_of_ble_eq_true rfl, Nat.le_of_ble_eq_true rfl⟩ (s_P_checkIndex hv h0 h1) rfl (fun v hv => by cases hv; rfl) (Nat.le_of_ble_eq_true rfl) (by decide +kernel) rfl ?_
  refine sl_ok ok_S_checkIndex [.pop] (pc1 := 9) (ls1 := [some (.int i), some (.int n)]) (st1 := []) (h1 := h) (P := True) (by decide +kernel) rfl trivial ?_
  exact q_vret rfl rfl rfl (by decide +kernel)
theorem s_L_charAt (ho : o = 200 ∨ o = 201) {i : Int32} (hin : ¬ (i < 0 ∨ sLn o ≤ i.toNatClampNeg)) (hc : narrow .char (.int ((sCh o i.toNatClampNeg &&& 255).toUInt32 % 65536).toInt32) = .int (sCh o i.toNatClampNeg) ∧ ((sCh o i.toNatClampNeg &&& 255).toUInt32 % 65536).toInt32 = sCh o i.toNatClampNeg) : Ct E M_L_charAt [.ref (o + 10), .int i] h (some (.int (sCh o i.toNatClampNeg))) h := by
  have h0 : ¬ i < 0 := fun q => hin (Or.inl q)
  have hl : sLn o < 2 ^ 31 := by rcases ho with rfl | rfl <;> decide
  have h1 : i < nI (sLn o) := by
    obtain ⟨j, hj, rfl⟩ := nI_of h0
    have : j < sLn o := by
      rw [nI_clamp hj] at hin
      omega
    exact nI_lt this hl
  refine Ct_of ok_L_charAt [some (.ref (o + 10)), some (.int i)] (Nat.le_of_ble_eq_true rfl) rfl ?_
  refine sl_ok ok_L_charAt [.iload_n 1, .aload_n 0] (pc1 := 2) (ls1 := [some (.ref (o + 10)), some (.int i)]) (st1 := [.ref (o + 10), .int i]) (h1 := h) (P := True) (by decide +kernel) rfl trivial ?_
  refine q_vlen ho (by decide +kernel) ?_
  refine q_callS ok_S_checkIndex (as := [.int i, .int (nI (sLn o))]) (st := []) ⟨wm_S_checkIndex, wn_S_checkIndex, wi_S, ds_S_checkIndex, Nat.le_of_ble_eq_true rfl, Nat.le_of_ble_eq_true rfl⟩ (s_S_checkIndex h0 h1) rfl (fun v hv => by cases hv) (Nat.le_of_ble_eq_true rfl) (by decide +kernel) rfl ?_
  refine sl_ok ok_L_charAt [.aload_n 0, .iload_n 1] (pc1 := 8) (ls1 := [some (.ref (o + 10)), some (.int i)]) (st1 := [.int i, .ref (o + 10)]) (h1 := h) (P := True) (by decide +kernel) rfl trivial ?_
  refine q_vald ho hin (by decide +kernel) ?_
  refine sl_ok ok_L_charAt [.sipush 255, .iand] (pc1 := 13) (ls1 := [some (.ref (o + 10)), some (.int i)]) (st1 := [.int (sCh o i.toNatClampNeg &&& 255)]) (h1 := h) (P := True) (by decide +kernel) rfl trivial ?_
  refine q_i2c (by decide +kernel) ?_
  refine q_nret rfl ?_ (by rw [hc.2]) rfl (by decide +kernel)
  rw [hc.1, hc.2]
theorem s_S_coder (ho : o = 200 ∨ o = 201) : Ct E M_S_coder [.ref o] h (some (.int 0)) h := by
  refine Ct_of ok_S_coder [some (.ref o)] (Nat.le_of_ble_eq_true rfl) rfl ?_
  refine q_comp rfl (by decide +kernel) ?_
  refine q_if_eq (off := 10) (tgt := 13) (by decide +kernel) (by decide) (fun q => absurd q (by decide)) (fun _ => ?_)
  refine sl_ok ok_S_coder [.aload_n 0] (pc1 := 7) (ls1 := [some (.ref o)]) (st1 := [.ref o]) (h1 := h) (P := True) (by decide +kernel) rfl trivial ?_
  refine q_scod rfl ho (by decide +kernel) ?_
  refine q_goto (off := 4) (tgt := 14) (by decide) (by decide +kernel) ?_
  exact q_nret rfl (by decide +kernel) rfl rfl (by decide +kernel)
theorem s_S_isLatin1 (ho : o = 200 ∨ o = 201) : Ct E M_S_isLatin1 [.ref o] h (some (.int 1)) h := by
  refine Ct_of ok_S_isLatin1 [some (.ref o)] (Nat.le_of_ble_eq_true rfl) rfl ?_
  refine q_comp rfl (by decide +kernel) ?_
  refine q_if_eq (off := 14) (tgt := 17) (by decide +kernel) (by decide) (fun q => absurd q (by decide)) (fun _ => ?_)
  refine sl_ok ok_S_isLatin1 [.aload_n 0] (pc1 := 7) (ls1 := [some (.ref o)]) (st1 := [.ref o]) (h1 := h) (P := True) (by decide +kernel) rfl trivial ?_
  refine q_scod rfl ho (by decide +kernel) ?_
  refine q_if_ne (off := 7) (tgt := 17) (by decide +kernel) (by decide) (fun q => absurd rfl q) (fun _ => ?_)
  refine sl_ok ok_S_isLatin1 [.iconst 1] (pc1 := 14) (ls1 := [some (.ref o)]) (st1 := [.int 1]) (h1 := h) (P := True) (by decide +kernel) rfl trivial ?_
  refine q_goto (off := 4) (tgt := 18) (by decide) (by decide +kernel) ?_
  exact q_zret rfl (Or.inr rfl) rfl rfl (by decide +kernel)
theorem s_S_length (ho : o = 200 ∨ o = 201) : Ct E M_S_length [.ref o] h (some (.int (nI (sLn o)))) h := by
  refine Ct_of ok_S_length [some (.ref o)] (Nat.le_of_ble_eq_true rfl) rfl ?_
  refine sl_ok ok_S_length [.aload_n 0] (pc1 := 1) (ls1 := [some (.ref o)]) (st1 := [.ref o]) (h1 := h) (P := True) (by decide +kernel) rfl trivial ?_
  refine q_sval rfl ho (by decide +kernel) ?_
  refine q_vlen ho (by decide +kernel) ?_
  refine sl_ok ok_S_length [.aload_n 0] (pc1 := 6) (ls1 := [some (.ref o)]) (st1 := [.ref o, .int (nI (sLn o))]) (h1 := h) (P := True) (by decide +kernel) rfl trivial ?_
  refine q_callStr ok_S_coder (as := []) (st := [.int (nI (sLn o))]) ⟨wm_S_coder, wn_S_coder, ws_S_coder, wi_S, ds_S_coder, Nat.le_of_ble_eq_true rfl, Nat.le_of_ble_eq_true rfl⟩ (s_S_coder ho) rfl ho rfl (fun v hv => by cases hv; rfl) (Nat.le_of_ble_eq_true rfl) (by decide +kernel) rfl ?_
  refine sl_ok ok_S_length [.ishr] (pc1 := 10) (ls1 := [some (.ref o)]) (st1 := [.int (jshr (nI (sLn o)) 0)]) (h1 := h) (P := True) (by decide +kernel) rfl trivial ?_
  refine q_iret rfl ?_ rfl (by decide +kernel)
  rcases ho with rfl | rfl <;> (congr 2)
theorem sCh_ok (ho : o = 200 ∨ o = 201) {k : Nat} (hk : k < sLn o) : narrow .char (.int ((sCh o k &&& 255).toUInt32 % 65536).toInt32) = .int (sCh o k) ∧ ((sCh o k &&& 255).toUInt32 % 65536).toInt32 = sCh o k := by
  rcases ho with rfl | rfl
  · exact (by decide +kernel : ∀ k, k < sLn 200 → narrow .char (.int ((sCh 200 k &&& 255).toUInt32 % 65536).toInt32) = .int (sCh 200 k) ∧ ((sCh 200 k &&& 255).toUInt32 % 65536).toInt32 = sCh 200 k) k hk
  · exact (by decide +kernel : ∀ k, k < sLn 201 → narrow .char (.int ((sCh 201 k &&& 255).toUInt32 % 65536).toInt32) = .int (sCh 201 k) ∧ ((sCh 201 k &&& 255).toUInt32 % 65536).toInt32 = sCh 201 k) k hk
theorem s_S_charAt (ho : o = 200 ∨ o = 201) {i : Int32} (hin : ¬ (i < 0 ∨ sLn o ≤ i.toNatClampNeg)) : Ct E M_S_charAt [.ref o, .int i] h (some (.int (sCh o i.toNatClampNeg))) h := by
  have hc := sCh_ok ho (k := i.toNatClampNeg) (Nat.not_le.mp fun q => hin (Or.inr q))
  refine Ct_of ok_S_charAt [some (.ref o), some (.int i)] (Nat.le_of_ble_eq_true rfl) rfl ?_
  refine sl_ok ok_S_charAt [.aload_n 0] (pc1 := 1) (ls1 := [some (.ref o), some (.int i)]) (st1 := [.ref o]) (h1 := h) (P := True) (by decide +kernel) rfl trivial ?_
  refine q_callStr ok_S_isLatin1 (as := []) (st := []) ⟨wm_S_isLatin1, wn_S_isLatin1, ws_S_isLatin1, wi_S, ds_S_isLatin1, Nat.le_of_ble_eq_true rfl, Nat.le_of_ble_eq_true rfl⟩ (s_S_isLatin1 ho) rfl ho rfl (fun v hv => by cases hv; rfl) (Nat.le_of_ble_eq_true rfl) (by decide +kernel) rfl ?_
  refine q_if_eq (off := 12) (tgt := 16) (by decide +kernel) (by decide) (fun q => absurd q (by decide)) (fun _ => ?_)
  refine sl_ok ok_S_charAt [.aload_n 0] (pc1 := 8) (ls1 := [some (.ref o), some (.int i)]) (st1 := [.ref o]) (h1 := h) (P := True) (by decide +kernel) rfl trivial ?_
  refine q_sval rfl ho (by decide +kernel) ?_
  refine sl_ok ok_S_charAt [.iload_n 1] (pc1 := 12) (ls1 := [some (.ref o), some (.int i)]) (st1 := [.int i, .ref (o + 10)]) (h1 := h) (P := True) (by decide +kernel) rfl trivial ?_
  refine q_callS ok_L_charAt (as := [.ref (o + 10), .int i]) (st := []) ⟨wm_L_charAt, wn_L_charAt, wi_L, ds_L_charAt, Nat.le_of_ble_eq_true rfl, Nat.le_of_ble_eq_true rfl⟩ (s_L_charAt ho hin hc) rfl (fun v hv => by cases hv; rfl) (Nat.le_of_ble_eq_true rfl) (by decide +kernel) rfl ?_
  exact q_nret rfl (by have q := hc.1; rw [hc.2] at q; exact q) rfl rfl (by decide +kernel)
end TX

def f_Tape_spells_L1 (o1 : Nat) (h : pH) (x2 : Int32) : Option (Int32 ⊕ Int32) :=
  if (nI (sLn o1)) ≤ x2 then
    some (.inr 1)
  else
    (f_Tape_byteAt ((hI h 1 2) + x2) h).bind fun v_2 =>
    if x2 < 0 ∨ sLn o1 ≤ x2.toNatClampNeg then none else
    if v_2 = (sCh o1 x2.toNatClampNeg) then
      some (.inl (x2 + 1))
    else
      some (.inr 0)
set_option maxHeartbeats 4000000 in
theorem b_Tape_spells_L1 {E : pE} {r : Option Value} {hr : pH} {o1 : Nat} {h : pH} {x2 : Int32} (ho1 : o1 = 200 ∨ o1 = 201) {b : (Int32 ⊕ Int32)} (e : f_Tape_spells_L1 o1 h x2 = some b) (k : (Sum.elim (fun s : Int32 => Go E M_Tape_spells 20 [some (.ref 1), some (.ref o1), some (.int s)] [] h r hr) (fun v : Int32 => r = some (.int v) ∧ hr = h)) b) : Go E M_Tape_spells 20 [some (.ref 1), some (.ref o1), some (.int x2)] [] h r hr := by
  unfold f_Tape_spells_L1 at e
  refine sl_ok ok_Tape_spells [.iload_n 2, .aload_n 1] (pc1 := 22) (ls1 := [some (.ref 1), some (.ref o1), some (.int x2)]) (st1 := [.ref o1, .int x2]) (h1 := h) (P := True) (by decide +kernel) rfl trivial ?_
  refine q_callStr ok_S_length (as := []) (st := [.int x2]) ⟨wd_15, wd_16, wd_17, wd_18, ds_S_length, Nat.le_of_ble_eq_true rfl, Nat.le_of_ble_eq_true rfl⟩ (s_S_length ho1) rfl ho1 rfl (fun v hv => by cases hv; rfl) (Nat.le_of_ble_eq_true rfl) (by decide +kernel) rfl ?_
  refine q_icmp_ge (off := 29) (tgt := 54) (by decide +kernel) (by decide) (fun c_1 => ?_) (fun c_1 => ?_)
  · have e := it_t c_1 e
    refine sl_ok ok_Tape_spells [.iconst 1] (pc1 := 55) (ls1 := [some (.ref 1), some (.ref o1), some (.int x2)]) (st1 := [.int 1]) (h1 := h) (P := True) (by decide +kernel) rfl trivial ?_
    cases e
    exact q_zret rfl (Or.inr rfl) k.1 k.2 (by decide +kernel)
  · have e := it_f c_1 e
    refine sl_ok ok_Tape_spells [.aload_n 0, .aload_n 0, .getfield 22, .iload_n 2, .iadd] (pc1 := 35) (ls1 := [some (.ref 1), some (.ref o1), some (.int x2)]) (st1 := [.int ((hI h 1 2) + x2), .ref 1]) (h1 := h) (P := (ak 1 = 0 ∧ cx 1 = 9) ∧ True) (by decide +kernel) rfl ⟨⟨rfl, rfl⟩, trivial⟩ ?_
    obtain ⟨v_2, e_3, e⟩ := bi_s e
    refine q_callV ok_Tape_byteAt (as := [.int ((hI h 1 2) + x2)]) (st := []) ⟨wd_19, wd_20, wd_21, wd_3, ds_Tape_byteAt, Nat.le_of_ble_eq_true rfl, Nat.le_of_ble_eq_true rfl⟩ (s_Tape_byteAt  e_3) rfl ⟨rfl, rfl⟩ (ci := 9) rfl (fun v hv => by cases hv; rfl) (Nat.le_of_ble_eq_true rfl) (by decide +kernel) rfl ?_
    refine sl_ok ok_Tape_spells [.aload_n 1, .iload_n 2] (pc1 := 40) (ls1 := [some (.ref 1), some (.ref o1), some (.int x2)]) (st1 := [.int x2, .ref o1, .int v_2]) (h1 := h) (P := True) (by decide +kernel) rfl trivial ?_
    obtain ⟨g_4, e⟩ := it_g e
    refine q_callStr ok_S_charAt (as := [.int x2]) (st := [.int v_2]) ⟨wd_22, wd_23, wd_24, wd_18, ds_S_charAt, Nat.le_of_ble_eq_true rfl, Nat.le_of_ble_eq_true rfl⟩ (s_S_charAt ho1 g_4) rfl ho1 rfl (fun v hv => by cases hv; rfl) (Nat.le_of_ble_eq_true rfl) (by decide +kernel) rfl ?_
    refine q_icmp_eq (off := 5) (tgt := 48) (by decide +kernel) (by decide) (fun c_5 => ?_) (fun c_5 => ?_)
    · have e := it_t c_5 e
      refine sl_ok ok_Tape_spells [.iinc 2 1] (pc1 := 51) (ls1 := [some (.ref 1), some (.ref o1), some (.int (x2 + 1))]) (st1 := []) (h1 := h) (P := True) (by decide +kernel) rfl trivial ?_
      refine q_goto (off := -31) (tgt := 20) (by decide) (by decide +kernel) ?_
      cases e
      exact k
    · have e := it_f c_5 e
      refine sl_ok ok_Tape_spells [.iconst 0] (pc1 := 47) (ls1 := [some (.ref 1), some (.ref o1), some (.int x2)]) (st1 := [.int 0]) (h1 := h) (P := True) (by decide +kernel) rfl trivial ?_
      cases e
      exact q_zret rfl (Or.inl rfl) k.1 k.2 (by decide +kernel)
def f_Tape_spells (o1 : Nat) (h : pH) : Option Int32 :=
  if ((hI h 1 6) - (hI h 1 2)) = (nI (sLn o1)) then
    lp (fun s => f_Tape_spells_L1 o1 h s) lpN 0
  else
    some 0
set_option maxHeartbeats 4000000 in
theorem b_Tape_spells {E : pE} {r : Option Value} {hr : pH} {o1 : Nat} {h : pH} (ho1 : o1 = 200 ∨ o1 = 201) {b : Int32} (e : f_Tape_spells o1 h = some b) (k : (fun v : Int32 => r = some (.int v) ∧ hr = h) b) : Go E M_Tape_spells 0 [some (.ref 1), some (.ref o1), none] [] h r hr := by
  unfold f_Tape_spells at e
  refine sl_ok ok_Tape_spells [.aload_n 0, .getfield 19, .aload_n 0, .getfield 22, .isub, .aload_n 1] (pc1 := 10) (ls1 := [some (.ref 1), some (.ref o1), none]) (st1 := [.ref o1, .int ((hI h 1 6) - (hI h 1 2))]) (h1 := h) (P := (ak 1 = 0 ∧ cx 1 = 9) ∧ (ak 1 = 0 ∧ cx 1 = 9) ∧ True) (by decide +kernel) rfl ⟨⟨rfl, rfl⟩, ⟨rfl, rfl⟩, trivial⟩ ?_
  refine q_callStr ok_S_length (as := []) (st := [.int ((hI h 1 6) - (hI h 1 2))]) ⟨wd_15, wd_16, wd_17, wd_18, ds_S_length, Nat.le_of_ble_eq_true rfl, Nat.le_of_ble_eq_true rfl⟩ (s_S_length ho1) rfl ho1 rfl (fun v hv => by cases hv; rfl) (Nat.le_of_ble_eq_true rfl) (by decide +kernel) rfl ?_
  refine q_icmp_eq (off := 5) (tgt := 18) (by decide +kernel) (by decide) (fun c_1 => ?_) (fun c_1 => ?_)
  · have e := it_t c_1 e
    refine sl_ok ok_Tape_spells [.iconst 0, .istore_n 2] (pc1 := 20) (ls1 := [some (.ref 1), some (.ref o1), some (.int 0)]) (st1 := []) (h1 := h) (P := True) (by decide +kernel) rfl trivial ?_
    exact lp_in e (fun s => Go E M_Tape_spells 20 [some (.ref 1), some (.ref o1), some (.int s)] [] h r hr) (fun v : Int32 => r = some (.int v) ∧ hr = h) (fun _ _ e k => b_Tape_spells_L1 ho1 e k) k
  · have e := it_f c_1 e
    refine sl_ok ok_Tape_spells [.iconst 0] (pc1 := 17) (ls1 := [some (.ref 1), some (.ref o1), none]) (st1 := [.int 0]) (h1 := h) (P := True) (by decide +kernel) rfl trivial ?_
    cases e
    exact q_zret rfl (Or.inl rfl) k.1 k.2 (by decide +kernel)
theorem s_Tape_spells {E : pE} {o1 : Nat} {h : pH} (ho1 : o1 = 200 ∨ o1 = 201) {v : Int32} (e : f_Tape_spells o1 h = some v) : Ct E M_Tape_spells [.ref 1, .ref o1] h (some (.int v)) h :=
  Ct_of ok_Tape_spells [some (.ref 1), some (.ref o1), none] (Nat.le_of_ble_eq_true rfl) rfl (b_Tape_spells ho1 e ⟨rfl, rfl⟩)
def f_Tape_scanLetters_J2 (h : pH) : Option pH :=
  if ((hI h 1 6) - (hI h 1 2)) ≤ 8 then
    (f_Tape_spells 200 h).bind fun v_2 =>
    if v_2 = 0 then
      (f_Tape_spells 201 h).bind fun v_5 =>
      if v_5 = 0 then
        some (sI h 1 3 3)
      else
        some (sI h 1 3 2)
    else
      some (sI h 1 3 1)
  else
    some (sI h 1 3 0)
set_option maxHeartbeats 4000000 in
theorem b_Tape_scanLetters_J2 {E : pE} {r : Option Value} {hr : pH} {h : pH}  {b : pH} (e : f_Tape_scanLetters_J2 h = some b) (k : (fun v : pH => r = none ∧ hr = v) b) : Go E M_Tape_scanLetters 70 [some (.ref 1)] [] h r hr := by
  unfold f_Tape_scanLetters_J2 at e
  refine sl_ok ok_Tape_scanLetters [.aload_n 0, .getfield 19, .aload_n 0, .getfield 22, .isub, .bipush 8] (pc1 := 81) (ls1 := [some (.ref 1)]) (st1 := [.int 8, .int ((hI h 1 6) - (hI h 1 2))]) (h1 := h) (P := (ak 1 = 0 ∧ cx 1 = 9) ∧ (ak 1 = 0 ∧ cx 1 = 9) ∧ True) (by decide +kernel) rfl ⟨⟨rfl, rfl⟩, ⟨rfl, rfl⟩, trivial⟩ ?_
  refine q_icmp_le (off := 11) (tgt := 92) (by decide +kernel) (by decide) (fun c_1 => ?_) (fun c_1 => ?_)
  · have e := it_t c_1 e
    refine sl_ok ok_Tape_scanLetters [.aload_n 0] (pc1 := 93) (ls1 := [some (.ref 1)]) (st1 := [.ref 1]) (h1 := h) (P := True) (by decide +kernel) rfl trivial ?_
    refine q_ldcS200 rfl (by decide +kernel) ?_
    obtain ⟨v_2, e_3, e⟩ := bi_s e
    refine q_callV ok_Tape_spells (as := [.ref 200]) (st := []) ⟨wd_25, wd_26, wd_27, wd_3, ds_Tape_spells, Nat.le_of_ble_eq_true rfl, Nat.le_of_ble_eq_true rfl⟩ (s_Tape_spells (by decide) e_3) rfl ⟨rfl, rfl⟩ (ci := 9) rfl (fun v hv => by cases hv; rfl) (Nat.le_of_ble_eq_true rfl) (by decide +kernel) rfl ?_
    refine q_if_eq (off := 11) (tgt := 109) (by decide +kernel) (by decide) (fun c_4 => ?_) (fun c_4 => ?_)
    · have e := it_t c_4 e
      refine sl_ok ok_Tape_scanLetters [.aload_n 0] (pc1 := 110) (ls1 := [some (.ref 1)]) (st1 := [.ref 1]) (h1 := h) (P := True) (by decide +kernel) rfl trivial ?_
      refine q_ldcS201 rfl (by decide +kernel) ?_
      obtain ⟨v_5, e_6, e⟩ := bi_s e
      refine q_callV ok_Tape_spells (as := [.ref 201]) (st := []) ⟨wd_25, wd_26, wd_27, wd_3, ds_Tape_spells, Nat.le_of_ble_eq_true rfl, Nat.le_of_ble_eq_true rfl⟩ (s_Tape_spells (by decide) e_6) rfl ⟨rfl, rfl⟩ (ci := 9) rfl (fun v hv => by cases hv; rfl) (Nat.le_of_ble_eq_true rfl) (by decide +kernel) rfl ?_
      refine q_if_eq (off := 11) (tgt := 126) (by decide +kernel) (by decide) (fun c_7 => ?_) (fun c_7 => ?_)
      · have e := it_t c_7 e
        refine sl_ok ok_Tape_scanLetters [.aload_n 0, .iconst 3, .putfield 45] (pc1 := 131) (ls1 := [some (.ref 1)]) (st1 := []) (h1 := (sI h 1 3 3)) (P := (ak 1 = 0 ∧ cx 1 = 9) ∧ True) (by decide +kernel) rfl ⟨⟨rfl, rfl⟩, trivial⟩ ?_
        cases e
        exact q_vret rfl k.1 k.2 (by decide +kernel)
      · have e := it_f c_7 e
        refine sl_ok ok_Tape_scanLetters [.aload_n 0, .iconst 2, .putfield 45] (pc1 := 123) (ls1 := [some (.ref 1)]) (st1 := []) (h1 := (sI h 1 3 2)) (P := (ak 1 = 0 ∧ cx 1 = 9) ∧ True) (by decide +kernel) rfl ⟨⟨rfl, rfl⟩, trivial⟩ ?_
        refine q_goto (off := 8) (tgt := 131) (by decide) (by decide +kernel) ?_
        cases e
        exact q_vret rfl k.1 k.2 (by decide +kernel)
    · have e := it_f c_4 e
      refine sl_ok ok_Tape_scanLetters [.aload_n 0, .iconst 1, .putfield 45] (pc1 := 106) (ls1 := [some (.ref 1)]) (st1 := []) (h1 := (sI h 1 3 1)) (P := (ak 1 = 0 ∧ cx 1 = 9) ∧ True) (by decide +kernel) rfl ⟨⟨rfl, rfl⟩, trivial⟩ ?_
      refine q_goto (off := 25) (tgt := 131) (by decide) (by decide +kernel) ?_
      cases e
      exact q_vret rfl k.1 k.2 (by decide +kernel)
  · have e := it_f c_1 e
    refine sl_ok ok_Tape_scanLetters [.aload_n 0, .iconst 0, .putfield 45] (pc1 := 89) (ls1 := [some (.ref 1)]) (st1 := []) (h1 := (sI h 1 3 0)) (P := (ak 1 = 0 ∧ cx 1 = 9) ∧ True) (by decide +kernel) rfl ⟨⟨rfl, rfl⟩, trivial⟩ ?_
    refine q_goto (off := 42) (tgt := 131) (by decide) (by decide +kernel) ?_
    cases e
    exact q_vret rfl k.1 k.2 (by decide +kernel)
def f_Tape_scanLetters_L1 (h : pH) : Option (pH ⊕ pH) :=
  if (hI h 1 1) ≤ (hI h 1 6) then
    mi (f_Tape_scanLetters_J2 h)
  else
    (f_Tape_byteAt (hI h 1 6) h).bind fun v_2 =>
    if (f_Tape_isLetter v_2) = 0 then
      mi (f_Tape_scanLetters_J2 h)
    else
      (f_Tape_byteAt (hI h 1 6) h).bind fun v_5 =>
      some (.inl (sI (sL h 1 5 (((hL h 1 5) * 27) + (Int32.toInt64 ((v_5 - 97) + 1)))) 1 6 ((hI (sL h 1 5 (((hL h 1 5) * 27) + (Int32.toInt64 ((v_5 - 97) + 1)))) 1 6) + 1)))
set_option maxHeartbeats 4000000 in
theorem b_Tape_scanLetters_L1 {E : pE} {r : Option Value} {hr : pH} {h : pH}  {b : (pH ⊕ pH)} (e : f_Tape_scanLetters_L1 h = some b) (k : (Sum.elim (fun s : pH => Go E M_Tape_scanLetters 5 [some (.ref 1)] [] s r hr) (fun v : pH => r = none ∧ hr = v)) b) : Go E M_Tape_scanLetters 5 [some (.ref 1)] [] h r hr := by
  unfold f_Tape_scanLetters_L1 at e
  refine sl_ok ok_Tape_scanLetters [.aload_n 0, .getfield 19, .aload_n 0, .getfield 15] (pc1 := 13) (ls1 := [some (.ref 1)]) (st1 := [.int (hI h 1 1), .int (hI h 1 6)]) (h1 := h) (P := (ak 1 = 0 ∧ cx 1 = 9) ∧ (ak 1 = 0 ∧ cx 1 = 9) ∧ True) (by decide +kernel) rfl ⟨⟨rfl, rfl⟩, ⟨rfl, rfl⟩, trivial⟩ ?_
  refine q_icmp_ge (off := 57) (tgt := 70) (by decide +kernel) (by decide) (fun c_1 => ?_) (fun c_1 => ?_)
  · have e := it_t c_1 e
    obtain ⟨_, e9, rfl⟩ := mi_s e
    have e := e9
    exact b_Tape_scanLetters_J2  e k
  · have e := it_f c_1 e
    refine sl_ok ok_Tape_scanLetters [.aload_n 0, .aload_n 0, .getfield 19] (pc1 := 21) (ls1 := [some (.ref 1)]) (st1 := [.int (hI h 1 6), .ref 1]) (h1 := h) (P := (ak 1 = 0 ∧ cx 1 = 9) ∧ True) (by decide +kernel) rfl ⟨⟨rfl, rfl⟩, trivial⟩ ?_
    obtain ⟨v_2, e_3, e⟩ := bi_s e
    refine q_callV ok_Tape_byteAt (as := [.int (hI h 1 6)]) (st := []) ⟨wd_19, wd_20, wd_21, wd_3, ds_Tape_byteAt, Nat.le_of_ble_eq_true rfl, Nat.le_of_ble_eq_true rfl⟩ (s_Tape_byteAt  e_3) rfl ⟨rfl, rfl⟩ (ci := 9) rfl (fun v hv => by cases hv; rfl) (Nat.le_of_ble_eq_true rfl) (by decide +kernel) rfl ?_
    refine q_callS ok_Tape_isLetter (as := [.int v_2]) (st := []) ⟨wd_28, wd_29, wd_3, ds_Tape_isLetter, Nat.le_of_ble_eq_true rfl, Nat.le_of_ble_eq_true rfl⟩ (s_Tape_isLetter ) rfl (fun v hv => by cases hv; rfl) (Nat.le_of_ble_eq_true rfl) (by decide +kernel) rfl ?_
    refine q_if_eq (off := 43) (tgt := 70) (by decide +kernel) (by decide) (fun c_4 => ?_) (fun c_4 => ?_)
    · have e := it_t c_4 e
      obtain ⟨_, e9, rfl⟩ := mi_s e
      have e := e9
      exact b_Tape_scanLetters_J2  e k
    · have e := it_f c_4 e
      refine sl_ok ok_Tape_scanLetters [.aload_n 0, .aload_n 0, .getfield 48] (pc1 := 35) (ls1 := [some (.ref 1)]) (st1 := [.long (hL h 1 5), .ref 1]) (h1 := h) (P := (ak 1 = 0 ∧ cx 1 = 9) ∧ True) (by decide +kernel) rfl ⟨⟨rfl, rfl⟩, trivial⟩ ?_
      refine q_ldc2 wd_30 (by decide +kernel) ?_
      refine sl_ok ok_Tape_scanLetters [.lmul, .aload_n 0, .aload_n 0, .getfield 19] (pc1 := 44) (ls1 := [some (.ref 1)]) (st1 := [.int (hI h 1 6), .ref 1, .long ((hL h 1 5) * 27), .ref 1]) (h1 := h) (P := (ak 1 = 0 ∧ cx 1 = 9) ∧ True) (by decide +kernel) rfl ⟨⟨rfl, rfl⟩, trivial⟩ ?_
      obtain ⟨v_5, e_6, e⟩ := bi_s e
      refine q_callV ok_Tape_byteAt (as := [.int (hI h 1 6)]) (st := [.long ((hL h 1 5) * 27), .ref 1]) ⟨wd_19, wd_20, wd_21, wd_3, ds_Tape_byteAt, Nat.le_of_ble_eq_true rfl, Nat.le_of_ble_eq_true rfl⟩ (s_Tape_byteAt  e_6) rfl ⟨rfl, rfl⟩ (ci := 9) rfl (fun v hv => by cases hv; rfl) (Nat.le_of_ble_eq_true rfl) (by decide +kernel) rfl ?_
      refine sl_ok ok_Tape_scanLetters [.bipush 97, .isub, .iconst 1, .iadd, .i2l, .ladd, .putfield 48, .aload_n 0, .dup, .getfield 19, .iconst 1, .iadd, .putfield 19] (pc1 := 67) (ls1 := [some (.ref 1)]) (st1 := []) (h1 := (sI (sL h 1 5 (((hL h 1 5) * 27) + (Int32.toInt64 ((v_5 - 97) + 1)))) 1 6 ((hI (sL h 1 5 (((hL h 1 5) * 27) + (Int32.toInt64 ((v_5 - 97) + 1)))) 1 6) + 1))) (P := (ak 1 = 0 ∧ cx 1 = 9) ∧ (ak 1 = 0 ∧ cx 1 = 9) ∧ (ak 1 = 0 ∧ cx 1 = 9) ∧ True) (by decide +kernel) rfl ⟨⟨rfl, rfl⟩, ⟨rfl, rfl⟩, ⟨rfl, rfl⟩, trivial⟩ ?_
      refine q_goto (off := -62) (tgt := 5) (by decide) (by decide +kernel) ?_
      cases e
      exact k
def f_Tape_scanLetters (h : pH) : Option pH :=
  lp (fun s => f_Tape_scanLetters_L1 s) lpN (sL h 1 5 0)
set_option maxHeartbeats 4000000 in
theorem b_Tape_scanLetters {E : pE} {r : Option Value} {hr : pH} {h : pH}  {b : pH} (e : f_Tape_scanLetters h = some b) (k : (fun v : pH => r = none ∧ hr = v) b) : Go E M_Tape_scanLetters 0 [some (.ref 1)] [] h r hr := by
  unfold f_Tape_scanLetters at e
  refine sl_ok ok_Tape_scanLetters [.aload_n 0, .lconst 0, .putfield 48] (pc1 := 5) (ls1 := [some (.ref 1)]) (st1 := []) (h1 := (sL h 1 5 0)) (P := (ak 1 = 0 ∧ cx 1 = 9) ∧ True) (by decide +kernel) rfl ⟨⟨rfl, rfl⟩, trivial⟩ ?_
  exact lp_in e (fun s => Go E M_Tape_scanLetters 5 [some (.ref 1)] [] s r hr) (fun v : pH => r = none ∧ hr = v) (fun _ _ e k => b_Tape_scanLetters_L1  e k) k
theorem s_Tape_scanLetters {E : pE} {h : pH}  {v : pH} (e : f_Tape_scanLetters h = some v) : Ct E M_Tape_scanLetters [.ref 1] h none v :=
  Ct_of ok_Tape_scanLetters [some (.ref 1)] (Nat.le_of_ble_eq_true rfl) rfl (b_Tape_scanLetters  e ⟨rfl, rfl⟩)
def f_Tape_advance_J2 (h : pH) : Option (Int32 × pH) :=
  if (hI (sI h 1 6 (hI h 1 2)) 1 2) < (hI (sI h 1 6 (hI h 1 2)) 1 1) then
    (f_Tape_byteAt (hI (sI h 1 6 (hI h 1 2)) 1 2) (sI h 1 6 (hI h 1 2))).bind fun v_2 =>
    if (f_Tape_isLetter v_2) = 0 then
      if (f_Tape_isDigit v_2) = 0 then
        if v_2 = 45 then
          some (1, (sI (sI (sI h 1 6 (hI h 1 2)) 1 6 ((hI (sI h 1 6 (hI h 1 2)) 1 2) + 1)) 1 3 5))
        else
          if v_2 = 59 then
            some (1, (sI (sI (sI h 1 6 (hI h 1 2)) 1 6 ((hI (sI h 1 6 (hI h 1 2)) 1 2) + 1)) 1 3 6))
          else
            some (1, (sI (sI (sI h 1 6 (hI h 1 2)) 1 6 ((hI (sI h 1 6 (hI h 1 2)) 1 2) + 1)) 1 3 0))
      else
        (f_Tape_scanDigits (sI h 1 6 (hI h 1 2))).bind fun v_8 =>
        some (1, v_8)
    else
      (f_Tape_scanLetters (sI h 1 6 (hI h 1 2))).bind fun v_10 =>
      some (1, v_10)
  else
    some (0, (sI h 1 6 (hI h 1 2)))
set_option maxHeartbeats 4000000 in
theorem b_Tape_advance_J2 {E : pE} {r : Option Value} {hr : pH} {h : pH}  {b : (Int32 × pH)} (e : f_Tape_advance_J2 h = some b) (k : (fun v : (Int32 × pH) => r = some (.int v.1) ∧ hr = v.2) b) : Go E M_Tape_advance 46 [some (.ref 1), none] [] h r hr := by
  unfold f_Tape_advance_J2 at e
  refine sl_ok ok_Tape_advance [.aload_n 0, .aload_n 0, .getfield 22, .putfield 19, .aload_n 0, .getfield 22, .aload_n 0, .getfield 15] (pc1 := 62) (ls1 := [some (.ref 1), none]) (st1 := [.int (hI (sI h 1 6 (hI h 1 2)) 1 1), .int (hI (sI h 1 6 (hI h 1 2)) 1 2)]) (h1 := (sI h 1 6 (hI h 1 2))) (P := (ak 1 = 0 ∧ cx 1 = 9) ∧ (ak 1 = 0 ∧ cx 1 = 9) ∧ (ak 1 = 0 ∧ cx 1 = 9) ∧ (ak 1 = 0 ∧ cx 1 = 9) ∧ True) (by decide +kernel) rfl ⟨⟨rfl, rfl⟩, ⟨rfl, rfl⟩, ⟨rfl, rfl⟩, ⟨rfl, rfl⟩, trivial⟩ ?_
  refine q_icmp_lt (off := 5) (tgt := 67) (by decide +kernel) (by decide) (fun c_1 => ?_) (fun c_1 => ?_)
  · have e := it_t c_1 e
    refine sl_ok ok_Tape_advance [.aload_n 0, .aload_n 0, .getfield 22] (pc1 := 72) (ls1 := [some (.ref 1), none]) (st1 := [.int (hI (sI h 1 6 (hI h 1 2)) 1 2), .ref 1]) (h1 := (sI h 1 6 (hI h 1 2))) (P := (ak 1 = 0 ∧ cx 1 = 9) ∧ True) (by decide +kernel) rfl ⟨⟨rfl, rfl⟩, trivial⟩ ?_
    obtain ⟨v_2, e_3, e⟩ := bi_s e
    refine q_callV ok_Tape_byteAt (as := [.int (hI (sI h 1 6 (hI h 1 2)) 1 2)]) (st := []) ⟨wd_19, wd_20, wd_21, wd_3, ds_Tape_byteAt, Nat.le_of_ble_eq_true rfl, Nat.le_of_ble_eq_true rfl⟩ (s_Tape_byteAt  e_3) rfl ⟨rfl, rfl⟩ (ci := 9) rfl (fun v hv => by cases hv; rfl) (Nat.le_of_ble_eq_true rfl) (by decide +kernel) rfl ?_
    refine sl_ok ok_Tape_advance [.istore_n 1, .iload_n 1] (pc1 := 77) (ls1 := [some (.ref 1), some (.int v_2)]) (st1 := [.int v_2]) (h1 := (sI h 1 6 (hI h 1 2))) (P := True) (by decide +kernel) rfl trivial ?_
    refine q_callS ok_Tape_isLetter (as := [.int v_2]) (st := []) ⟨wd_28, wd_29, wd_3, ds_Tape_isLetter, Nat.le_of_ble_eq_true rfl, Nat.le_of_ble_eq_true rfl⟩ (s_Tape_isLetter ) rfl (fun v hv => by cases hv; rfl) (Nat.le_of_ble_eq_true rfl) (by decide +kernel) rfl ?_
    refine q_if_eq (off := 10) (tgt := 90) (by decide +kernel) (by decide) (fun c_4 => ?_) (fun c_4 => ?_)
    · have e := it_t c_4 e
      refine sl_ok ok_Tape_advance [.iload_n 1] (pc1 := 91) (ls1 := [some (.ref 1), some (.int v_2)]) (st1 := [.int v_2]) (h1 := (sI h 1 6 (hI h 1 2))) (P := True) (by decide +kernel) rfl trivial ?_
      refine q_callS ok_Tape_isDigit (as := [.int v_2]) (st := []) ⟨wd_31, wd_32, wd_3, ds_Tape_isDigit, Nat.le_of_ble_eq_true rfl, Nat.le_of_ble_eq_true rfl⟩ (s_Tape_isDigit ) rfl (fun v hv => by cases hv; rfl) (Nat.le_of_ble_eq_true rfl) (by decide +kernel) rfl ?_
      refine q_if_eq (off := 10) (tgt := 104) (by decide +kernel) (by decide) (fun c_5 => ?_) (fun c_5 => ?_)
      · have e := it_t c_5 e
        refine sl_ok ok_Tape_advance [.aload_n 0, .aload_n 0, .getfield 22, .iconst 1, .iadd, .putfield 19, .aload_n 0, .iload_n 1, .bipush 45] (pc1 := 118) (ls1 := [some (.ref 1), some (.int v_2)]) (st1 := [.int 45, .int v_2, .ref 1]) (h1 := (sI (sI h 1 6 (hI h 1 2)) 1 6 ((hI (sI h 1 6 (hI h 1 2)) 1 2) + 1))) (P := (ak 1 = 0 ∧ cx 1 = 9) ∧ (ak 1 = 0 ∧ cx 1 = 9) ∧ True) (by decide +kernel) rfl ⟨⟨rfl, rfl⟩, ⟨rfl, rfl⟩, trivial⟩ ?_
        refine q_icmp_ne (off := 7) (tgt := 125) (by decide +kernel) (by decide) (fun c_6 => ?_) (fun c_6 => ?_)
        · have e := it_f c_6 e
          refine sl_ok ok_Tape_advance [.iload_n 1, .bipush 59] (pc1 := 128) (ls1 := [some (.ref 1), some (.int v_2)]) (st1 := [.int 59, .int v_2, .ref 1]) (h1 := (sI (sI h 1 6 (hI h 1 2)) 1 6 ((hI (sI h 1 6 (hI h 1 2)) 1 2) + 1))) (P := True) (by decide +kernel) rfl trivial ?_
          refine q_icmp_ne (off := 8) (tgt := 136) (by decide +kernel) (by decide) (fun c_7 => ?_) (fun c_7 => ?_)
          · have e := it_f c_7 e
            refine sl_ok ok_Tape_advance [.iconst 0, .putfield 45, .iconst 1] (pc1 := 141) (ls1 := [some (.ref 1), some (.int v_2)]) (st1 := [.int 1]) (h1 := (sI (sI (sI h 1 6 (hI h 1 2)) 1 6 ((hI (sI h 1 6 (hI h 1 2)) 1 2) + 1)) 1 3 0)) (P := (ak 1 = 0 ∧ cx 1 = 9) ∧ True) (by decide +kernel) rfl ⟨⟨rfl, rfl⟩, trivial⟩ ?_
            cases e
            exact q_zret rfl (Or.inr rfl) k.1 k.2 (by decide +kernel)
          · have e := it_t c_7 e
            refine sl_ok ok_Tape_advance [.bipush 6] (pc1 := 133) (ls1 := [some (.ref 1), some (.int v_2)]) (st1 := [.int 6, .ref 1]) (h1 := (sI (sI h 1 6 (hI h 1 2)) 1 6 ((hI (sI h 1 6 (hI h 1 2)) 1 2) + 1))) (P := True) (by decide +kernel) rfl trivial ?_
            refine q_goto (off := 4) (tgt := 137) (by decide) (by decide +kernel) ?_
            refine sl_ok ok_Tape_advance [.putfield 45, .iconst 1] (pc1 := 141) (ls1 := [some (.ref 1), some (.int v_2)]) (st1 := [.int 1]) (h1 := (sI (sI (sI h 1 6 (hI h 1 2)) 1 6 ((hI (sI h 1 6 (hI h 1 2)) 1 2) + 1)) 1 3 6)) (P := (ak 1 = 0 ∧ cx 1 = 9) ∧ True) (by decide +kernel) rfl ⟨⟨rfl, rfl⟩, trivial⟩ ?_
            cases e
            exact q_zret rfl (Or.inr rfl) k.1 k.2 (by decide +kernel)
        · have e := it_t c_6 e
          refine sl_ok ok_Tape_advance [.iconst 5] (pc1 := 122) (ls1 := [some (.ref 1), some (.int v_2)]) (st1 := [.int 5, .ref 1]) (h1 := (sI (sI h 1 6 (hI h 1 2)) 1 6 ((hI (sI h 1 6 (hI h 1 2)) 1 2) + 1))) (P := True) (by decide +kernel) rfl trivial ?_
          refine q_goto (off := 15) (tgt := 137) (by decide) (by decide +kernel) ?_
          refine sl_ok ok_Tape_advance [.putfield 45, .iconst 1] (pc1 := 141) (ls1 := [some (.ref 1), some (.int v_2)]) (st1 := [.int 1]) (h1 := (sI (sI (sI h 1 6 (hI h 1 2)) 1 6 ((hI (sI h 1 6 (hI h 1 2)) 1 2) + 1)) 1 3 5)) (P := (ak 1 = 0 ∧ cx 1 = 9) ∧ True) (by decide +kernel) rfl ⟨⟨rfl, rfl⟩, trivial⟩ ?_
          cases e
          exact q_zret rfl (Or.inr rfl) k.1 k.2 (by decide +kernel)
      · have e := it_f c_5 e
        refine sl_ok ok_Tape_advance [.aload_n 0] (pc1 := 98) (ls1 := [some (.ref 1), some (.int v_2)]) (st1 := [.ref 1]) (h1 := (sI h 1 6 (hI h 1 2))) (P := True) (by decide +kernel) rfl trivial ?_
        obtain ⟨v_8, e_9, e⟩ := bi_s e
        refine q_callV ok_Tape_scanDigits (as := []) (st := []) ⟨wd_33, wd_34, wd_35, wd_3, ds_Tape_scanDigits, Nat.le_of_ble_eq_true rfl, Nat.le_of_ble_eq_true rfl⟩ (s_Tape_scanDigits  e_9) rfl ⟨rfl, rfl⟩ (ci := 9) rfl (fun v hv => by cases hv) (Nat.le_of_ble_eq_true rfl) (by decide +kernel) rfl ?_
        refine q_goto (off := 39) (tgt := 140) (by decide) (by decide +kernel) ?_
        refine sl_ok ok_Tape_advance [.iconst 1] (pc1 := 141) (ls1 := [some (.ref 1), some (.int v_2)]) (st1 := [.int 1]) (h1 := v_8) (P := True) (by decide +kernel) rfl trivial ?_
        cases e
        exact q_zret rfl (Or.inr rfl) k.1 k.2 (by decide +kernel)
    · have e := it_f c_4 e
      refine sl_ok ok_Tape_advance [.aload_n 0] (pc1 := 84) (ls1 := [some (.ref 1), some (.int v_2)]) (st1 := [.ref 1]) (h1 := (sI h 1 6 (hI h 1 2))) (P := True) (by decide +kernel) rfl trivial ?_
      obtain ⟨v_10, e_11, e⟩ := bi_s e
      refine q_callV ok_Tape_scanLetters (as := []) (st := []) ⟨wd_36, wd_37, wd_38, wd_3, ds_Tape_scanLetters, Nat.le_of_ble_eq_true rfl, Nat.le_of_ble_eq_true rfl⟩ (s_Tape_scanLetters  e_11) rfl ⟨rfl, rfl⟩ (ci := 9) rfl (fun v hv => by cases hv) (Nat.le_of_ble_eq_true rfl) (by decide +kernel) rfl ?_
      refine q_goto (off := 53) (tgt := 140) (by decide) (by decide +kernel) ?_
      refine sl_ok ok_Tape_advance [.iconst 1] (pc1 := 141) (ls1 := [some (.ref 1), some (.int v_2)]) (st1 := [.int 1]) (h1 := v_10) (P := True) (by decide +kernel) rfl trivial ?_
      cases e
      exact q_zret rfl (Or.inr rfl) k.1 k.2 (by decide +kernel)
  · have e := it_f c_1 e
    refine sl_ok ok_Tape_advance [.iconst 0] (pc1 := 66) (ls1 := [some (.ref 1), none]) (st1 := [.int 0]) (h1 := (sI h 1 6 (hI h 1 2))) (P := True) (by decide +kernel) rfl trivial ?_
    cases e
    exact q_zret rfl (Or.inl rfl) k.1 k.2 (by decide +kernel)
def f_Tape_advance_L1 (h : pH) : Option (pH ⊕ (Int32 × pH)) :=
  if (hI h 1 1) ≤ (hI h 1 2) then
    mi (f_Tape_advance_J2 h)
  else
    (f_Tape_byteAt (hI h 1 2) h).bind fun v_2 =>
    if (f_Tape_isBlank v_2) = 0 then
      mi (f_Tape_advance_J2 h)
    else
      some (.inl (sI h 1 2 ((hI h 1 2) + 1)))
set_option maxHeartbeats 4000000 in
theorem b_Tape_advance_L1 {E : pE} {r : Option Value} {hr : pH} {h : pH}  {b : (pH ⊕ (Int32 × pH))} (e : f_Tape_advance_L1 h = some b) (k : (Sum.elim (fun s : pH => Go E M_Tape_advance 8 [some (.ref 1), none] [] s r hr) (fun v : (Int32 × pH) => r = some (.int v.1) ∧ hr = v.2)) b) : Go E M_Tape_advance 8 [some (.ref 1), none] [] h r hr := by
  unfold f_Tape_advance_L1 at e
  refine sl_ok ok_Tape_advance [.aload_n 0, .getfield 22, .aload_n 0, .getfield 15] (pc1 := 16) (ls1 := [some (.ref 1), none]) (st1 := [.int (hI h 1 1), .int (hI h 1 2)]) (h1 := h) (P := (ak 1 = 0 ∧ cx 1 = 9) ∧ (ak 1 = 0 ∧ cx 1 = 9) ∧ True) (by decide +kernel) rfl ⟨⟨rfl, rfl⟩, ⟨rfl, rfl⟩, trivial⟩ ?_
  refine q_icmp_ge (off := 30) (tgt := 46) (by decide +kernel) (by decide) (fun c_1 => ?_) (fun c_1 => ?_)
  · have e := it_t c_1 e
    obtain ⟨_, e9, rfl⟩ := mi_s e
    have e := e9
    exact b_Tape_advance_J2  e k
  · have e := it_f c_1 e
    refine sl_ok ok_Tape_advance [.aload_n 0, .aload_n 0, .getfield 22] (pc1 := 24) (ls1 := [some (.ref 1), none]) (st1 := [.int (hI h 1 2), .ref 1]) (h1 := h) (P := (ak 1 = 0 ∧ cx 1 = 9) ∧ True) (by decide +kernel) rfl ⟨⟨rfl, rfl⟩, trivial⟩ ?_
    obtain ⟨v_2, e_3, e⟩ := bi_s e
    refine q_callV ok_Tape_byteAt (as := [.int (hI h 1 2)]) (st := []) ⟨wd_19, wd_20, wd_21, wd_3, ds_Tape_byteAt, Nat.le_of_ble_eq_true rfl, Nat.le_of_ble_eq_true rfl⟩ (s_Tape_byteAt  e_3) rfl ⟨rfl, rfl⟩ (ci := 9) rfl (fun v hv => by cases hv; rfl) (Nat.le_of_ble_eq_true rfl) (by decide +kernel) rfl ?_
    refine q_callS ok_Tape_isBlank (as := [.int v_2]) (st := []) ⟨wd_39, wd_40, wd_3, ds_Tape_isBlank, Nat.le_of_ble_eq_true rfl, Nat.le_of_ble_eq_true rfl⟩ (s_Tape_isBlank ) rfl (fun v hv => by cases hv; rfl) (Nat.le_of_ble_eq_true rfl) (by decide +kernel) rfl ?_
    refine q_if_eq (off := 16) (tgt := 46) (by decide +kernel) (by decide) (fun c_4 => ?_) (fun c_4 => ?_)
    · have e := it_t c_4 e
      obtain ⟨_, e9, rfl⟩ := mi_s e
      have e := e9
      exact b_Tape_advance_J2  e k
    · have e := it_f c_4 e
      refine sl_ok ok_Tape_advance [.aload_n 0, .dup, .getfield 22, .iconst 1, .iadd, .putfield 22] (pc1 := 43) (ls1 := [some (.ref 1), none]) (st1 := []) (h1 := (sI h 1 2 ((hI h 1 2) + 1))) (P := (ak 1 = 0 ∧ cx 1 = 9) ∧ (ak 1 = 0 ∧ cx 1 = 9) ∧ True) (by decide +kernel) rfl ⟨⟨rfl, rfl⟩, ⟨rfl, rfl⟩, trivial⟩ ?_
      refine q_goto (off := -35) (tgt := 8) (by decide) (by decide +kernel) ?_
      cases e
      exact k
def f_Tape_advance (h : pH) : Option (Int32 × pH) :=
  lp (fun s => f_Tape_advance_L1 s) lpN (sI h 1 2 (hI h 1 6))
set_option maxHeartbeats 4000000 in
theorem b_Tape_advance {E : pE} {r : Option Value} {hr : pH} {h : pH}  {b : (Int32 × pH)} (e : f_Tape_advance h = some b) (k : (fun v : (Int32 × pH) => r = some (.int v.1) ∧ hr = v.2) b) : Go E M_Tape_advance 0 [some (.ref 1), none] [] h r hr := by
  unfold f_Tape_advance at e
  refine sl_ok ok_Tape_advance [.aload_n 0, .aload_n 0, .getfield 19, .putfield 22] (pc1 := 8) (ls1 := [some (.ref 1), none]) (st1 := []) (h1 := (sI h 1 2 (hI h 1 6))) (P := (ak 1 = 0 ∧ cx 1 = 9) ∧ (ak 1 = 0 ∧ cx 1 = 9) ∧ True) (by decide +kernel) rfl ⟨⟨rfl, rfl⟩, ⟨rfl, rfl⟩, trivial⟩ ?_
  exact lp_in e (fun s => Go E M_Tape_advance 8 [some (.ref 1), none] [] s r hr) (fun v : (Int32 × pH) => r = some (.int v.1) ∧ hr = v.2) (fun _ _ e k => b_Tape_advance_L1  e k) k
theorem s_Tape_advance {E : pE} {h : pH}  {v : (Int32 × pH)} (e : f_Tape_advance h = some v) : Ct E M_Tape_advance [.ref 1] h (some (.int v.1)) v.2 :=
  Ct_of ok_Tape_advance [some (.ref 1), none] (Nat.le_of_ble_eq_true rfl) rfl (b_Tape_advance  e ⟨rfl, rfl⟩)
def f_TextReader_parse_J2 (h : pH) : Option (Int32 × pH) :=
  if (hI h 3 5) = 0 then
    some ((hI h 3 4), h)
  else
    some (((f_TextReader_endWith (1 : Int32) (hI h 1 1) h).1), ((f_TextReader_endWith (1 : Int32) (hI h 1 1) h).2))
set_option maxHeartbeats 4000000 in
theorem b_TextReader_parse_J2 {E : pE} {r : Option Value} {hr : pH} {h : pH}  {b : (Int32 × pH)} (e : f_TextReader_parse_J2 h = some b) (k : (fun v : (Int32 × pH) => r = some (.int v.1) ∧ hr = v.2) b) : Go E M_TextReader_parse 73 [some (.ref 3), none, none] [] h r hr := by
  unfold f_TextReader_parse_J2 at e
  refine sl_ok ok_TextReader_parse [.aload_n 0, .getfield 53] (pc1 := 77) (ls1 := [some (.ref 3), none, none]) (st1 := [.int (hI h 3 5)]) (h1 := h) (P := (ak 3 = 0 ∧ cx 3 = 10) ∧ True) (by decide +kernel) rfl ⟨⟨rfl, rfl⟩, trivial⟩ ?_
  refine q_if_eq (off := 16) (tgt := 93) (by decide +kernel) (by decide) (fun c_1 => ?_) (fun c_1 => ?_)
  · have e := it_t c_1 e
    refine sl_ok ok_TextReader_parse [.aload_n 0, .getfield 65] (pc1 := 97) (ls1 := [some (.ref 3), none, none]) (st1 := [.int (hI h 3 4)]) (h1 := h) (P := (ak 3 = 0 ∧ cx 3 = 10) ∧ True) (by decide +kernel) rfl ⟨⟨rfl, rfl⟩, trivial⟩ ?_
    cases e
    exact q_iret rfl k.1 k.2 (by decide +kernel)
  · have e := it_f c_1 e
    refine sl_ok ok_TextReader_parse [.aload_n 0, .iconst 1, .aload_n 0, .getfield 26, .getfield 62] (pc1 := 89) (ls1 := [some (.ref 3), none, none]) (st1 := [.int (hI h 1 1), .int 1, .ref 3]) (h1 := h) (P := (ak 3 = 0 ∧ cx 3 = 10) ∧ (ak 1 = 0 ∧ cx 1 = 9) ∧ True) (by decide +kernel) rfl ⟨⟨rfl, rfl⟩, ⟨rfl, rfl⟩, trivial⟩ ?_
    refine q_callV ok_TextReader_endWith (as := [.int 1, .int (hI h 1 1)]) (st := []) ⟨wd_44, wd_45, wd_46, wd_43, ds_TextReader_endWith, Nat.le_of_ble_eq_true rfl, Nat.le_of_ble_eq_true rfl⟩ (s_TextReader_endWith ) rfl ⟨rfl, rfl⟩ (ci := 10) rfl (fun v hv => by cases hv; rfl) (Nat.le_of_ble_eq_true rfl) (by decide +kernel) rfl ?_
    cases e
    exact q_iret rfl k.1 k.2 (by decide +kernel)
def f_TextReader_parse_L1 (x1 : Int32) (h : pH) : Option ((Int32 × pH) ⊕ (Int32 × pH)) :=
  if 2000 < x1 then
    mi (f_TextReader_parse_J2 h)
  else
    (f_Tape_advance h).bind fun v_2 =>
    if v_2.1 = 0 then
      mi (f_TextReader_parse_J2 v_2.2)
    else
      if ((f_TextReader_hardFault v_2.2).1) = 0 then
        (f_TextReader_take ((f_TextReader_hardFault v_2.2).2)).bind fun v_6 =>
        some (.inl ((x1 + 1), (sI v_6 3 5 (f_TextReader_following (hI v_6 3 5) (hI v_6 1 3)))))
      else
        some (.inr (((f_TextReader_endWith ((f_TextReader_hardFault v_2.2).1) (hI ((f_TextReader_hardFault v_2.2).2) 1 2) ((f_TextReader_hardFault v_2.2).2)).1), ((f_TextReader_endWith ((f_TextReader_hardFault v_2.2).1) (hI ((f_TextReader_hardFault v_2.2).2) 1 2) ((f_TextReader_hardFault v_2.2).2)).2)))
set_option maxHeartbeats 4000000 in
theorem b_TextReader_parse_L1 {E : pE} {r : Option Value} {hr : pH} {x1 : Int32} {h : pH}  {b : ((Int32 × pH) ⊕ (Int32 × pH))} (e : f_TextReader_parse_L1 x1 h = some b) (k : (Sum.elim (fun s : (Int32 × pH) => Go E M_TextReader_parse 6 [some (.ref 3), some (.int s.1), none] [] s.2 r hr) (fun v : (Int32 × pH) => r = some (.int v.1) ∧ hr = v.2)) b) : Go E M_TextReader_parse 6 [some (.ref 3), some (.int x1), none] [] h r hr := by
  unfold f_TextReader_parse_L1 at e
  refine sl_ok ok_TextReader_parse [.iload_n 1, .sipush 2000] (pc1 := 10) (ls1 := [some (.ref 3), some (.int x1), none]) (st1 := [.int 2000, .int x1]) (h1 := h) (P := True) (by decide +kernel) rfl trivial ?_
  refine q_icmp_gt (off := 63) (tgt := 73) (by decide +kernel) (by decide) (fun c_1 => ?_) (fun c_1 => ?_)
  · have e := it_t c_1 e
    refine Go.sb [some (.ref 3), none, none] (And.intro rfl trivial) ?_
    obtain ⟨_, e9, rfl⟩ := mi_s e
    have e := e9
    exact b_TextReader_parse_J2  e k
  · have e := it_f c_1 e
    refine sl_ok ok_TextReader_parse [.aload_n 0, .getfield 26] (pc1 := 17) (ls1 := [some (.ref 3), some (.int x1), none]) (st1 := [.ref 1]) (h1 := h) (P := (ak 3 = 0 ∧ cx 3 = 10) ∧ True) (by decide +kernel) rfl ⟨⟨rfl, rfl⟩, trivial⟩ ?_
    obtain ⟨v_2, e_3, e⟩ := bi_s e
    refine q_callV ok_Tape_advance (as := []) (st := []) ⟨wd_70, wd_71, wd_72, wd_3, ds_Tape_advance, Nat.le_of_ble_eq_true rfl, Nat.le_of_ble_eq_true rfl⟩ (s_Tape_advance  e_3) rfl ⟨rfl, rfl⟩ (ci := 9) rfl (fun v hv => by cases hv; rfl) (Nat.le_of_ble_eq_true rfl) (by decide +kernel) rfl ?_
    refine q_if_eq (off := 53) (tgt := 73) (by decide +kernel) (by decide) (fun c_4 => ?_) (fun c_4 => ?_)
    · have e := it_t c_4 e
      refine Go.sb [some (.ref 3), none, none] (And.intro rfl trivial) ?_
      obtain ⟨_, e9, rfl⟩ := mi_s e
      have e := e9
      exact b_TextReader_parse_J2  e k
    · have e := it_f c_4 e
      refine sl_ok ok_TextReader_parse [.aload_n 0] (pc1 := 24) (ls1 := [some (.ref 3), some (.int x1), none]) (st1 := [.ref 3]) (h1 := v_2.2) (P := True) (by decide +kernel) rfl trivial ?_
      refine q_callV ok_TextReader_hardFault (as := []) (st := []) ⟨wd_73, wd_74, wd_75, wd_43, ds_TextReader_hardFault, Nat.le_of_ble_eq_true rfl, Nat.le_of_ble_eq_true rfl⟩ (s_TextReader_hardFault ) rfl ⟨rfl, rfl⟩ (ci := 10) rfl (fun v hv => by cases hv; rfl) (Nat.le_of_ble_eq_true rfl) (by decide +kernel) rfl ?_
      refine sl_ok ok_TextReader_parse [.istore_n 2, .iload_n 2] (pc1 := 29) (ls1 := [some (.ref 3), some (.int x1), some (.int ((f_TextReader_hardFault v_2.2).1))]) (st1 := [.int ((f_TextReader_hardFault v_2.2).1)]) (h1 := ((f_TextReader_hardFault v_2.2).2)) (P := True) (by decide +kernel) rfl trivial ?_
      refine q_if_eq (off := 16) (tgt := 45) (by decide +kernel) (by decide) (fun c_5 => ?_) (fun c_5 => ?_)
      · have e := it_t c_5 e
        refine sl_ok ok_TextReader_parse [.aload_n 0] (pc1 := 46) (ls1 := [some (.ref 3), some (.int x1), some (.int ((f_TextReader_hardFault v_2.2).1))]) (st1 := [.ref 3]) (h1 := ((f_TextReader_hardFault v_2.2).2)) (P := True) (by decide +kernel) rfl trivial ?_
        obtain ⟨v_6, e_7, e⟩ := bi_s e
        refine q_callV ok_TextReader_take (as := []) (st := []) ⟨wd_76, wd_77, wd_78, wd_43, ds_TextReader_take, Nat.le_of_ble_eq_true rfl, Nat.le_of_ble_eq_true rfl⟩ (s_TextReader_take  e_7) rfl ⟨rfl, rfl⟩ (ci := 10) rfl (fun v hv => by cases hv) (Nat.le_of_ble_eq_true rfl) (by decide +kernel) rfl ?_
        refine sl_ok ok_TextReader_parse [.aload_n 0, .aload_n 0, .getfield 53, .aload_n 0, .getfield 26, .getfield 56] (pc1 := 61) (ls1 := [some (.ref 3), some (.int x1), some (.int ((f_TextReader_hardFault v_2.2).1))]) (st1 := [.int (hI v_6 1 3), .int (hI v_6 3 5), .ref 3]) (h1 := v_6) (P := (ak 3 = 0 ∧ cx 3 = 10) ∧ (ak 3 = 0 ∧ cx 3 = 10) ∧ (ak 1 = 0 ∧ cx 1 = 9) ∧ True) (by decide +kernel) rfl ⟨⟨rfl, rfl⟩, ⟨rfl, rfl⟩, ⟨rfl, rfl⟩, trivial⟩ ?_
        refine q_callS ok_TextReader_following (as := [.int (hI v_6 3 5), .int (hI v_6 1 3)]) (st := [.ref 3]) ⟨wd_41, wd_42, wd_43, ds_TextReader_following, Nat.le_of_ble_eq_true rfl, Nat.le_of_ble_eq_true rfl⟩ (s_TextReader_following ) rfl (fun v hv => by cases hv; rfl) (Nat.le_of_ble_eq_true rfl) (by decide +kernel) rfl ?_
        refine sl_ok ok_TextReader_parse [.putfield 53, .iinc 1 1] (pc1 := 70) (ls1 := [some (.ref 3), some (.int (x1 + 1)), some (.int ((f_TextReader_hardFault v_2.2).1))]) (st1 := []) (h1 := (sI v_6 3 5 (f_TextReader_following (hI v_6 3 5) (hI v_6 1 3)))) (P := (ak 3 = 0 ∧ cx 3 = 10) ∧ True) (by decide +kernel) rfl ⟨⟨rfl, rfl⟩, trivial⟩ ?_
        refine q_goto (off := -64) (tgt := 6) (by decide) (by decide +kernel) ?_
        cases e
        refine Go.sb [some (.ref 3), some (.int (x1 + 1)), none] (And.intro rfl (And.intro rfl trivial)) ?_
        exact k
      · have e := it_f c_5 e
        refine sl_ok ok_TextReader_parse [.aload_n 0, .iload_n 2, .aload_n 0, .getfield 26, .getfield 43] (pc1 := 41) (ls1 := [some (.ref 3), some (.int x1), some (.int ((f_TextReader_hardFault v_2.2).1))]) (st1 := [.int (hI ((f_TextReader_hardFault v_2.2).2) 1 2), .int ((f_TextReader_hardFault v_2.2).1), .ref 3]) (h1 := ((f_TextReader_hardFault v_2.2).2)) (P := (ak 3 = 0 ∧ cx 3 = 10) ∧ (ak 1 = 0 ∧ cx 1 = 9) ∧ True) (by decide +kernel) rfl ⟨⟨rfl, rfl⟩, ⟨rfl, rfl⟩, trivial⟩ ?_
        refine q_callV ok_TextReader_endWith (as := [.int ((f_TextReader_hardFault v_2.2).1), .int (hI ((f_TextReader_hardFault v_2.2).2) 1 2)]) (st := []) ⟨wd_44, wd_45, wd_46, wd_43, ds_TextReader_endWith, Nat.le_of_ble_eq_true rfl, Nat.le_of_ble_eq_true rfl⟩ (s_TextReader_endWith ) rfl ⟨rfl, rfl⟩ (ci := 10) rfl (fun v hv => by cases hv; rfl) (Nat.le_of_ble_eq_true rfl) (by decide +kernel) rfl ?_
        cases e
        exact q_iret rfl k.1 k.2 (by decide +kernel)
def f_TextReader_parse (h : pH) : Option (Int32 × pH) :=
  lp (fun s => f_TextReader_parse_L1 s.1 s.2) lpN (0, (f_TextReader_reset h))
set_option maxHeartbeats 4000000 in
theorem b_TextReader_parse {E : pE} {r : Option Value} {hr : pH} {h : pH}  {b : (Int32 × pH)} (e : f_TextReader_parse h = some b) (k : (fun v : (Int32 × pH) => r = some (.int v.1) ∧ hr = v.2) b) : Go E M_TextReader_parse 0 [some (.ref 3), none, none] [] h r hr := by
  unfold f_TextReader_parse at e
  refine sl_ok ok_TextReader_parse [.aload_n 0] (pc1 := 1) (ls1 := [some (.ref 3), none, none]) (st1 := [.ref 3]) (h1 := h) (P := True) (by decide +kernel) rfl trivial ?_
  refine q_callV ok_TextReader_reset (as := []) (st := []) ⟨wd_67, wd_68, wd_69, wd_43, ds_TextReader_reset, Nat.le_of_ble_eq_true rfl, Nat.le_of_ble_eq_true rfl⟩ (s_TextReader_reset ) rfl ⟨rfl, rfl⟩ (ci := 10) rfl (fun v hv => by cases hv) (Nat.le_of_ble_eq_true rfl) (by decide +kernel) rfl ?_
  refine sl_ok ok_TextReader_parse [.iconst 0, .istore_n 1] (pc1 := 6) (ls1 := [some (.ref 3), some (.int 0), none]) (st1 := []) (h1 := (f_TextReader_reset h)) (P := True) (by decide +kernel) rfl trivial ?_
  exact lp_in e (fun s => Go E M_TextReader_parse 6 [some (.ref 3), some (.int s.1), none] [] s.2 r hr) (fun v : (Int32 × pH) => r = some (.int v.1) ∧ hr = v.2) (fun _ _ e k => b_TextReader_parse_L1  e k) k
theorem s_TextReader_parse {E : pE} {h : pH}  {v : (Int32 × pH)} (e : f_TextReader_parse h = some v) : Ct E M_TextReader_parse [.ref 3] h (some (.int v.1)) v.2 :=
  Ct_of ok_TextReader_parse [some (.ref 3), none, none] (Nat.le_of_ble_eq_true rfl) rfl (b_TextReader_parse  e ⟨rfl, rfl⟩)
def f_C_read (h : pH) : Option (Int32 × pH) :=
  (f_TextReader_parse h).bind fun v_1 =>
  if v_1.1 = 0 then
    (f_Cloud_takeFrom 8 4 (sI v_1.2 1 1 0)).bind fun v_4 =>
    (f_C_emptySlots (f_C_forgetPast v_4)).bind fun v_6 =>
    some (v_1.1, v_6)
  else
    some (v_1.1, (sI v_1.2 1 1 0))
set_option maxHeartbeats 4000000 in
theorem b_C_read {E : pE} {r : Option Value} {hr : pH} {h : pH}  {b : (Int32 × pH)} (e : f_C_read h = some b) (k : (fun v : (Int32 × pH) => r = some (.int v.1) ∧ hr = v.2) b) : Go E M_C_read 0 [some (.ref 0), none] [] h r hr := by
  unfold f_C_read at e
  refine sl_ok ok_C_read [.aload_n 0, .getfield 21] (pc1 := 4) (ls1 := [some (.ref 0), none]) (st1 := [.ref 3]) (h1 := h) (P := (ak 0 = 0 ∧ cx 0 = 11) ∧ True) (by decide +kernel) rfl ⟨⟨rfl, rfl⟩, trivial⟩ ?_
  obtain ⟨v_1, e_2, e⟩ := bi_s e
  refine q_callV ok_TextReader_parse (as := []) (st := []) ⟨wd_81, wd_82, wd_83, wd_43, ds_TextReader_parse, Nat.le_of_ble_eq_true rfl, Nat.le_of_ble_eq_true rfl⟩ (s_TextReader_parse  e_2) rfl ⟨rfl, rfl⟩ (ci := 10) rfl (fun v hv => by cases hv; rfl) (Nat.le_of_ble_eq_true rfl) (by decide +kernel) rfl ?_
  refine sl_ok ok_C_read [.istore_n 1, .aload_n 0, .getfield 10, .iconst 0, .putfield 93, .iload_n 1] (pc1 := 17) (ls1 := [some (.ref 0), some (.int v_1.1)]) (st1 := [.int v_1.1]) (h1 := (sI v_1.2 1 1 0)) (P := (ak 0 = 0 ∧ cx 0 = 11) ∧ (ak 1 = 0 ∧ cx 1 = 9) ∧ True) (by decide +kernel) rfl ⟨⟨rfl, rfl⟩, ⟨rfl, rfl⟩, trivial⟩ ?_
  refine q_if_ne (off := 25) (tgt := 42) (by decide +kernel) (by decide) (fun c_3 => ?_) (fun c_3 => ?_)
  · have e := it_f c_3 e
    refine sl_ok ok_C_read [.iload_n 1] (pc1 := 43) (ls1 := [some (.ref 0), some (.int v_1.1)]) (st1 := [.int v_1.1]) (h1 := (sI v_1.2 1 1 0)) (P := True) (by decide +kernel) rfl trivial ?_
    cases e
    exact q_iret rfl k.1 k.2 (by decide +kernel)
  · have e := it_t c_3 e
    refine sl_ok ok_C_read [.aload_n 0, .getfield 28, .aload_n 0, .getfield 21, .getfield 104] (pc1 := 31) (ls1 := [some (.ref 0), some (.int v_1.1)]) (st1 := [.ref 4, .ref 8]) (h1 := (sI v_1.2 1 1 0)) (P := (ak 0 = 0 ∧ cx 0 = 11) ∧ (ak 0 = 0 ∧ cx 0 = 11) ∧ (ak 3 = 0 ∧ cx 3 = 10) ∧ True) (by decide +kernel) rfl ⟨⟨rfl, rfl⟩, ⟨rfl, rfl⟩, ⟨rfl, rfl⟩, trivial⟩ ?_
    obtain ⟨v_4, e_5, e⟩ := bi_s e
    refine q_callV ok_Cloud_takeFrom (as := [.ref 4]) (st := []) ⟨wd_84, wd_85, wd_86, wd_14, ds_Cloud_takeFrom, Nat.le_of_ble_eq_true rfl, Nat.le_of_ble_eq_true rfl⟩ (s_Cloud_takeFrom ⟨rfl, rfl⟩ ⟨rfl, rfl⟩ e_5) rfl ⟨rfl, rfl⟩ (ci := 0) rfl (fun v hv => by cases hv) (Nat.le_of_ble_eq_true rfl) (by decide +kernel) rfl ?_
    refine sl_ok ok_C_read [.aload_n 0] (pc1 := 35) (ls1 := [some (.ref 0), some (.int v_1.1)]) (st1 := [.ref 0]) (h1 := v_4) (P := True) (by decide +kernel) rfl trivial ?_
    refine q_callV ok_C_forgetPast (as := []) (st := []) ⟨wd_87, wd_88, wd_89, wd_48, ds_C_forgetPast, Nat.le_of_ble_eq_true rfl, Nat.le_of_ble_eq_true rfl⟩ (s_C_forgetPast ) rfl ⟨rfl, rfl⟩ (ci := 11) rfl (fun v hv => by cases hv) (Nat.le_of_ble_eq_true rfl) (by decide +kernel) rfl ?_
    refine sl_ok ok_C_read [.aload_n 0] (pc1 := 39) (ls1 := [some (.ref 0), some (.int v_1.1)]) (st1 := [.ref 0]) (h1 := (f_C_forgetPast v_4)) (P := True) (by decide +kernel) rfl trivial ?_
    obtain ⟨v_6, e_7, e⟩ := bi_s e
    refine q_callV ok_C_emptySlots (as := []) (st := []) ⟨wd_90, wd_91, wd_92, wd_48, ds_C_emptySlots, Nat.le_of_ble_eq_true rfl, Nat.le_of_ble_eq_true rfl⟩ (s_C_emptySlots  e_7) rfl ⟨rfl, rfl⟩ (ci := 11) rfl (fun v hv => by cases hv) (Nat.le_of_ble_eq_true rfl) (by decide +kernel) rfl ?_
    refine sl_ok ok_C_read [.iload_n 1] (pc1 := 43) (ls1 := [some (.ref 0), some (.int v_1.1)]) (st1 := [.int v_1.1]) (h1 := v_6) (P := True) (by decide +kernel) rfl trivial ?_
    cases e
    exact q_iret rfl k.1 k.2 (by decide +kernel)
theorem s_C_read {E : pE} {h : pH}  {v : (Int32 × pH)} (e : f_C_read h = some v) : Ct E M_C_read [.ref 0] h (some (.int v.1)) v.2 :=
  Ct_of ok_C_read [some (.ref 0), none] (Nat.le_of_ble_eq_true rfl) rfl (b_C_read  e ⟨rfl, rfl⟩)
