/-! a method, its context, and what it means to go on from a frame -/
abbrev MI : Type := MethodName × ByteArray × Nat × Option FieldType × String × (Nat → Option (Nat × Nat)) × (Nat → Option Int32) × Room
abbrev mY (M : MI) : MethodName := M.1
abbrev mB (M : MI) : ByteArray := M.2.1
abbrev mL (M : MI) : Nat := M.2.2.1
abbrev mR (M : MI) : Option FieldType := M.2.2.2.1
abbrev mO (M : MI) : String := M.2.2.2.2.1
abbrev mF (M : MI) : Nat → Option (Nat × Nat) := M.2.2.2.2.2.1
abbrev mK (M : MI) : Nat → Option Int32 := M.2.2.2.2.2.2.1
abbrev mRm (M : MI) : Room := M.2.2.2.2.2.2.2
abbrev wsM (M : MI) : List Cond := Cond.code (mY M) (mB M) (mL M) (mR M) :: LT
/-- what a method's tables say is so -/
def MOK (M : MI) : Prop := plainName (mY M).cls = true ∧ Cond.code (mY M) (mB M) (mL M) (mR M) ∈ LT ∧ (mY M).cls = mO M ∧ (mRm M).cells = 0 ∧ (mRm M).slots = 0 ∧
  (∀ i c k, mF M i = some (c, k) → ∃ q : vw_C, classes[c]? = some q ∧ k < q.2.2 ∧ Cond.fieldLink (mO M) i (q.2.1 k).1 (q.2.1 k).2.1 (q.2.1 k).2.2.1 ∈ LT) ∧
  (∀ i v, mK M i = some v → Cond.constant (mO M) i v ∈ LT)
def wA (ad : Nat → Nat) : Nat → Prop := fun q => ∃ o, o < NO ∧ q = ad o
def tysE (tc : Nat → ClassId) : List (ClassId × FieldType) := [(tc 1, .int), (tc 2, .byte), (tc 3, .boolean), (tc 4, .long), (tc 5, .array .int)]
def sLen : List Nat := [5, 4]
def sByt : List (List Int32) := [[112, 111, 105, 110, 116], [103, 114, 105, 100]]
/-- the texts of the class -/
def ZC (ad : Nat → Nat) (U : State) : Prop := vk_S 2 sLen sByt (fun i => ad (200 + i)) (fun i => ad (210 + i)) (wA ad) U U.heap ∧ vk_R "CloudDepth$Tape" 54 "point" (ad 200) U ∧ vk_R "CloudDepth$Tape" 60 "grid" (ad 201) U ∧
  va_Z "java/lang/String" "COMPACT_STRINGS" "Z" (.int 1) (wA ad) U U.heap ∧ (va_Z "jdk/internal/util/Preconditions" "SIOOBE_FORMATTER" "Ljava/util/function/BiFunction;" .null (wA ad) U U.heap ∨ va_Z "jdk/internal/util/Preconditions" "SIOOBE_FORMATTER" "Ljava/util/function/BiFunction;" (.ref (ad 220)) (wA ad) U U.heap)
def NK (U : State) : Prop := ∀ q ∈ NL, va_Nw (Cond.methodLinkNest q.1 q.2.1 q.2.2.1 q.2.2.2) U
def GE (E : pE) (U : State) : Prop := va_K (eD E) classes (tysE (eC E)) U ∧ ZC (eA E) U ∧ (∀ i j, i < NO → j < NO → eA E i = eA E j → i = j) ∧ NK U
def CX (E : pE) (M : MI) (p : Program) (s : State) (m : MethodId) (args : Array Value) (meth : Method) (c : Code) : Prop :=
  p.tables.exec = Jvm.exec ∧ c.code = mB M ∧ meth.sig.returnType = mR M ∧ c.maxLocals = mL M ∧ s.vm.findClass (mO M) = some m.cls ∧ (∀ w ∈ wsM M, w.before args s = true) ∧ meth.locks = false ∧ GE E s
def PP (E : pE) (h : pH) (H : Heap) : Prop := va_P (eD E) classes (wl (eA E) (eC E) h) H
def QQ (E : pE) (r : Option Value) (h : pH) : Array Value → State → Outcome → State → Prop := fun _ st o t => (o = .returned r ∧ PP E h t.heap) ∧ va_F (wA (eA E)) st t
/-- the method, called with these, answers r and leaves h' -/
def Ct (E : pE) (M : MI) (as : List Value) (h : pH) (r : Option Value) (h' : pH) : Prop :=
  Met (eL E) (mY M) (wsM M) (mRm M) (fun v U => v = (as.map (vm (eA E))).toArray ∧ PP E h U.heap ∧ GE E U) (QQ E r h') 0 0 (wA (eA E))
/-- from this frame on the method answers r and leaves h' -/
def Go (E : pE) (M : MI) (pc : Nat) (ls : List (Option Value)) (st : List Value) (h : pH) (r : Option Value) (h' : pH) : Prop :=
  ∀ (p : Program) (e : Env) (s : State) (m : MethodId) (args : Array Value) (below : List Frame) (meth : Method) (c : Code) (H : Heap) (locs : List Loc) (L : Array Slot),
    CX E M p s m args meth c → va_S (wA (eA E)) s.heap H locs → PP E h H → LR (eA E) (mL M) ls L → W p (eL E) e (mRm M) s m args below meth c H locs 0 0 (MQ below (QQ E r h') args s 0 0 (wA (eA E))) (F0 m pc L (st.map (vm (eA E))))
theorem wl_D {E : pE} {s : State} (g : GE E s) (h : pH) : va_D (wA (eA E)) (wl (eA E) (eC E) h) := by
  have key : ∀ (i : Nat) (p : Nat × va_E), (wl (eA E) (eC E) h)[i]? = some p → i < NO ∧ p.1 = eA E i := by
    intro i p hi
    have hl : i < NO := by
      have := (List.getElem?_eq_some_iff.mp hi).1
      simpa [wl] using this
    rw [wl_at hl] at hi
    cases hi
    exact ⟨hl, rfl⟩
  refine ⟨fun i j p q hi hj e => ?_, fun k q hk => ?_⟩
  · obtain ⟨a1, a2⟩ := key i p hi
    obtain ⟨b1, b2⟩ := key j q hj
    exact g.2.2.1 i j a1 b1 (by rw [← a2, ← b2, e])
  · obtain ⟨a1, a2⟩ := key k q hk
    exact ⟨k, a1, a2⟩
theorem ZC.moved {ad : Nat → Nat} {s U : State} (h : ZC ad s) (hW : s.WarmedH U.vm) (hq : ∀ a : Nat, a < s.heap.size → ¬ wA ad a → U.heap[a]? = s.heap[a]?) : ZC ad U :=
  ⟨(h.1.kept hq).moved hW.alike, h.2.1.warm hW, h.2.2.1.warm hW, (h.2.2.2.1.kept hq).moved hW.alike, h.2.2.2.2.imp (fun z => (z.kept hq).moved hW.alike) (fun z => (z.kept hq).moved hW.alike)⟩
theorem GE.moved {E : pE} {s U : State} (h : GE E s) (hW : s.WarmedH U.vm) (hq : ∀ a : Nat, a < s.heap.size → ¬ wA (eA E) a → U.heap[a]? = s.heap[a]?) : GE E U :=
  ⟨va_K.moved hW.alike h.1, h.2.1.moved hW hq, h.2.2.1, fun q hq' => (h.2.2.2 q hq').warmM hW⟩
theorem Ct_of {E : pE} {M : MI} {as : List Value} {h h' : pH} {r : Option Value} (hM : MOK M) (ls : List (Option Value)) (hn : (lg_sl (as.map (vm (eA E)))).length ≤ mL M) (hls : pairs (eA E) 0 ls = lv_args 0 (as.map (vm (eA E)))) (k : Go E M 0 ls [] h r h') : Ct E M as h r h' := by
  refine Met.ofW (cc := mB M) (maxL := mL M) (ret := mR M) hM.1 rfl ?_
  intro p e s m args below meth c s₁ B hml hv
  obtain ⟨rfl, hP, hG⟩ := hv
  have hl := lv_entry (as.map (vm (eA E))) (n := mL M) hn
  rw [lg_entry_eq]
  refine k p e s m _ below meth c s.heap [] _ ⟨B.exec, B.bytes, B.returns, hml, ?_, atoms_spec (ws := wsM M) B.pre, B.notSynchronized, hG⟩ va_S.rf hP ?_
  · have e := findClass_of_methodNamed B.named
    rw [hM.2.2.1] at e
    exact e
  · unfold LR
    rw [hls]
    exact hl
section GO
variable {E : pE} {M : MI} {pc : Nat} {ls : List (Option Value)} {st : List Value} {h h' hr : pH} {r : Option Value}
theorem Go.sub (ls' : List (Option Value)) (hs : ∀ (i : Nat) (v : Value), ls'[i]? = some (some v) → ls[i]? = some (some v)) (k : Go E M pc ls' st h r hr) : Go E M pc ls st h r hr :=
  fun p e s m args below meth c H locs L C hS hP hL => k p e s m args below meth c H locs L C hS hP (hL.sub hs)
theorem q_iconst {n : Int} (hd : decode (mB M) pc = .ok (.iconst n, 1)) (k : Go E M (pc + 1) ls (.int (Int32.ofInt n) :: st) h r hr) : Go E M pc ls st h r hr :=
  fun p e s m args below meth c H locs L C hS hP hL => lv_iconst C.1 C.2.1 hd rfl (k p e s m args below meth c H locs L C hS hP hL)
theorem q_bipush {n : Int} (hd : decode (mB M) pc = .ok (.bipush n, 2)) (k : Go E M (pc + 2) ls (.int (Int8.ofInt n).toInt32 :: st) h r hr) : Go E M pc ls st h r hr :=
  fun p e s m args below meth c H locs L C hS hP hL => lv_bipush C.1 C.2.1 hd rfl (k p e s m args below meth c H locs L C hS hP hL)
theorem q_sipush {n : Int} (hd : decode (mB M) pc = .ok (.sipush n, 3)) (k : Go E M (pc + 3) ls (.int (Int16.ofInt n).toInt32 :: st) h r hr) : Go E M pc ls st h r hr :=
  fun p e s m args below meth c H locs L C hS hP hL => lv_sipush C.1 C.2.1 hd rfl (k p e s m args below meth c H locs L C hS hP hL)
theorem q_lconst {n : Fin 2} (hd : decode (mB M) pc = .ok (.lconst n, 1)) (k : Go E M (pc + 1) ls (.long (Int64.ofNat n) :: st) h r hr) : Go E M pc ls st h r hr :=
  fun p e s m args below meth c H locs L C hS hP hL => lv_lconst C.1 C.2.1 hd rfl (k p e s m args below meth c H locs L C hS hP hL)
theorem q_ldc (hM : MOK M) {i : Nat} {v : Int32} (hv : mK M i = some v) (hd : decode (mB M) pc = .ok (.ldc i, 2)) (k : Go E M (pc + 2) ls (.int v :: st) h r hr) : Go E M pc ls st h r hr :=
  fun p e s m args below meth c H locs L C hS hP hL => lv_ldc C.1 C.2.1 C.2.2.2.2.1 (C.2.2.2.2.2.1 _ (List.mem_cons_of_mem _ (hM.2.2.2.2.2.2 i v hv))) hd (k p e s m args below meth c H locs L C hS hP hL)
theorem q_ldcw (hM : MOK M) {i : Nat} {v : Int32} (hv : mK M i = some v) (hd : decode (mB M) pc = .ok (.ldc_w i, 3)) (k : Go E M (pc + 3) ls (.int v :: st) h r hr) : Go E M pc ls st h r hr :=
  fun p e s m args below meth c H locs L C hS hP hL => lv_ldcw C.1 C.2.1 C.2.2.2.2.1 (C.2.2.2.2.2.1 _ (List.mem_cons_of_mem _ (hM.2.2.2.2.2.2 i v hv))) hd (k p e s m args below meth c H locs L C hS hP hL)
theorem q_ldc2 {i : Nat} {v : Int64} (hv : Cond.constantLong (mO M) i v ∈ LT) (hd : decode (mB M) pc = .ok (.ldc2_w i, 3)) (k : Go E M (pc + 3) ls (.long v :: st) h r hr) : Go E M pc ls st h r hr :=
  fun p e s m args below meth c H locs L C hS hP hL => lv_ldc2 C.1 C.2.1 C.2.2.2.2.1 (C.2.2.2.2.2.1 _ (List.mem_cons_of_mem _ hv)) hd (k p e s m args below meth c H locs L C hS hP hL)
theorem q_iload_n {i : Fin 4} {x : Int32} (hl : ls[i.val]? = some (some (.int x))) (hd : decode (mB M) pc = .ok (.iload_n i, 1)) (k : Go E M (pc + 1) ls (.int x :: st) h r hr) : Go E M pc ls st h r hr :=
  fun p e s m args below meth c H locs L C hS hP hL => lv_iload_n C.1 C.2.1 hd rfl (hL.get hl) (k p e s m args below meth c H locs L C hS hP hL)
theorem q_iload {i : Nat} {x : Int32} (hl : ls[i]? = some (some (.int x))) (hd : decode (mB M) pc = .ok (.iload i, 2)) (k : Go E M (pc + 2) ls (.int x :: st) h r hr) : Go E M pc ls st h r hr :=
  fun p e s m args below meth c H locs L C hS hP hL => lv_iload C.1 C.2.1 hd (hL.get hl) (k p e s m args below meth c H locs L C hS hP hL)
theorem q_lload_n {i : Fin 4} {x : Int64} (hl : ls[i.val]? = some (some (.long x))) (hd : decode (mB M) pc = .ok (.lload_n i, 1)) (k : Go E M (pc + 1) ls (.long x :: st) h r hr) : Go E M pc ls st h r hr :=
  fun p e s m args below meth c H locs L C hS hP hL => lv_lload_n C.1 C.2.1 hd rfl (hL.get hl) (k p e s m args below meth c H locs L C hS hP hL)
theorem q_lload {i : Nat} {x : Int64} (hl : ls[i]? = some (some (.long x))) (hd : decode (mB M) pc = .ok (.lload i, 2)) (k : Go E M (pc + 2) ls (.long x :: st) h r hr) : Go E M pc ls st h r hr :=
  fun p e s m args below meth c H locs L C hS hP hL => lv_lload C.1 C.2.1 hd (hL.get hl) (k p e s m args below meth c H locs L C hS hP hL)
theorem q_aload_n {i : Fin 4} {x : Nat} (hl : ls[i.val]? = some (some (.ref x))) (hd : decode (mB M) pc = .ok (.aload_n i, 1)) (k : Go E M (pc + 1) ls (.ref x :: st) h r hr) : Go E M pc ls st h r hr :=
  fun p e s m args below meth c H locs L C hS hP hL => lv_aload_n C.1 C.2.1 hd rfl (hL.get hl) (k p e s m args below meth c H locs L C hS hP hL)
theorem q_aload {i : Nat} {x : Nat} (hl : ls[i]? = some (some (.ref x))) (hd : decode (mB M) pc = .ok (.aload i, 2)) (k : Go E M (pc + 2) ls (.ref x :: st) h r hr) : Go E M pc ls st h r hr :=
  fun p e s m args below meth c H locs L C hS hP hL => lv_aload C.1 C.2.1 hd (hL.get hl) (k p e s m args below meth c H locs L C hS hP hL)
theorem q_istore_n {i : Fin 4} {x : Int32} (hi : i.val < mL M) (hw : wide ls i.val = false) (hd : decode (mB M) pc = .ok (.istore_n i, 1)) (k : Go E M (pc + 1) (ls.set i.val (some (.int x))) st h r hr) : Go E M pc ls (.int x :: st) h r hr :=
  fun p e s m args below meth c H locs L C hS hP hL => lv_istore_n C.1 C.2.1 hd rfl hL hi rfl (fun L' hL' => k p e s m args below meth c H locs L' C hS hP (LR.set1 (v := .int x) hw hL'))
theorem q_istore {i : Nat} {x : Int32} (hi : i < mL M) (hw : wide ls i = false) (hd : decode (mB M) pc = .ok (.istore i, 2)) (k : Go E M (pc + 2) (ls.set i (some (.int x))) st h r hr) : Go E M pc ls (.int x :: st) h r hr :=
  fun p e s m args below meth c H locs L C hS hP hL => lv_istore C.1 C.2.1 hd hL hi rfl (fun L' hL' => k p e s m args below meth c H locs L' C hS hP (LR.set1 (v := .int x) hw hL'))
theorem q_astore_n {i : Fin 4} {x : Nat} (hi : i.val < mL M) (hw : wide ls i.val = false) (hd : decode (mB M) pc = .ok (.astore_n i, 1)) (k : Go E M (pc + 1) (ls.set i.val (some (.ref x))) st h r hr) : Go E M pc ls (.ref x :: st) h r hr :=
  fun p e s m args below meth c H locs L C hS hP hL => lv_astore_n C.1 C.2.1 hd rfl hL hi rfl (fun L' hL' => k p e s m args below meth c H locs L' C hS hP (LR.set1 (v := .ref x) hw hL'))
theorem q_astore {i : Nat} {x : Nat} (hi : i < mL M) (hw : wide ls i = false) (hd : decode (mB M) pc = .ok (.astore i, 2)) (k : Go E M (pc + 2) (ls.set i (some (.ref x))) st h r hr) : Go E M pc ls (.ref x :: st) h r hr :=
  fun p e s m args below meth c H locs L C hS hP hL => lv_astore C.1 C.2.1 hd hL hi rfl (fun L' hL' => k p e s m args below meth c H locs L' C hS hP (LR.set1 (v := .ref x) hw hL'))
theorem q_lstore_n {i : Fin 4} {x : Int64} (hi : i.val + 1 < mL M) (hw : wide ls i.val = false) (hd : decode (mB M) pc = .ok (.lstore_n i, 1)) (k : Go E M (pc + 1) ((ls.set i.val (some (.long x))).set (i.val + 1) none) st h r hr) : Go E M pc ls (.long x :: st) h r hr :=
  fun p e s m args below meth c H locs L C hS hP hL => lv_lstore_n C.1 C.2.1 hd rfl hL hi rfl (fun L' hL' => k p e s m args below meth c H locs L' C hS hP (LR.set2 (v := .long x) hw hL'))
theorem q_lstore {i : Nat} {x : Int64} (hi : i + 1 < mL M) (hw : wide ls i = false) (hd : decode (mB M) pc = .ok (.lstore i, 2)) (k : Go E M (pc + 2) ((ls.set i (some (.long x))).set (i + 1) none) st h r hr) : Go E M pc ls (.long x :: st) h r hr :=
  fun p e s m args below meth c H locs L C hS hP hL => lv_lstore C.1 C.2.1 hd hL hi rfl (fun L' hL' => k p e s m args below meth c H locs L' C hS hP (LR.set2 (v := .long x) hw hL'))
theorem q_iinc {i : Nat} {n : Int} {x : Int32} (hl : ls[i]? = some (some (.int x))) (hi : i < mL M) (hw : wide ls i = false) (hd : decode (mB M) pc = .ok (.iinc i n, 3)) (k : Go E M (pc + 3) (ls.set i (some (.int (x + Int32.ofInt n)))) st h r hr) : Go E M pc ls st h r hr := by
  intro p e s m args below meth c H locs L C hS hP hL
  obtain ⟨k0, hk0⟩ := List.getElem?_of_mem (pairs_mem (ad := eA E) (k := 0) (i := i) (v := .int x) |>.mpr ⟨i, .int x, hl, by omega, rfl⟩)
  exact lv_iinc C.1 C.2.1 hd hL hk0 rfl hi rfl (fun L' hL' => k p e s m args below meth c H locs L' C hS hP (LR.set1 (v := .int (x + Int32.ofInt n)) hw hL'))
theorem q_iadd {x y : Int32} (hd : decode (mB M) pc = .ok (.iadd, 1)) (k : Go E M (pc + 1) ls (.int (x + y) :: st) h r hr) : Go E M pc ls (.int y :: .int x :: st) h r hr :=
  fun p e s m args below meth c H locs L C hS hP hL => lv_iadd C.1 C.2.1 hd (k p e s m args below meth c H locs L C hS hP hL)
theorem q_isub {x y : Int32} (hd : decode (mB M) pc = .ok (.isub, 1)) (k : Go E M (pc + 1) ls (.int (x - y) :: st) h r hr) : Go E M pc ls (.int y :: .int x :: st) h r hr :=
  fun p e s m args below meth c H locs L C hS hP hL => lv_isub C.1 C.2.1 hd (k p e s m args below meth c H locs L C hS hP hL)
theorem q_imul {x y : Int32} (hd : decode (mB M) pc = .ok (.imul, 1)) (k : Go E M (pc + 1) ls (.int (x * y) :: st) h r hr) : Go E M pc ls (.int y :: .int x :: st) h r hr :=
  fun p e s m args below meth c H locs L C hS hP hL => lv_imul C.1 C.2.1 hd (k p e s m args below meth c H locs L C hS hP hL)
theorem q_iand {x y : Int32} (hd : decode (mB M) pc = .ok (.iand, 1)) (k : Go E M (pc + 1) ls (.int (x &&& y) :: st) h r hr) : Go E M pc ls (.int y :: .int x :: st) h r hr :=
  fun p e s m args below meth c H locs L C hS hP hL => lv_iand C.1 C.2.1 hd (k p e s m args below meth c H locs L C hS hP hL)
theorem q_ior {x y : Int32} (hd : decode (mB M) pc = .ok (.ior, 1)) (k : Go E M (pc + 1) ls (.int (x ||| y) :: st) h r hr) : Go E M pc ls (.int y :: .int x :: st) h r hr :=
  fun p e s m args below meth c H locs L C hS hP hL => lv_ior C.1 C.2.1 hd (k p e s m args below meth c H locs L C hS hP hL)
theorem q_ixor {x y : Int32} (hd : decode (mB M) pc = .ok (.ixor, 1)) (k : Go E M (pc + 1) ls (.int (x ^^^ y) :: st) h r hr) : Go E M pc ls (.int y :: .int x :: st) h r hr :=
  fun p e s m args below meth c H locs L C hS hP hL => lv_ixor C.1 C.2.1 hd (k p e s m args below meth c H locs L C hS hP hL)
theorem q_ishl {x y : Int32} (hd : decode (mB M) pc = .ok (.ishl, 1)) (k : Go E M (pc + 1) ls (.int (x <<< (y &&& 31)) :: st) h r hr) : Go E M pc ls (.int y :: .int x :: st) h r hr :=
  fun p e s m args below meth c H locs L C hS hP hL => lv_ishl C.1 C.2.1 hd (k p e s m args below meth c H locs L C hS hP hL)
theorem q_ishr {x y : Int32} (hd : decode (mB M) pc = .ok (.ishr, 1)) (k : Go E M (pc + 1) ls (.int (x >>> (y &&& 31)) :: st) h r hr) : Go E M pc ls (.int y :: .int x :: st) h r hr :=
  fun p e s m args below meth c H locs L C hS hP hL => lv_ishr C.1 C.2.1 hd (k p e s m args below meth c H locs L C hS hP hL)
theorem q_idiv {x y : Int32} (hne : ¬ y = 0) (hd : decode (mB M) pc = .ok (.idiv, 1)) (k : Go E M (pc + 1) ls (.int (x / y) :: st) h r hr) : Go E M pc ls (.int y :: .int x :: st) h r hr :=
  fun p e s m args below meth c H locs L C hS hP hL => lv_idiv C.1 C.2.1 hd hne (k p e s m args below meth c H locs L C hS hP hL)
theorem q_irem {x y : Int32} (hne : ¬ y = 0) (hd : decode (mB M) pc = .ok (.irem, 1)) (k : Go E M (pc + 1) ls (.int (x - x / y * y) :: st) h r hr) : Go E M pc ls (.int y :: .int x :: st) h r hr :=
  fun p e s m args below meth c H locs L C hS hP hL => lv_irem C.1 C.2.1 hd hne (k p e s m args below meth c H locs L C hS hP hL)
theorem q_ladd {x y : Int64} (hd : decode (mB M) pc = .ok (.ladd, 1)) (k : Go E M (pc + 1) ls (.long (x + y) :: st) h r hr) : Go E M pc ls (.long y :: .long x :: st) h r hr :=
  fun p e s m args below meth c H locs L C hS hP hL => lv_ladd C.1 C.2.1 hd (k p e s m args below meth c H locs L C hS hP hL)
theorem q_lmul {x y : Int64} (hd : decode (mB M) pc = .ok (.lmul, 1)) (k : Go E M (pc + 1) ls (.long (x * y) :: st) h r hr) : Go E M pc ls (.long y :: .long x :: st) h r hr :=
  fun p e s m args below meth c H locs L C hS hP hL => lv_lmul C.1 C.2.1 hd (k p e s m args below meth c H locs L C hS hP hL)
theorem q_ineg {x : Int32} (hd : decode (mB M) pc = .ok (.ineg, 1)) (k : Go E M (pc + 1) ls (.int (-x) :: st) h r hr) : Go E M pc ls (.int x :: st) h r hr :=
  fun p e s m args below meth c H locs L C hS hP hL => lv_ineg C.1 C.2.1 hd (k p e s m args below meth c H locs L C hS hP hL)
theorem q_iushr {x y : Int32} (hd : decode (mB M) pc = .ok (.iushr, 1)) (k : Go E M (pc + 1) ls (.int ((x.toUInt32 >>> (y.toUInt32 &&& Int32.toUInt32 31)).toInt32) :: st) h r hr) : Go E M pc ls (.int y :: .int x :: st) h r hr :=
  fun p e s m args below meth c H locs L C hS hP hL => lv_iushr C.1 C.2.1 hd rfl (k p e s m args below meth c H locs L C hS hP hL)
theorem q_i2l {x : Int32} (hd : decode (mB M) pc = .ok (.i2l, 1)) (k : Go E M (pc + 1) ls (.long x.toInt64 :: st) h r hr) : Go E M pc ls (.int x :: st) h r hr :=
  fun p e s m args below meth c H locs L C hS hP hL => lv_i2l C.1 C.2.1 hd rfl (k p e s m args below meth c H locs L C hS hP hL)
theorem q_i2b {x : Int32} (hd : decode (mB M) pc = .ok (.i2b, 1)) (k : Go E M (pc + 1) ls (.int x.toInt8.toInt32 :: st) h r hr) : Go E M pc ls (.int x :: st) h r hr :=
  fun p e s m args below meth c H locs L C hS hP hL => lv_i2b C.1 C.2.1 hd rfl (k p e s m args below meth c H locs L C hS hP hL)
theorem q_lcmp {x y : Int64} (hd : decode (mB M) pc = .ok (.lcmp, 1)) (k : Go E M (pc + 1) ls (.int (lg_cmp x y) :: st) h r hr) : Go E M pc ls (.long y :: .long x :: st) h r hr :=
  fun p e s m args below meth c H locs L C hS hP hL => W.lcmp C.1 C.2.1 hd (k p e s m args below meth c H locs L C hS hP hL)
theorem q_dup {x : Value} (hx : x.category = 1) (hd : decode (mB M) pc = .ok (.dup, 1)) (k : Go E M (pc + 1) ls (x :: x :: st) h r hr) : Go E M pc ls (x :: st) h r hr :=
  fun p e s m args below meth c H locs L C hS hP hL => lv_dup C.1 C.2.1 hd (by rw [vm_cat]; exact hx) (k p e s m args below meth c H locs L C hS hP hL)
theorem q_pop {x : Value} (hx : x.category = 1) (hd : decode (mB M) pc = .ok (.pop, 1)) (k : Go E M (pc + 1) ls st h r hr) : Go E M pc ls (x :: st) h r hr :=
  fun p e s m args below meth c H locs L C hS hP hL => lv_pop C.1 C.2.1 hd (by rw [vm_cat]; exact hx) (k p e s m args below meth c H locs L C hS hP hL)
theorem q_dup2 {x y : Value} (hx : x.category = 1) (hy : y.category = 1) (hd : decode (mB M) pc = .ok (.dup2, 1)) (k : Go E M (pc + 1) ls (x :: y :: x :: y :: st) h r hr) : Go E M pc ls (x :: y :: st) h r hr :=
  fun p e s m args below meth c H locs L C hS hP hL => lv_dup2_11 C.1 C.2.1 hd (by rw [vm_cat]; exact hx) (by rw [vm_cat]; exact hy) (k p e s m args below meth c H locs L C hS hP hL)
theorem q_goto {off : Int} {tgt : Nat} (ht : (pc : Int) + off = (tgt : Int)) (hd : decode (mB M) pc = .ok (.goto off, 3)) (k : Go E M tgt ls st h r hr) : Go E M pc ls st h r hr :=
  fun p e s m args below meth c H locs L C hS hP hL => lv_goto C.1 C.2.1 hd ht (k p e s m args below meth c H locs L C hS hP hL)
theorem q_icmp_eq {x y : Int32} {off : Int} {tgt : Nat} (hd : decode (mB M) pc = .ok (.if_icmp .eq off, 3)) (ht : (pc : Int) + off = (tgt : Int)) (kt : x = y → Go E M tgt ls st h r hr) (kf : ¬ x = y → Go E M (pc + 3) ls st h r hr) : Go E M pc ls (.int y :: .int x :: st) h r hr :=
  fun p e s m args below meth c H locs L C hS hP hL => lv_icmp_eq C.1 C.2.1 hd ht (fun q => kt q p e s m args below meth c H locs L C hS hP hL) (fun q => kf q p e s m args below meth c H locs L C hS hP hL)
theorem q_if_eq {x : Int32} {off : Int} {tgt : Nat} (hd : decode (mB M) pc = .ok (.ifCond .eq off, 3)) (ht : (pc : Int) + off = (tgt : Int)) (kt : x = 0 → Go E M tgt ls st h r hr) (kf : ¬ x = 0 → Go E M (pc + 3) ls st h r hr) : Go E M pc ls (.int x :: st) h r hr :=
  fun p e s m args below meth c H locs L C hS hP hL => lv_if_eq C.1 C.2.1 hd ht (fun q => kt q p e s m args below meth c H locs L C hS hP hL) (fun q => kf q p e s m args below meth c H locs L C hS hP hL)
theorem q_icmp_ne {x y : Int32} {off : Int} {tgt : Nat} (hd : decode (mB M) pc = .ok (.if_icmp .ne off, 3)) (ht : (pc : Int) + off = (tgt : Int)) (kt : ¬ x = y → Go E M tgt ls st h r hr) (kf : x = y → Go E M (pc + 3) ls st h r hr) : Go E M pc ls (.int y :: .int x :: st) h r hr :=
  fun p e s m args below meth c H locs L C hS hP hL => lv_icmp_ne C.1 C.2.1 hd ht (fun q => kt q p e s m args below meth c H locs L C hS hP hL) (fun q => kf q p e s m args below meth c H locs L C hS hP hL)
theorem q_if_ne {x : Int32} {off : Int} {tgt : Nat} (hd : decode (mB M) pc = .ok (.ifCond .ne off, 3)) (ht : (pc : Int) + off = (tgt : Int)) (kt : ¬ x = 0 → Go E M tgt ls st h r hr) (kf : x = 0 → Go E M (pc + 3) ls st h r hr) : Go E M pc ls (.int x :: st) h r hr :=
  fun p e s m args below meth c H locs L C hS hP hL => lv_if_ne C.1 C.2.1 hd ht (fun q => kt q p e s m args below meth c H locs L C hS hP hL) (fun q => kf q p e s m args below meth c H locs L C hS hP hL)
theorem q_icmp_lt {x y : Int32} {off : Int} {tgt : Nat} (hd : decode (mB M) pc = .ok (.if_icmp .lt off, 3)) (ht : (pc : Int) + off = (tgt : Int)) (kt : x < y → Go E M tgt ls st h r hr) (kf : ¬ x < y → Go E M (pc + 3) ls st h r hr) : Go E M pc ls (.int y :: .int x :: st) h r hr :=
  fun p e s m args below meth c H locs L C hS hP hL => lv_icmp_lt C.1 C.2.1 hd ht (fun q => kt q p e s m args below meth c H locs L C hS hP hL) (fun q => kf q p e s m args below meth c H locs L C hS hP hL)
theorem q_if_lt {x : Int32} {off : Int} {tgt : Nat} (hd : decode (mB M) pc = .ok (.ifCond .lt off, 3)) (ht : (pc : Int) + off = (tgt : Int)) (kt : x < 0 → Go E M tgt ls st h r hr) (kf : ¬ x < 0 → Go E M (pc + 3) ls st h r hr) : Go E M pc ls (.int x :: st) h r hr :=
  fun p e s m args below meth c H locs L C hS hP hL => lv_if_lt C.1 C.2.1 hd ht (fun q => kt q p e s m args below meth c H locs L C hS hP hL) (fun q => kf q p e s m args below meth c H locs L C hS hP hL)
theorem q_icmp_ge {x y : Int32} {off : Int} {tgt : Nat} (hd : decode (mB M) pc = .ok (.if_icmp .ge off, 3)) (ht : (pc : Int) + off = (tgt : Int)) (kt : y ≤ x → Go E M tgt ls st h r hr) (kf : ¬ y ≤ x → Go E M (pc + 3) ls st h r hr) : Go E M pc ls (.int y :: .int x :: st) h r hr :=
  fun p e s m args below meth c H locs L C hS hP hL => lv_icmp_ge C.1 C.2.1 hd ht (fun q => kt q p e s m args below meth c H locs L C hS hP hL) (fun q => kf q p e s m args below meth c H locs L C hS hP hL)
theorem q_if_ge {x : Int32} {off : Int} {tgt : Nat} (hd : decode (mB M) pc = .ok (.ifCond .ge off, 3)) (ht : (pc : Int) + off = (tgt : Int)) (kt : 0 ≤ x → Go E M tgt ls st h r hr) (kf : ¬ 0 ≤ x → Go E M (pc + 3) ls st h r hr) : Go E M pc ls (.int x :: st) h r hr :=
  fun p e s m args below meth c H locs L C hS hP hL => lv_if_ge C.1 C.2.1 hd ht (fun q => kt q p e s m args below meth c H locs L C hS hP hL) (fun q => kf q p e s m args below meth c H locs L C hS hP hL)
theorem q_icmp_gt {x y : Int32} {off : Int} {tgt : Nat} (hd : decode (mB M) pc = .ok (.if_icmp .gt off, 3)) (ht : (pc : Int) + off = (tgt : Int)) (kt : y < x → Go E M tgt ls st h r hr) (kf : ¬ y < x → Go E M (pc + 3) ls st h r hr) : Go E M pc ls (.int y :: .int x :: st) h r hr :=
  fun p e s m args below meth c H locs L C hS hP hL => lv_icmp_gt C.1 C.2.1 hd ht (fun q => kt q p e s m args below meth c H locs L C hS hP hL) (fun q => kf q p e s m args below meth c H locs L C hS hP hL)
theorem q_if_gt {x : Int32} {off : Int} {tgt : Nat} (hd : decode (mB M) pc = .ok (.ifCond .gt off, 3)) (ht : (pc : Int) + off = (tgt : Int)) (kt : 0 < x → Go E M tgt ls st h r hr) (kf : ¬ 0 < x → Go E M (pc + 3) ls st h r hr) : Go E M pc ls (.int x :: st) h r hr :=
  fun p e s m args below meth c H locs L C hS hP hL => lv_if_gt C.1 C.2.1 hd ht (fun q => kt q p e s m args below meth c H locs L C hS hP hL) (fun q => kf q p e s m args below meth c H locs L C hS hP hL)
theorem q_icmp_le {x y : Int32} {off : Int} {tgt : Nat} (hd : decode (mB M) pc = .ok (.if_icmp .le off, 3)) (ht : (pc : Int) + off = (tgt : Int)) (kt : x ≤ y → Go E M tgt ls st h r hr) (kf : ¬ x ≤ y → Go E M (pc + 3) ls st h r hr) : Go E M pc ls (.int y :: .int x :: st) h r hr :=
  fun p e s m args below meth c H locs L C hS hP hL => lv_icmp_le C.1 C.2.1 hd ht (fun q => kt q p e s m args below meth c H locs L C hS hP hL) (fun q => kf q p e s m args below meth c H locs L C hS hP hL)
theorem q_if_le {x : Int32} {off : Int} {tgt : Nat} (hd : decode (mB M) pc = .ok (.ifCond .le off, 3)) (ht : (pc : Int) + off = (tgt : Int)) (kt : x ≤ 0 → Go E M tgt ls st h r hr) (kf : ¬ x ≤ 0 → Go E M (pc + 3) ls st h r hr) : Go E M pc ls (.int x :: st) h r hr :=
  fun p e s m args below meth c H locs L C hS hP hL => lv_if_le C.1 C.2.1 hd ht (fun q => kt q p e s m args below meth c H locs L C hS hP hL) (fun q => kf q p e s m args below meth c H locs L C hS hP hL)
end GO
