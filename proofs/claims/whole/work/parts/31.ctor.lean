/-! constructors: worlds as lists of cells, at addresses that are variables -/
theorem wn_objI : Cond.instanceMethod objectInit ∈ LT := mG (List.mem_append_right _ (List.mem_append_left _ (List.mem_of_getElem? (l := tables_1_1) (i := 27) rfl))) rfl
theorem wn_objC : Cond.code objectInit ⟨#[0xb1]⟩ 1 none ∈ LT := mG (List.mem_append_right _ (List.mem_append_left _ (List.mem_of_getElem? (l := tables_1_1) (i := 28) rfl))) rfl
/-- the arrays of arrays of ints, as the tables have them -/
def AOI (U : State) : Prop := ∃ comp c k, U.vm.findClass "[I" = some comp ∧ (U.vm.classes.findIdx? fun (x : Class) => match x.kind with | .array component _ => component == comp | _ => false) = some c ∧ U.vm.classes[c]? = some k ∧ k.kind = .array comp (.array .int) ∧ U.vm.findClass "[[I" = some c
def CN (D : va_G) (tc : Nat → ClassId) (M : MI) (p : Program) (s : State) (m : MethodId) (args : Array Value) (meth : Method) (c : Code) : Prop :=
  p.tables.exec = Jvm.exec ∧ c.code = mB M ∧ meth.sig.returnType = none ∧ c.maxLocals = mL M ∧ s.vm.findClass (mO M) = some m.cls ∧ (∀ w ∈ wsM M, w.before args s = true) ∧ meth.locks = false ∧ va_K D classes (tysE tc) s ∧ NK s ∧ AOI s ∧ meth.name = "<init>"
def QN (D : va_G) (tc : Nat → ClassId) (A : Nat → Prop) (B : va_W → Prop) : Array Value → State → Outcome → State → Prop := va_Qv B (fun w t => va_P D classes w t.heap ∧ va_D A w) A
def Gn (l : Launch) (D : va_G) (tc : Nat → ClassId) (M : MI) (A : Nat → Prop) (mc ms : Nat) (B : va_W → Prop) (pc : Nat) (ls : List (Option Value)) (st : List Value) (ws : va_W) (cells slots : Nat) : Prop :=
  ∀ (p : Program) (e : Env) (s : State) (m : MethodId) (args : Array Value) (below : List Frame) (meth : Method) (c : Code) (H : Heap) (locs : List Loc) (L : Array Slot),
    CN D tc M p s m args meth c → (∀ q, s.heap.size ≤ q → A q) → va_S A s.heap H locs → va_P D classes ws H → va_D A ws → LR id (mL M) ls L →
    W p l e (mRm M) s m args below meth c H locs cells slots (MQ below (QN D tc A B) args s mc ms A) (F0 m pc L st)
/-- a constructor's contract: from the cells W0 to some cells with B -/
def Cn (l : Launch) (D : va_G) (tc : Nat → ClassId) (M : MI) (as : List Value) (W0 : va_W) (mc ms : Nat) (B : va_W → Prop) : Prop :=
  ∀ sz : Nat, Met l (mY M) (wsM M) (mRm M) (va_Pc as (fun U => U.heap.size = sz ∧ va_P D classes W0 U.heap ∧ va_D (fun _ => True) W0 ∧ va_K D classes (tysE tc) U ∧ NK U ∧ AOI U)) (QN D tc (va_A W0 sz) B) mc ms (va_A W0 sz)
def MOKn (M : MI) : Prop := plainName (mY M).cls = true ∧ Cond.code (mY M) (mB M) (mL M) none ∈ LT ∧ (mY M).cls = mO M ∧ mR M = none ∧ (mY M).name = "<init>" ∧
  (∀ i c k, mF M i = some (c, k) → ∃ q : vw_C, classes[c]? = some q ∧ k < q.2.2 ∧ Cond.fieldLink (mO M) i (q.2.1 k).1 (q.2.1 k).2.1 (q.2.1 k).2.2.1 ∈ LT)
theorem AOI.moved {u U : State} (hvm : u.vm.Alike U.vm) (h : AOI u) : AOI U := by
  obtain ⟨comp, c, k, h1, h2, h3, h4, h5⟩ := h
  obtain ⟨k', hk', he⟩ := hvm.2.2 _ _ h3
  have e0 := congrArg (fun v : Vm => v.classes.findIdx? fun (x : Class) => match x.kind with | .array component _ => component == comp | _ => false) hvm.bare_eq
  have hi := (va_idx_bare U.vm comp).symm.trans (e0.trans ((va_idx_bare u.vm comp).trans h2))
  exact ⟨comp, c, k', by rw [hvm.findClass]; exact h1, hi, hk', by rw [he]; exact h4, by rw [hvm.findClass]; exact h5⟩
theorem AOI.use {args : Array Value} {U : State} (h : AOI U) : (Cond.arrayOver (.array .int)).before args U = true := by
  obtain ⟨comp, c, k, h1, h2, h3, h4, h5⟩ := h
  have e1 : (FieldType.array .int).toString = "[I" := by decide +kernel
  have e2 : "[" ++ "[I" = "[[I" := by decide +kernel
  unfold Cond.before Cond.holds
  simp only [Cond.value]
  rw [e1, h1, Option.bind_some]
  refine (congrArg (fun o : Option Nat => (o.bind (fun c => (U.vm.classes[c]?).map fun (k : Class) => match k.kind with | .array _ ty => decide (ty = FieldType.array .int) && decide (U.vm.findClass ("[" ++ "[I") = some c) | _ => false) == some true)) h2).trans ?_
  simp [h3, h4, e2, h5]
section GN
variable {l : Launch} {D : va_G} {tc : Nat → ClassId} {M M' : MI} {A : Nat → Prop} {mc ms : Nat} {B : va_W → Prop} {pc : Nat} {ls : List (Option Value)} {st : List Value} {ws : va_W} {cells slots : Nat}
theorem Cn_of (hM : MOKn M) {as : List Value} {W0 : va_W} (ls : List (Option Value)) (hn : (lg_sl as).length ≤ mL M) (hls : pairs id 0 ls = lv_args 0 as) (k : ∀ A, (∀ q, va_A W0 0 q → A q ∨ True) → Gn l D tc M A mc ms B 0 ls [] W0 0 0) : Cn l D tc M as W0 mc ms B := by
  intro sz
  refine Met.ofW (cc := mB M) (maxL := mL M) (ret := mR M) hM.1 rfl ?_
  intro p e s m args below meth c s₁ Bd hml hv
  obtain ⟨rfl, rfl, hP, hD0, hK, hN, hO⟩ := hv
  have hl := lv_entry as (n := mL M) hn
  rw [lg_entry_eq]
  have hw := atoms_spec (ws := wsM M) Bd.pre
  refine k (va_A W0 s.heap.size) (fun _ _ => Or.inr trivial) p e s m _ below meth c s.heap [] _ ⟨Bd.exec, Bd.bytes, Bd.returns.trans hM.2.2.2.1, hml, ?_, hw, Bd.notSynchronized, hK, hN, hO, ?_⟩ (fun q h => Or.inr h) va_S.rf hP hD0.self ?_
  · have e := findClass_of_methodNamed Bd.named
    rw [hM.2.2.1] at e
    exact e
  · rw [(name_of_methodNamed Bd.named Bd.method).1]
    exact hM.2.2.2.2.1
  · unfold LR
    rw [hls]
    exact hl
theorem n_aload {i : Fin 4} {x : Nat} (hl : ls[i.val]? = some (some (.ref x))) (hd : decode (mB M) pc = .ok (.aload_n i, 1)) (k : Gn l D tc M A mc ms B (pc + 1) ls (.ref x :: st) ws cells slots) : Gn l D tc M A mc ms B pc ls st ws cells slots :=
  fun p e s m args below meth c H locs L C hA hS hP hD hL => lv_aload_n C.1 C.2.1 hd rfl (hL.get hl) (k p e s m args below meth c H locs L C hA hS hP hD hL)
theorem n_iload {i : Fin 4} {x : Int32} (hl : ls[i.val]? = some (some (.int x))) (hd : decode (mB M) pc = .ok (.iload_n i, 1)) (k : Gn l D tc M A mc ms B (pc + 1) ls (.int x :: st) ws cells slots) : Gn l D tc M A mc ms B pc ls st ws cells slots :=
  fun p e s m args below meth c H locs L C hA hS hP hD hL => lv_iload_n C.1 C.2.1 hd rfl (hL.get hl) (k p e s m args below meth c H locs L C hA hS hP hD hL)
theorem n_iconst {n : Int} {v : Int32} (hd : decode (mB M) pc = .ok (.iconst n, 1)) (hv : Int32.ofInt n = v) (k : Gn l D tc M A mc ms B (pc + 1) ls (.int v :: st) ws cells slots) : Gn l D tc M A mc ms B pc ls st ws cells slots :=
  fun p e s m args below meth c H locs L C hA hS hP hD hL => lv_iconst C.1 C.2.1 hd hv (k p e s m args below meth c H locs L C hA hS hP hD hL)
theorem n_bipush {n : Int} {v : Int32} (hd : decode (mB M) pc = .ok (.bipush n, 2)) (hv : (Int8.ofInt n).toInt32 = v) (k : Gn l D tc M A mc ms B (pc + 2) ls (.int v :: st) ws cells slots) : Gn l D tc M A mc ms B pc ls st ws cells slots :=
  fun p e s m args below meth c H locs L C hA hS hP hD hL => lv_bipush C.1 C.2.1 hd hv (k p e s m args below meth c H locs L C hA hS hP hD hL)
theorem n_sipush {n : Int} {v : Int32} (hd : decode (mB M) pc = .ok (.sipush n, 3)) (hv : (Int16.ofInt n).toInt32 = v) (k : Gn l D tc M A mc ms B (pc + 3) ls (.int v :: st) ws cells slots) : Gn l D tc M A mc ms B pc ls st ws cells slots :=
  fun p e s m args below meth c H locs L C hA hS hP hD hL => lv_sipush C.1 C.2.1 hd hv (k p e s m args below meth c H locs L C hA hS hP hD hL)
theorem n_dup {x : Nat} (hd : decode (mB M) pc = .ok (.dup, 1)) (k : Gn l D tc M A mc ms B (pc + 1) ls (.ref x :: .ref x :: st) ws cells slots) : Gn l D tc M A mc ms B pc ls (.ref x :: st) ws cells slots :=
  fun p e s m args below meth c H locs L C hA hS hP hD hL => lv_dup C.1 C.2.1 hd rfl (k p e s m args below meth c H locs L C hA hS hP hD hL)
theorem n_obj {i a : Nat} (hlk : Cond.methodLink (mO M) i objectInit ∈ LT) (hf : 1 ≤ (mRm M).frames) (hlo : (st.map fun v => v.category).sum + 12 ≤ (mRm M).locals) (hd : decode (mB M) pc = .ok (.invokespecial i, 3)) (k : Gn l D tc M A mc ms B (pc + 3) ls st ws cells slots) : Gn l D tc M A mc ms B pc ls (.ref a :: st) ws cells slots := by
  intro p e s m args below meth c H locs L C hA hS hP hD hL
  have hts := C.2.2.2.2.2.1
  refine W.objInit C.1 C.2.1 C.2.2.2.2.1 (hts _ (List.mem_cons_of_mem _ hlk)) (hts _ (List.mem_cons_of_mem _ wn_objI)) (hts _ (List.mem_cons_of_mem _ wn_objC)) rfl (by rw [C.2.2.2.1]; exact hL.1) rfl hd hf ?_ ?_
  · show 2 * (F0 m pc L st).monitorRoom + _ + 12 ≤ _
    have : (F0 m pc L st).monitorRoom = 0 := rfl
    omega
  · exact k p e s m args below meth c H locs L C hA hS hP hD hL
theorem n_new {i ci : Nat} {q : vw_C} (hq : classes[ci]? = some q) {fs : List Value} (hfs : ∀ (ty : Nat → FieldType), (∀ k, k < q.2.2 → parseFieldDescriptor (q.2.1 k).2.2.1 = some (ty k)) → ∀ j, j < q.2.2 → defaultValue (ty j) = vp_V fs j) (hlk : Cond.classLink (mO M) i q.1 ∈ LT ∧ Cond.instantiable q.1 q.2.2 ∈ LT ∧ Cond.initialized q.1 ∈ LT) (hc : cells + 1 ≤ (mRm M).cells) (hs : slots + q.2.2 ≤ (mRm M).slots) (hd : decode (mB M) pc = .ok (.new i, 3))
    (k : ∀ x : Nat, Gn l D tc M A mc ms B (pc + 3) ls (.ref x :: st) (ws ++ [(x, .inr (ci, fs))]) (cells + 1) (slots + q.2.2)) : Gn l D tc M A mc ms B pc ls st ws cells slots := by
  intro p e s m args below meth c H locs L C hA hS hP hD hL
  obtain ⟨ty, hi, hty, -, -, -⟩ := cl_ok hq
  have hts := C.2.2.2.2.2.1
  exact va_new (ci := ci) (fs := fs) (C := q.1) (T := q.2.1) (N := q.2.2) C.1 C.2.1 hts (fun w hw => List.mem_cons_of_mem _ (hi w hw)) ty hty C.2.2.2.2.1 (hts _ (List.mem_cons_of_mem _ hlk.1)) (hts _ (List.mem_cons_of_mem _ hlk.2.1)) (hts _ (List.mem_cons_of_mem _ hlk.2.2)) C.2.2.2.2.2.2.2.1 hP hD hS hA hq (hfs ty hty) hc hs hd
    (fun x H1 hP1 hD1 hS1 => k x p e s m args below meth c H1 locs L C hA hS1 hP1 hD1 hL)
theorem ra_prim {s : State} {a b : ClassId} {ty : FieldType} (h : va_RA s a ty) (h2 : va_RA s b ty) (hty : ∀ C, ty ≠ .object C) : a = b := by
  cases ty with
  | object C => exact absurd rfl (hty C)
  | _ => exact Option.some.inj (Eq.trans (Eq.symm h) h2)
theorem n_newa {aty : ArrayType} {ty : FieldType} {kd : Nat} {n : Int32} {N : Nat} {a0 : vp_A} (hty : newarray.typeOf aty = ty) (htk : (tysE tc)[kd]? = some (tc (kd + 1), ty)) (hpr : ∀ C, ty ≠ .object C) (harr : Cond.arrayClass (newarray.typeOf aty) ∈ LT) (ha : ∀ cA : ClassId, vp_cell cA a0 = arrV cA N (fun _ => defaultValue ty)) (hn : ¬ n < 0) (hN : n.toNatClampNeg = N) (hb : N * componentBytes ty ≤ 536870912) (hc : cells + 1 ≤ (mRm M).cells) (hs : slots + N ≤ (mRm M).slots) (hd : decode (mB M) pc = .ok (.newarray aty, 2))
    (k : ∀ x : Nat, Gn l D tc M A mc ms B (pc + 2) ls (.ref x :: st) (ws ++ [(x, .inl (tc (kd + 1), a0))]) (cells + 1) (slots + N)) : Gn l D tc M A mc ms B pc ls (.int n :: st) ws cells slots := by
  intro p e s m args below meth c H locs L C hA hS hP hD hL
  have hts := C.2.2.2.2.2.1
  have hK := C.2.2.2.2.2.2.2.1
  refine va_newa C.1 C.2.1 (hts _ (List.mem_cons_of_mem _ harr)) hty hK hP hD hS hA ha hn hN hb hc hs hd (fun x cA H1 hK1 hP1 hD1 hS1 => ?_)
  have e1 := (hK.2 kd _ htk).2
  have e2 := (hK1.2 (tysE tc).length (cA, ty) (by rw [List.getElem?_append_right (Nat.le_refl _), Nat.sub_self]; rfl)).2
  have e3 : cA = tc (kd + 1) := ra_prim e2 e1 hpr
  subst e3
  exact k x p e s m args below meth c H1 locs L C hA hS1 hP1 hD1 hL
theorem n_putF {hM : MOKn M} {i ci f o : Nat} {q : vw_C} {fs : List Value} {v : Nat} (hf : mF M i = some (ci, f)) (hq : classes[ci]? = some q) (q0 : Nat) (he : ws[q0]? = some (o, .inr (ci, fs))) (hfin : (q.2.1 f).2.2.2 = true) (hown : (q.2.1 f).1 = mO M) {ty : FieldType} (hty : parseFieldDescriptor (q.2.1 f).2.2.1 = some ty) (hn : narrow ty (.ref v) = .ref v) (hfit : fits ty (.ref v) = true) (hl : f < fs.length) (hlt : f < q.2.2) (hd : decode (mB M) pc = .ok (.putfield i, 3))
    (k : Gn l D tc M A mc ms B (pc + 3) ls st (ws.set q0 (o, .inr (ci, fs.set f (.ref v)))) cells slots) : Gn l D tc M A mc ms B pc ls (.ref v :: .ref o :: st) ws cells slots := by
  intro p e s m args below meth c H locs L C hA hS hP hD hL
  have hts := C.2.2.2.2.2.1
  obtain ⟨q', hc', hk, hlk⟩ := hM.2.2.2.2.2 i ci f hf
  rw [hq] at hc'
  cases hc'
  obtain ⟨ty0, hi, hty0, hnm, -, -⟩ := cl_ok hq
  exact va_putF (D := D) (ci := ci) (v := .ref v) (ty := ty) (C := q.1) (T := q.2.1) (N := q.2.2) C.1 C.2.1 hts (fun w hw => List.mem_cons_of_mem _ (hi w hw)) ty0 hty0 hnm C.2.2.2.2.1 C.2.2.2.2.2.2.2.1 hP hD hS q0 he hq f hlt (hts _ (List.mem_cons_of_mem _ hlk)) (fun _ h9 => h9) hfin C.2.2.2.2.2.2.2.2.2.2 hown hty hn hfit hl hd
    (fun H1 locs1 hP1 hD1 hS1 => k p e s m args below meth c H1 locs1 L C hA hS1 hP1 hD1 hL)
theorem n_putI {hM : MOKn M} {i ci f o : Nat} {q : vw_C} {fs : List Value} {v : Int32} (hf : mF M i = some (ci, f)) (hq : classes[ci]? = some q) (q0 : Nat) (he : ws[q0]? = some (o, .inr (ci, fs))) (hfin : (q.2.1 f).2.2.2 = false) (hty : parseFieldDescriptor (q.2.1 f).2.2.1 = some .int) (hl : f < fs.length) (hlt : f < q.2.2) (hd : decode (mB M) pc = .ok (.putfield i, 3))
    (k : Gn l D tc M A mc ms B (pc + 3) ls st (ws.set q0 (o, .inr (ci, fs.set f (.int v)))) cells slots) : Gn l D tc M A mc ms B pc ls (.int v :: .ref o :: st) ws cells slots := by
  intro p e s m args below meth c H locs L C hA hS hP hD hL
  have hts := C.2.2.2.2.2.1
  obtain ⟨q', hc', hk, hlk⟩ := hM.2.2.2.2.2 i ci f hf
  rw [hq] at hc'
  cases hc'
  obtain ⟨ty0, hi, hty0, hnm, -, -⟩ := cl_ok hq
  exact va_put (D := D) (ci := ci) (v := .int v) (ty := .int) (C := q.1) (T := q.2.1) (N := q.2.2) C.1 C.2.1 hts (fun w hw => List.mem_cons_of_mem _ (hi w hw)) ty0 hty0 hnm C.2.2.2.2.1 C.2.2.2.2.2.2.2.1 hP hD hS q0 he hq f hlt (hts _ (List.mem_cons_of_mem _ hlk)) (fun _ h9 => h9) hfin hty rfl rfl hl hd
    (fun H1 locs1 hP1 hD1 hS1 => k p e s m args below meth c H1 locs1 L C hA hS1 hP1 hD1 hL)
theorem n_get {hM : MOKn M} {i ci f o : Nat} {q : vw_C} {fs : List Value} {v : Value} (hf : mF M i = some (ci, f)) (hq : classes[ci]? = some q) (q0 : Nat) (he : ws[q0]? = some (o, .inr (ci, fs))) (hv : fs[f]? = some v) (hd : decode (mB M) pc = .ok (.getfield i, 3))
    (k : Gn l D tc M A mc ms B (pc + 3) ls (v :: st) ws cells slots) : Gn l D tc M A mc ms B pc ls (.ref o :: st) ws cells slots := by
  intro p e s m args below meth c H locs L C hA hS hP hD hL
  have hts := C.2.2.2.2.2.1
  obtain ⟨q', hc', hk, hlk⟩ := hM.2.2.2.2.2 i ci f hf
  rw [hq] at hc'
  cases hc'
  obtain ⟨ty0, hi, hty0, hnm, -, -⟩ := cl_ok hq
  exact va_get (D := D) (ci := ci) (v := v) (C := q.1) (T := q.2.1) (N := q.2.2) C.1 C.2.1 hts (fun w hw => List.mem_cons_of_mem _ (hi w hw)) C.2.2.2.2.1 C.2.2.2.2.2.2.2.1 hP q0 he hq f hk (hts _ (List.mem_cons_of_mem _ hlk)) (fun _ h9 => h9) hv hd
    (k p e s m args below meth c H locs L C hA hS hP hD hL)
theorem n_iast {o n : Nat} {f : Nat → Int32} {i x : Int32} (q0 : Nat) (he : ws[q0]? = some (o, .inl (tc 1, n, .inl f))) (hin : vp_in i n) (hd : decode (mB M) pc = .ok (.iastore, 1)) (k : Gn l D tc M A mc ms B (pc + 1) ls st (ws.set q0 (o, .inl (tc 1, n, .inl (upd f i.toNatClampNeg x)))) cells slots) : Gn l D tc M A mc ms B pc ls (.int x :: .int i :: .ref o :: st) ws cells slots :=
  fun p e s m args below meth c H locs L C hA hS hP hD hL => va_iast C.1 C.2.1 C.2.2.2.2.2.2.2.1 hP hD hS q0 0 he rfl hin hd (fun H1 locs1 hP1 hD1 hS1 => k p e s m args below meth c H1 locs1 L C hA hS1 hP1 hD1 hL)
theorem n_last {o n : Nat} {f : Nat → Int64} {i : Int32} {x : Int64} (q0 : Nat) (he : ws[q0]? = some (o, .inl (tc 4, n, .inr (.inl f)))) (hin : vp_in i n) (hd : decode (mB M) pc = .ok (.lastore, 1)) (k : Gn l D tc M A mc ms B (pc + 1) ls st (ws.set q0 (o, .inl (tc 4, n, .inr (.inl (vp_updL f i.toNatClampNeg x))))) cells slots) : Gn l D tc M A mc ms B pc ls (.long x :: .int i :: .ref o :: st) ws cells slots :=
  fun p e s m args below meth c H locs L C hA hS hP hD hL => va_last C.1 C.2.1 C.2.2.2.2.2.2.2.1 hP hD hS q0 3 he rfl hin hd (fun H1 locs1 hP1 hD1 hS1 => k p e s m args below meth c H1 locs1 L C hA hS1 hP1 hD1 hL)
theorem n_ret (hB : B ws) (h1 : cells ≤ mc) (h2 : slots ≤ ms) (hd : decode (mB M) pc = .ok (.return_, 1)) : Gn l D tc M A mc ms B pc ls [] ws cells slots := by
  intro p e s m args below meth c H locs L C hA hS hP hD hL
  have hlocks := C.2.2.2.2.2.2.1
  refine W.widen (k := mc) (n := ms) h1 h2 ?_
  exact W.vret C.1 C.2.1 C.2.2.1 (fun t ht hW => ⟨⟨ws, rfl, hB, by rw [ht]; exact hP, hD⟩, hS.F ht⟩) hS.2.2 hd
theorem n_max {i : Nat} {x y : Int32} (hlk : Cond.methodLink (mO M) i ⟨"java/lang/Math", "max", "(II)I"⟩ ∈ LT) (hf : 1 ≤ (mRm M).frames) (hl : (st.map fun v => v.category).sum + 13 ≤ (mRm M).locals) (hc : cells ≤ (mRm M).cells) (hs : slots ≤ (mRm M).slots) (hd : decode (mB M) pc = .ok (.invokestatic i, 3)) (k : Gn l D tc M A mc ms B (pc + 3) ls (.int (jmax x y) :: st) ws cells slots) : Gn l D tc M A mc ms B pc ls (.int y :: .int x :: st) ws cells slots := by
  intro p e s m args below meth c H locs L C hA hS hP hD hL
  have hts := C.2.2.2.2.2.1
  exact va_mmax C.1 C.2.1 (C.2.2.2.1.trans hL.1.symm) C.2.2.2.2.1 (hts _ (List.mem_cons_of_mem _ hlk)) (hts _ (List.mem_cons_of_mem _ wm_max_s)) (hts _ (List.mem_cons_of_mem _ wm_i)) (hts _ (List.mem_cons_of_mem _ wm_max_c)) hf hl hc hs hd (k p e s m args below meth c H locs L C hA hS hP hD hL)
theorem pn_blind {as : List Value} {W0 : va_W} {sz : Nat} : FrameBlind (va_Pc as (fun U => U.heap.size = sz ∧ va_P D classes W0 U.heap ∧ va_D (fun _ => True) W0 ∧ va_K D classes (tysE tc) U ∧ NK U ∧ AOI U)) := by
  intro a U g mk q
  obtain ⟨q1, q2, q3, q4, q5, q6, q7⟩ := q
  exact ⟨q1, q2, q3, q4, va_K.moved (u := U) (U := U.calling g mk a) (Vm.Alike.refl U.vm) q5, fun w hw => va_tabs rfl (rfl : U.vm = (U.calling g mk a).vm) (q6 w hw), AOI.moved (u := U) (U := U.calling g mk a) (Vm.Alike.refl U.vm) q7⟩
/-- the words of a constructor's call: linked plainly, or as a nest mate's -/
def LkI (M M' : MI) (i n : Nat) : Prop := (Cond.methodLink (mO M) i (mY M') ∈ LT ∨ (mO M, i, mY M', "CloudDepth") ∈ NL) ∧ Cond.instanceMethod (mY M') ∈ LT ∧ Cond.initialized (mO M') ∈ LT ∧ ((mY M').cls ≠ "java/lang/invoke/MethodHandle" ∧ (mY M').cls ≠ "java/lang/invoke/VarHandle" ∧ (parseMethodDescriptor (mY M').desc).map (fun d => d.parameters.length) = some n) ∧ (mRm M').frames + 1 ≤ (mRm M).frames ∧ 8 + (mL M' + 11) + (mRm M').locals ≤ (mRm M).locals
theorem goodN {M M' : MI} (hM' : MOKn M') : GoodIn (wsM M) (Cond.code (mY M') (mB M') (mL M') none :: LT) := fun w hw => by
  rcases List.mem_cons.mp hw with rfl | hw
  · exact ⟨List.mem_cons_of_mem _ hM'.2.1, LT_good _ hM'.2.1⟩
  · exact ⟨List.mem_cons_of_mem _ hw, LT_good _ hw⟩
theorem ix_last (ws : va_W) (x : Nat × va_E) : [ws.length].map (fun i => (ws ++ [x])[i]?) = [x].map some := by simp
theorem ix_rest (ws : va_W) (x : Nat × va_E) : (List.range ws.length).map (fun i => (ws ++ [x])[i]?) = ws.map some := by
  apply List.ext_getElem?
  intro i
  rw [List.getElem?_map, List.getElem?_map]
  by_cases hi : i < ws.length
  · rw [List.getElem?_range hi]
    simp [List.getElem?_append_left hi, List.getElem?_eq_getElem hi]
  · rw [List.getElem?_eq_none (by simp; omega), List.getElem?_eq_none (by omega)]
    rfl
theorem nd_range : ∀ (l : List Nat), l.Nodup → va_nd l = true
  | [], _ => rfl
  | a :: t, h => by
    have h' := List.nodup_cons.mp h
    unfold va_nd
    rw [nd_range t h'.2]
    simp [h'.1]
theorem n_ctor (hM' : MOKn M') {i n o : Nat} {e0 : va_E} {as : List Value} {mc' ms' : Nat} {B' : va_W → Prop} (hlk : LkI M M' i n) (ct : Cn l D tc M' (.ref o :: as) [(o, e0)] mc' ms' B') (hrc : (mRm M').cells = mc' ∧ (mRm M').slots = ms') (hn : as.length = n) (hcat : (st.map fun v => v.category).sum ≤ 8) (hc : cells + mc' ≤ (mRm M).cells) (hs : slots + ms' ≤ (mRm M).slots) (hd : decode (mB M) pc = .ok (.invokespecial i, 3)) {st0 : List Value} (hst : as.reverse ++ .ref o :: st = st0)
    (k : ∀ w : va_W, B' w → Gn l D tc M A mc ms B (pc + 3) ls st (ws ++ w) (cells + mc') (slots + ms')) : Gn l D tc M A mc ms B pc ls st0 (ws ++ [(o, e0)]) cells slots := by
  subst hst
  intro p e s m args below meth c H locs L C hA hS hP hD hL
  have hts := C.2.2.2.2.2.1
  have hPc : va_P D classes [(o, e0)] H := fun j q hj => hP (ws.length + j) q (by rw [List.getElem?_append_right (by omega)]; simpa using hj)
  have hDc : va_D (fun _ => True) [(o, e0)] := ⟨fun i j p q hi hj _ => by
    have h1 := (List.getElem?_eq_some_iff.mp hi).1
    have h2 := (List.getElem?_eq_some_iff.mp hj).1
    simp at h1 h2
    omega, fun _ _ _ => trivial⟩
  have hFc := va_free (wc := [(o, e0)]) hD hS hA [ws.length] (ix_last ws (o, e0))
  have hmr : mR M' = none := hM'.2.2.2.1
  have ct' := ct H.size
  unfold wsM at ct'
  rw [hmr] at ct'
  have hpre : PreS s H (va_Pc (.ref o :: as) (fun U => U.heap.size = H.size ∧ va_P D classes [(o, e0)] U.heap ∧ va_D (fun _ => True) [(o, e0)] ∧ va_K D classes (tysE tc) U ∧ NK U ∧ AOI U)) (.ref o :: as) :=
    ⟨pn_blind, fun U hU hW => ⟨rfl, by rw [hU], by rw [hU]; exact hPc, hDc, va_K.moved hW.alike C.2.2.2.2.2.2.2.1, fun q hq => (C.2.2.2.2.2.2.2.2.1 q hq).warmM hW, C.2.2.2.2.2.2.2.2.2.1.moved hW.alike⟩⟩
  have hrun : va_Run p l e (mRm M) s m args below meth c H locs cells slots mc' ms' (F0 m pc L (as.reverse ++ .ref o :: st)) st (QN D tc (va_A [(o, e0)] H.size) B' (Value.ref o :: as).toArray) (va_A [(o, e0)] H.size) := by
    rcases hlk.1 with hl1 | hl1
    · exact va_runI (As := as) (n := n) (bytes := mB M') (maxL := mL M') (index := i) ⟨C.1, C.2.1, C.2.2.2.1, C.2.2.2.2.1, hts⟩ ct' ⟨callB_of n hts (goodN hM') rfl hrc.1 hrc.2 (by rw [hM'.2.2.1]; exact hts _ (List.mem_cons_of_mem _ hlk.2.2.1)) (hts _ (List.mem_cons_of_mem _ hl1)) hlk.2.2.2.1 hlk.2.2.2.2, hM'.2.2.2.2.1, hts _ (List.mem_cons_of_mem _ hlk.2.1)⟩ hpre rfl hn hL.1 rfl (lv_room hcat) hd ⟨hc, hs⟩
    · exact va_runIN (As := as) (n := n) (bytes := mB M') (maxL := mL M') (index := i) (host := "CloudDepth") ⟨C.1, C.2.1, C.2.2.2.1, C.2.2.2.2.1, hts⟩ ct' ⟨va_cnB n hts (goodN hM') rfl hrc.1 hrc.2 (C.2.2.2.2.2.2.2.2.1 _ hl1) (by rw [hM'.2.2.1]; exact hts _ (List.mem_cons_of_mem _ hlk.2.2.1)) hlk.2.2.2.1 hlk.2.2.2.2, hM'.2.2.2.2.1, hts _ (List.mem_cons_of_mem _ hlk.2.1)⟩ hpre rfl hn hL.1 rfl (lv_room hcat) hd ⟨hc, hs⟩
  refine va_callv hrun hS (fun q _ h => hFc q h) hFc (fun u t H1 locs1 ht hvm hw hB hz1 hk1 hS1 => ?_)
  obtain ⟨hP1, hD1⟩ := hB
  rw [ht] at hP1
  obtain ⟨hP2, hD2⟩ := va_join hP hD [ws.length] (List.range ws.length) (ix_last ws (o, e0)) (ix_rest ws (o, e0)) (nd_range _ List.nodup_range) (fun i hi => by have := List.mem_range.mp hi; simp; omega) hk1 hFc hP1 hD1
  exact k u hw p e s m args below meth c H1 locs1 L C hA hS1 hP2 hD2 hL
end GN
