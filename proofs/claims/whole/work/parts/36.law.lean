/-! THE CLAIM OUT OF ONE WALK OF THE LAW'S BODY. Your part is whole_start (and what it stands on); all else here is the same for every law, but numbers. -/
def R_law : String := "CloudDepthLaw"
def lw_P (b : Addr) (xs : List Int32) (args : Array Value) (s : State) : Prop := args = #[.ref b] ∧ s.IntsAt b xs ∧ xs.length ≤ 3072 ∧ (Jvm.Cond.and given_1 narrow_1).before args s = true
def lw_Q (_ : Array Value) (s : State) (o : Outcome) (t : State) : Prop := o = .returned (some (.int 1)) ∧ Framed s o t [] 600000 7302250
def lw_Z (below : List Frame) (a : Array Value) (s : State) : State → Prop := fun t => ∃ o, t.status = .running ∧ Ended t below o ∧ lw_Q a s o t
/-- the law's own end, with 1 on the stack, nothing written that was there before, its room as the claim has it -/
theorem lw_ret {p : Program} {l : Launch} {e : Env} {s : State} {m : MethodId} {below : List Frame} {meth : Method} {c : Code} {b : Nat} (hx : p.tables.exec = Jvm.exec) (hb : c.code = code) (hr : meth.sig.returnType = ret) (hlocks : meth.locks = false) {pc : Nat} {H : Heap} {ls : Array Slot} (hdg : decode code pc = .ok (.ireturn, 1)) : W p l e room_1 s m #[Value.ref b] below meth c H [] 600000 7302250 (lw_Z below #[Value.ref b] s) (F0 m pc ls [.int 1]) := by
  intro T hT X
  obtain ⟨fs, hret, hrun, hended, hW, hframe⟩ := X.leave (v := some (.int 1)) (hlocks := hlocks) (fun h => by rw [hr] at h; cases h)
  have hmeth' : T.vm.method? m = some meth := X.method'
  refine ⟨T.setFrames fs, ?_, .returned (some (.int 1)), hrun, hended, rfl, ⟨_, rfl⟩, hW, hframe⟩
  jvm_step X.here [X.here.top, hx, hb, hdg, hmeth', hr, ret, narrow_b1]
  (try refine ⟨rfl, ?_⟩); (try refine ⟨rfl, ?_⟩)
  first | (intro acts; rw [hret _ acts rfl rfl rfl]) | rw [hret _ _ rfl rfl rfl]
  exact Steps.refl _
/-- what holds at the law's entry: the machine, the code, the tables' words (any of lw_tbl by 'hts w (by decide +kernel)'), the script of L ints xs at the cell b, what the Statement gives of the start (any of its parts by flat_of_before) -/
def lw_At (p : Program) (s : State) (m : MethodId) (meth : Method) (c : Code) (b L : Nat) (xs : Nat → Int32) : Prop :=
  p.tables.exec = Jvm.exec ∧ c.code = code ∧ meth.sig.returnType = ret ∧ c.maxLocals = 4 ∧ s.vm.findClass R_law = some m.cls ∧ (∀ w ∈ lw_tbl, w.before #[Value.ref b] s = true) ∧ va_X b L xs s s.heap ∧ b < s.heap.size ∧ meth.locks = false ∧ (Jvm.Cond.and given_1 narrow_1).before #[Value.ref b] s = true
theorem wi_C : Cond.initialized "CloudDepth" ∈ LT := mG (List.mem_append_right _ (List.mem_append_left _ (List.mem_of_getElem? (l := tables_1_1) (i := 1) rfl))) rfl
theorem wi_R : Cond.initialized "CloudDepthModel" ∈ LT := mG (List.mem_append_right _ (List.mem_append_left _ (List.mem_of_getElem? (l := tables_1_1) (i := 14) rfl))) rfl
def lCells : Nat := 2000
def lSlots : Nat := 40000
/-- the law between its constructors and its end -/
def LCx (E : pE) (p : Program) (s : State) (m : MethodId) (meth : Method) (c : Code) (b Ln : Nat) (xs : Nat → Int32) : Prop :=
  lw_At p s m meth c b Ln xs ∧ GE E s ∧ (∀ o, o < NO → s.heap.size ≤ eA E o) ∧ eA E 230 = b
def GL (E : pE) (p : Program) (e : Env) (s : State) (m : MethodId) (below : List Frame) (meth : Method) (c : Code) (b : Nat) (pc : Nat) (ls : List (Option Value)) (st : List Value) (h : pH) : Prop :=
  ∀ (H : Heap) (locs : List Loc) (L : Array Slot), va_S (fun q : Nat => s.heap.size ≤ q) s.heap H locs → PP E h H → LR (eA E) 4 ls L → W p (eL E) e room_1 s m #[Value.ref b] below meth c H locs lCells lSlots (lw_Z below #[Value.ref b] s) (F0 m pc L (st.map (vm (eA E))))
abbrev lawLs (j : Nat) : List (Option Value) := [some (.ref 230), some (.ref 0), some (.ref 79), some (.int (nI j))]
theorem LT_tbl {w : Cond} (h : w ∈ LT) : w ∈ lw_tbl := (List.mem_filter.mp h).1
theorem codeB_c {b : ByteArray} {pc : Nat} {i : Instr} {t : List Instr} (h : codeB b pc (i :: t) = true) : decode b pc = .ok (i, ilen i) ∧ codeB b (pc + ilen i) t = true := by
  unfold codeB at h
  rw [Bool.and_eq_true] at h
  exact ⟨of_decide_eq_true h.1, h.2⟩
section GLL
variable {E : pE} {p : Program} {e : Env} {s : State} {m : MethodId} {below : List Frame} {meth : Method} {c : Code} {b Ln : Nat} {xs : Nat → Int32} {pc : Nat} {ls : List (Option Value)} {st : List Value} {h h1 : pH}
theorem l_aload (C : LCx E p s m meth c b Ln xs) {i : Fin 4} {x : Nat} (hl : ls[i.val]? = some (some (.ref x))) (hd : decode code pc = .ok (.aload_n i, 1)) (k : GL E p e s m below meth c b (pc + 1) ls (.ref x :: st) h) : GL E p e s m below meth c b pc ls st h :=
  fun H locs L hS hP hL => lv_aload_n C.1.1 C.1.2.1 hd rfl (hL.get hl) (k H locs L hS hP hL)
theorem l_iload (C : LCx E p s m meth c b Ln xs) {i : Fin 4} {x : Int32} (hl : ls[i.val]? = some (some (.int x))) (hd : decode code pc = .ok (.iload_n i, 1)) (k : GL E p e s m below meth c b (pc + 1) ls (.int x :: st) h) : GL E p e s m below meth c b pc ls st h :=
  fun H locs L hS hP hL => lv_iload_n C.1.1 C.1.2.1 hd rfl (hL.get hl) (k H locs L hS hP hL)
theorem l_iconst (C : LCx E p s m meth c b Ln xs) {n : Int} {v : Int32} (hd : decode code pc = .ok (.iconst n, 1)) (hv : Int32.ofInt n = v) (k : GL E p e s m below meth c b (pc + 1) ls (.int v :: st) h) : GL E p e s m below meth c b pc ls st h :=
  fun H locs L hS hP hL => lv_iconst C.1.1 C.1.2.1 hd hv (k H locs L hS hP hL)
theorem l_bipush (C : LCx E p s m meth c b Ln xs) {n : Int} {v : Int32} (hd : decode code pc = .ok (.bipush n, 2)) (hv : (Int8.ofInt n).toInt32 = v) (k : GL E p e s m below meth c b (pc + 2) ls (.int v :: st) h) : GL E p e s m below meth c b pc ls st h :=
  fun H locs L hS hP hL => lv_bipush C.1.1 C.1.2.1 hd hv (k H locs L hS hP hL)
theorem l_iadd (C : LCx E p s m meth c b Ln xs) {x y v : Int32} (hv : x + y = v) (hd : decode code pc = .ok (.iadd, 1)) (k : GL E p e s m below meth c b (pc + 1) ls (.int v :: st) h) : GL E p e s m below meth c b pc ls (.int y :: .int x :: st) h := by
  subst hv
  exact fun H locs L hS hP hL => lv_iadd C.1.1 C.1.2.1 hd (k H locs L hS hP hL)
theorem l_isub (C : LCx E p s m meth c b Ln xs) {x y : Int32} (hd : decode code pc = .ok (.isub, 1)) (k : GL E p e s m below meth c b (pc + 1) ls (.int (x - y) :: st) h) : GL E p e s m below meth c b pc ls (.int y :: .int x :: st) h :=
  fun H locs L hS hP hL => lv_isub C.1.1 C.1.2.1 hd (k H locs L hS hP hL)
theorem l_iand (C : LCx E p s m meth c b Ln xs) {x y : Int32} (hd : decode code pc = .ok (.iand, 1)) (k : GL E p e s m below meth c b (pc + 1) ls (.int (x &&& y) :: st) h) : GL E p e s m below meth c b pc ls (.int y :: .int x :: st) h :=
  fun H locs L hS hP hL => lv_iand C.1.1 C.1.2.1 hd (k H locs L hS hP hL)
theorem l_goto (C : LCx E p s m meth c b Ln xs) {off : Int} {tgt : Nat} (hd : decode code pc = .ok (.goto off, 3)) (ht : (pc : Int) + off = (tgt : Int)) (k : GL E p e s m below meth c b tgt ls st h) : GL E p e s m below meth c b pc ls st h :=
  fun H locs L hS hP hL => lv_goto C.1.1 C.1.2.1 hd ht (k H locs L hS hP hL)
theorem l_icmp_gt (C : LCx E p s m meth c b Ln xs) {x y : Int32} {off : Int} {tgt : Nat} (hd : decode code pc = .ok (.if_icmp .gt off, 3)) (ht : (pc : Int) + off = (tgt : Int)) (kt : y < x → GL E p e s m below meth c b tgt ls st h) (kf : ¬ y < x → GL E p e s m below meth c b (pc + 3) ls st h) : GL E p e s m below meth c b pc ls (.int y :: .int x :: st) h :=
  fun H locs L hS hP hL => lv_icmp_gt C.1.1 C.1.2.1 hd ht (fun q => kt q H locs L hS hP hL) (fun q => kf q H locs L hS hP hL)
/-- the two answers are the same -/
theorem l_cmp (C : LCx E p s m meth c b Ln xs) {x : Int32} {off : Int} {tgt : Nat} (hd : decode code pc = .ok (.if_icmp .eq off, 3)) (ht : (pc : Int) + off = (tgt : Int)) (kt : GL E p e s m below meth c b tgt ls st h) : GL E p e s m below meth c b pc ls (.int x :: .int x :: st) h :=
  fun H locs L hS hP hL => lv_icmp_eq C.1.1 C.1.2.1 hd ht (fun _ => kt H locs L hS hP hL) (fun q => absurd rfl q)
theorem l_ifz (C : LCx E p s m meth c b Ln xs) {x : Int32} {off : Int} {tgt : Nat} (hd : decode code pc = .ok (.ifCond .eq off, 3)) (ht : (pc : Int) + off = (tgt : Int)) (kt : x = 0 → GL E p e s m below meth c b tgt ls st h) (kf : ¬ x = 0 → GL E p e s m below meth c b (pc + 3) ls st h) : GL E p e s m below meth c b pc ls (.int x :: st) h :=
  fun H locs L hS hP hL => lv_if_eq C.1.1 C.1.2.1 hd ht (fun q => kt q H locs L hS hP hL) (fun q => kf q H locs L hS hP hL)
/-- a number told as yes or no -/
theorem l_bool (C : LCx E p s m meth c b Ln xs) {x a : Int32} (ha : a = if x = 0 then 0 else 1) (d0 : decode code pc = .ok (.ifCond .eq 7, 3)) (d1 : decode code (pc + 3) = .ok (.iconst 1, 1)) (d2 : decode code (pc + 4) = .ok (.goto 4, 3)) (d3 : decode code (pc + 7) = .ok (.iconst 0, 1)) (k : GL E p e s m below meth c b (pc + 8) ls (.int a :: st) h) : GL E p e s m below meth c b pc ls (.int x :: st) h := by
  refine l_ifz C (off := 7) (tgt := pc + 7) d0 (by omega) (fun q => ?_) (fun q => ?_)
  · rw [if_pos q] at ha
    subst ha
    exact l_iconst C d3 rfl k
  · rw [if_neg q] at ha
    subst ha
    refine l_iconst C d1 rfl ?_
    exact l_goto C (off := 4) (tgt := pc + 8) d2 (by omega) k
theorem l_tableIn (C : LCx E p s m meth c b Ln xs) {d lo hi off : Int} {offs : Array Int} {len tgt : Nat} {x : Int32} (hd : decode code pc = .ok (.tableswitch d lo hi offs, len)) (h1 : ¬ x.toInt < lo) (h2 : ¬ hi < x.toInt) (ho : offs[(x.toInt - lo).toNat]? = some off) (ht : (pc : Int) + off = (tgt : Int)) (k : GL E p e s m below meth c b tgt ls st h) : GL E p e s m below meth c b pc ls (.int x :: st) h :=
  fun H locs L hS hP hL => lv_tableIn C.1.1 C.1.2.1 hd h1 h2 ho ht (k H locs L hS hP hL)
theorem l_tableOut (C : LCx E p s m meth c b Ln xs) {d lo hi : Int} {offs : Array Int} {len tgt : Nat} {x : Int32} (hd : decode code pc = .ok (.tableswitch d lo hi offs, len)) (h0 : x.toInt < lo ∨ hi < x.toInt) (ht : (pc : Int) + d = (tgt : Int)) (k : GL E p e s m below meth c b tgt ls st h) : GL E p e s m below meth c b pc ls (.int x :: st) h :=
  fun H locs L hS hP hL => lv_tableOut C.1.1 C.1.2.1 hd h0 ht (k H locs L hS hP hL)
theorem l_sld (C : LCx E p s m meth c b Ln xs) {j : Nat} (hj : j < Ln) (hj2 : j < 2 ^ 31) (hd : decode code pc = .ok (.iaload, 1)) (k : GL E p e s m below meth c b (pc + 1) ls (.int (xs j) :: st) h) : GL E p e s m below meth c b pc ls (.int (nI j) :: .ref 230 :: st) h := by
  intro H locs L hS hP hL
  obtain ⟨hx, hb, hr, hml, hown, hts, hX, hbl, hlocks, hgv⟩ := C.1
  show W _ _ _ _ _ _ _ _ _ _ _ _ _ _ _ (F0 m pc L (.int (nI j) :: .ref (eA E 230) :: st.map (vm (eA E))))
  rw [C.2.2.2]
  refine va_sld (i := nI j) hx hb hX hbl (Nat.not_le.mpr hbl) hS (by unfold vp_in; rw [nI_clamp hj2]; exact fun q => q.elim (nI_pos hj2) (fun q => by omega)) hd ?_
  rw [nI_clamp hj2]
  exact k H locs L hS hP hL
theorem l_slen (C : LCx E p s m meth c b Ln xs) (hd : decode code pc = .ok (.arraylength, 1)) (k : GL E p e s m below meth c b (pc + 1) ls (.int (nI Ln) :: st) h) : GL E p e s m below meth c b pc ls (.ref 230 :: st) h := by
  intro H locs L hS hP hL
  obtain ⟨hx, hb, hr, hml, hown, hts, hX, hbl, hlocks, hgv⟩ := C.1
  show W _ _ _ _ _ _ _ _ _ _ _ _ _ _ _ (F0 m pc L (.ref (eA E 230) :: st.map (vm (eA E))))
  rw [C.2.2.2]
  exact va_slen hx hb hX hbl (Nat.not_le.mpr hbl) hS hd (k H locs L hS hP hL)
theorem l_arg (C : LCx E p s m meth c b Ln xs) {j : Nat} (k : Nat) (hj : j + k < Ln ∧ Ln ≤ 3072) (hk : k ≤ 5) (hd : codeB code pc [.aload_n 0, .iload_n 3, .iconst k, .iadd, .iaload] = true) (kk : GL E p e s m below meth c b (pc + 5) (lawLs j) (.int (xs (j + k)) :: st) h) : GL E p e s m below meth c b pc (lawLs j) st h := by
  obtain ⟨d0, hd⟩ := codeB_c hd
  obtain ⟨d1, hd⟩ := codeB_c hd
  obtain ⟨d2, hd⟩ := codeB_c hd
  obtain ⟨d3, hd⟩ := codeB_c hd
  obtain ⟨d4, hd⟩ := codeB_c hd
  refine l_aload (i := 0) (x := 230) C rfl d0 ?_
  refine l_iload (i := 3) (x := nI j) C rfl d1 ?_
  refine l_iconst C (v := nI k) d2 rfl ?_
  refine l_iadd C (nI_add j k) d3 ?_
  exact l_sld C hj.1 (by omega) d4 kk
/-- the words of a call out of the law -/
def LkL (M' : MI) (i n : Nat) : Prop := Cond.methodLink "CloudDepthLaw" i (mY M') ∈ LT ∧ Cond.instanceMethod (mY M') ∈ LT ∧ Cond.selects (mO M') (mY M') (mY M') ∈ LT ∧ Cond.initialized (mO M') ∈ LT ∧ ((mY M').cls ≠ "java/lang/invoke/MethodHandle" ∧ (mY M').cls ≠ "java/lang/invoke/VarHandle" ∧ (parseMethodDescriptor (mY M').desc).map (fun d => d.parameters.length) = some n) ∧ (mRm M').frames + 1 ≤ 12 ∧ 8 + (mL M' + 11) + (mRm M').locals ≤ 482
theorem l_call (C : LCx E p s m meth c b Ln xs) {M' : MI} (hM' : MOK M') {i n o ci : Nat} {as : List Value} {v : Int32} (hlk : LkL M' i n) (ct : Ct E M' (.ref o :: as) h (some (.int v)) h1) (hn : as.length = n) (ho : ak o = 0 ∧ cx o = ci) (hci : (classes[ci]?).map (·.1) = some (mO M')) (hcat : (st.map fun v => v.category).sum ≤ 8) (hd : decode code pc = .ok (.invokevirtual i, 3)) {st0 : List Value} (hst : as.reverse ++ .ref o :: st = st0)
    (kk : GL E p e s m below meth c b (pc + 3) ls (.int v :: st) h1) : GL E p e s m below meth c b pc ls st0 h := by
  subst hst
  intro H locs L hS hP hL
  obtain ⟨⟨hx, hb, hr, hml, hown, hts, hX, hbl, hlocks, hgv⟩, hG, hlo, h230⟩ := C
  have hlt : o < NO := ob_lt (by rw [ho.1]; decide)
  have he := wl_at (ad := eA E) (tc := eC E) (h := h) hlt
  rw [cellE_0 ho.1, ho.2] at he
  obtain ⟨q, hq, hqn⟩ := Option.map_eq_some_iff.mp hci
  have hwA : ∀ q, wA (eA E) q → s.heap.size ≤ q := fun q ⟨o', h1, h2⟩ => by rw [h2]; exact hlo o' h1
  have hrun := va_runV (p := p) (l := eL E) (e := e) (R := room_1) (below := below) (meth := meth) (H := H) (locs := locs) (cells := lCells) (slots := lSlots) (g := F0 m pc L ((as.reverse ++ .ref o :: st).map (vm (eA E)))) (rest := st.map (vm (eA E))) (As := as.map (vm (eA E))) (b := eA E o) (C := mO M') (n := n) (bytes := mB M') (maxL := mL M') (ret := mR M') (index := i) (own := "CloudDepthLaw") (Ts := lw_tbl) (args := #[Value.ref b]) ⟨hx, hb, hml, hown, hts⟩ ct
    (cwV n hts ?_ rfl hM'.2.2.2.1 hM'.2.2.2.2.1 ⟨hM'.2.2.1, hlk.2.2.2.2.1⟩ hlk.2.2.2.2.2) ⟨pc_blind, ?_, fun U hU hW => ?_⟩ rfl (by rw [List.length_map]; exact hn) hL.1 ?_ (lv_room (by rw [cat_map]; exact hcat)) hd ⟨Nat.le_of_ble_eq_true rfl, Nat.le_of_ble_eq_true rfl⟩
  · intro T hT X
    obtain ⟨v', st₀, t, T', L1, h0, X', hL1, e1, e2, ⟨⟨hv, hp⟩, hz, hk⟩, stp⟩ := hrun T hT X
    cases hv
    rw [h0] at hz hk
    obtain ⟨t2, a1, b1⟩ := kk T'.heap (locs ++ L1) L
      ⟨Nat.le_trans hS.1 (by rw [e1]; exact hz), fun q h1 h2 => by rw [e1, hk q (Nat.lt_of_lt_of_le h1 hS.1) (fun z => h2 (hwA q z))]; exact hS.2.1 q h1 h2, fun q hq => by
        rcases List.mem_append.mp hq with h | h
        · exact hS.2.2 q h
        · exact hwA _ (hL1 q h)⟩ (by rw [PP, e1]; exact hp) hL T' rfl X'
    exact ⟨t2, stp t2 a1, b1⟩
  · intro w hw
    rcases List.mem_append.mp hw with hw | hw
    · have : w ∈ LT := by
        rcases List.mem_cons.mp hw with rfl | hw
        · exact hlk.1
        rcases List.mem_cons.mp hw with rfl | hw
        · exact hlk.2.1
        rcases List.mem_cons.mp hw with rfl | hw
        · exact hlk.2.2.1
        rcases List.mem_cons.mp hw with rfl | hw
        · exact hlk.2.2.2.1
        cases hw
      exact ⟨LT_tbl this, LT_good w this⟩
    · rcases List.mem_cons.mp hw with rfl | hw
      · exact ⟨LT_tbl hM'.2.1, LT_good _ hM'.2.1⟩
      · exact ⟨LT_tbl hw, LT_good _ hw⟩
  · have := va_recv hG.1 hP (ci := ci) (q0 := o) hq he
    rw [hqn] at this
    exact this
  · exact ⟨rfl, by rw [PP, hU]; exact hP, hG.moved hW (fun a ha hn => by rw [hU]; exact hS.2.1 a ha (Nat.not_le.mpr ha))⟩
  · show (as.reverse ++ .ref o :: st).map (vm (eA E)) = _
    rw [List.map_append, List.map_reverse]
    rfl
end GLL

def Sp_feed (J : Nat → pH → Prop) : Prop := ∀ (n : Nat) (h : pH), n < 512 → J n h → ∀ a0 a1 a2 a3 a4 : Int32, ∃ v : Int32, ∃ h1 : pH, ∃ h2 : pH, f_C_feed a0 a1 a2 a3 a4 h = some (v, h1) ∧ f_R_feed a0 a1 a2 a3 a4 h1 = some (v, h2) ∧ J (n + 1) h2
theorem wv_lC_feed : (Cond.methodLink "CloudDepthLaw" (13 : Nat) ({ cls := "CloudDepth", name := "feed", desc := "(IIIII)I" } : MethodName)) ∈ LT := mG (List.mem_append_right _ (List.mem_append_right _ (List.mem_append_left _ (List.mem_of_getElem? (l := tables_1_2) (i := 136) rfl)))) rfl
theorem wv_iC_feed : (Cond.instanceMethod ({ cls := "CloudDepth", name := "feed", desc := "(IIIII)I" } : MethodName)) ∈ LT := mG (List.mem_append_right _ (List.mem_append_right _ (List.mem_append_left _ (List.mem_of_getElem? (l := tables_1_2) (i := 137) rfl)))) rfl
theorem wv_sC_feed : (Cond.selects "CloudDepth" ({ cls := "CloudDepth", name := "feed", desc := "(IIIII)I" } : MethodName) ({ cls := "CloudDepth", name := "feed", desc := "(IIIII)I" } : MethodName)) ∈ LT := mG (List.mem_append_right _ (List.mem_append_right _ (List.mem_append_left _ (List.mem_of_getElem? (l := tables_1_2) (i := 138) rfl)))) rfl
theorem wv_lR_feed : (Cond.methodLink "CloudDepthLaw" (17 : Nat) ({ cls := "CloudDepthModel", name := "feed", desc := "(IIIII)I" } : MethodName)) ∈ LT := mG (List.mem_append_right _ (List.mem_append_right _ (List.mem_append_right _ (List.mem_append_right _ (List.mem_append_right _ (List.mem_append_left _ (List.mem_of_getElem? (l := tables_1_5) (i := 231) rfl))))))) rfl
theorem wv_iR_feed : (Cond.instanceMethod ({ cls := "CloudDepthModel", name := "feed", desc := "(IIIII)I" } : MethodName)) ∈ LT := mG (List.mem_append_right _ (List.mem_append_right _ (List.mem_append_right _ (List.mem_append_right _ (List.mem_append_right _ (List.mem_append_left _ (List.mem_of_getElem? (l := tables_1_5) (i := 232) rfl))))))) rfl
theorem wv_sR_feed : (Cond.selects "CloudDepthModel" ({ cls := "CloudDepthModel", name := "feed", desc := "(IIIII)I" } : MethodName) ({ cls := "CloudDepthModel", name := "feed", desc := "(IIIII)I" } : MethodName)) ∈ LT := mG (List.mem_append_right _ (List.mem_append_right _ (List.mem_append_right _ (List.mem_append_right _ (List.mem_append_right _ (List.mem_append_left _ (List.mem_of_getElem? (l := tables_1_5) (i := 233) rfl))))))) rfl
set_option maxHeartbeats 4000000 in
theorem lc_feed {E : pE} {p : Program} {e : Env} {s : State} {m : MethodId} {below : List Frame} {meth : Method} {c : Code} {b Ln : Nat} {xs : Nat → Int32} (C : LCx E p s m meth c b Ln xs) (hL : Ln ≤ 3072) {J : Nat → pH → Prop} (hsp : Sp_feed J) {n : Nat} (hn : 6 * n + 6 ≤ Ln) {h : pH} (hJ : J n h) (kk : ∀ h : pH, J (n + 1) h → GL E p e s m below meth c b 1219 (lawLs (6 * n)) [] h) : GL E p e s m below meth c b 188 (lawLs (6 * n)) [] h := by
  obtain ⟨v, h1, h2, hc, hr, hj⟩ := hsp n h (by omega) hJ (xs (6 * n + 1)) (xs (6 * n + 2)) (xs (6 * n + 3)) (xs (6 * n + 4)) (xs (6 * n + 5))
  refine l_aload (i := 1) C rfl (by decide +kernel) ?_
  refine l_arg C 1 ⟨by omega, hL⟩ (by decide) (by decide +kernel) ?_
  refine l_arg C 2 ⟨by omega, hL⟩ (by decide) (by decide +kernel) ?_
  refine l_arg C 3 ⟨by omega, hL⟩ (by decide) (by decide +kernel) ?_
  refine l_arg C 4 ⟨by omega, hL⟩ (by decide) (by decide +kernel) ?_
  refine l_arg C 5 ⟨by omega, hL⟩ (by decide) (by decide +kernel) ?_
  refine l_call C ok_C_feed (as := [.int (xs (6 * n + 1)), .int (xs (6 * n + 2)), .int (xs (6 * n + 3)), .int (xs (6 * n + 4)), .int (xs (6 * n + 5))]) (st := []) ⟨wv_lC_feed, wv_iC_feed, wv_sC_feed, wi_C, ds_C_feed, Nat.le_of_ble_eq_true rfl, Nat.le_of_ble_eq_true rfl⟩ (s_C_feed hc) rfl (o := 0) (ci := 11) ⟨rfl, rfl⟩ rfl (Nat.le_of_ble_eq_true rfl) (by decide +kernel) rfl ?_
  refine l_aload (i := 2) C rfl (by decide +kernel) ?_
  refine l_arg C 1 ⟨by omega, hL⟩ (by decide) (by decide +kernel) ?_
  refine l_arg C 2 ⟨by omega, hL⟩ (by decide) (by decide +kernel) ?_
  refine l_arg C 3 ⟨by omega, hL⟩ (by decide) (by decide +kernel) ?_
  refine l_arg C 4 ⟨by omega, hL⟩ (by decide) (by decide +kernel) ?_
  refine l_arg C 5 ⟨by omega, hL⟩ (by decide) (by decide +kernel) ?_
  refine l_call C ok_R_feed (as := [.int (xs (6 * n + 1)), .int (xs (6 * n + 2)), .int (xs (6 * n + 3)), .int (xs (6 * n + 4)), .int (xs (6 * n + 5))]) (st := [.int v]) ⟨wv_lR_feed, wv_iR_feed, wv_sR_feed, wi_R, ds_R_feed, Nat.le_of_ble_eq_true rfl, Nat.le_of_ble_eq_true rfl⟩ (s_R_feed hr) rfl (o := 79) (ci := 12) ⟨rfl, rfl⟩ rfl (Nat.le_of_ble_eq_true rfl) (by decide +kernel) rfl ?_
  refine l_cmp C (off := 973) (tgt := 1219) (by decide +kernel) (by decide) ?_
  exact kk _ hj
def Sp_back (J : Nat → pH → Prop) : Prop := ∀ (n : Nat) (h : pH), n < 512 → J n h → ∀ a0 : Int32, ∃ v : Int32, ∃ h1 : pH, ∃ h2 : pH, (f_C_back a0 h) = (v, h1) ∧ (f_R_back a0 h1) = (v, h2) ∧ J (n + 1) h2
theorem wv_lC_back : (Cond.methodLink "CloudDepthLaw" (18 : Nat) ({ cls := "CloudDepth", name := "back", desc := "(I)I" } : MethodName)) ∈ LT := mG (List.mem_append_right _ (List.mem_append_right _ (List.mem_append_left _ (List.mem_of_getElem? (l := tables_1_2) (i := 144) rfl)))) rfl
theorem wv_iC_back : (Cond.instanceMethod ({ cls := "CloudDepth", name := "back", desc := "(I)I" } : MethodName)) ∈ LT := mG (List.mem_append_right _ (List.mem_append_right _ (List.mem_append_left _ (List.mem_of_getElem? (l := tables_1_2) (i := 145) rfl)))) rfl
theorem wv_sC_back : (Cond.selects "CloudDepth" ({ cls := "CloudDepth", name := "back", desc := "(I)I" } : MethodName) ({ cls := "CloudDepth", name := "back", desc := "(I)I" } : MethodName)) ∈ LT := mG (List.mem_append_right _ (List.mem_append_right _ (List.mem_append_left _ (List.mem_of_getElem? (l := tables_1_2) (i := 146) rfl)))) rfl
theorem wv_lR_back : (Cond.methodLink "CloudDepthLaw" (22 : Nat) ({ cls := "CloudDepthModel", name := "back", desc := "(I)I" } : MethodName)) ∈ LT := mG (List.mem_append_right _ (List.mem_append_right _ (List.mem_append_right _ (List.mem_append_right _ (List.mem_append_right _ (List.mem_append_left _ (List.mem_of_getElem? (l := tables_1_5) (i := 239) rfl))))))) rfl
theorem wv_iR_back : (Cond.instanceMethod ({ cls := "CloudDepthModel", name := "back", desc := "(I)I" } : MethodName)) ∈ LT := mG (List.mem_append_right _ (List.mem_append_right _ (List.mem_append_right _ (List.mem_append_right _ (List.mem_append_right _ (List.mem_append_right _ (List.mem_append_left _ (List.mem_of_getElem? (l := tables_1_6) (i := 0) rfl)))))))) rfl
theorem wv_sR_back : (Cond.selects "CloudDepthModel" ({ cls := "CloudDepthModel", name := "back", desc := "(I)I" } : MethodName) ({ cls := "CloudDepthModel", name := "back", desc := "(I)I" } : MethodName)) ∈ LT := mG (List.mem_append_right _ (List.mem_append_right _ (List.mem_append_right _ (List.mem_append_right _ (List.mem_append_right _ (List.mem_append_right _ (List.mem_append_left _ (List.mem_of_getElem? (l := tables_1_6) (i := 1) rfl)))))))) rfl
set_option maxHeartbeats 4000000 in
theorem lc_back {E : pE} {p : Program} {e : Env} {s : State} {m : MethodId} {below : List Frame} {meth : Method} {c : Code} {b Ln : Nat} {xs : Nat → Int32} (C : LCx E p s m meth c b Ln xs) (hL : Ln ≤ 3072) {J : Nat → pH → Prop} (hsp : Sp_back J) {n : Nat} (hn : 6 * n + 6 ≤ Ln) {h : pH} (hJ : J n h) (kk : ∀ h : pH, J (n + 1) h → GL E p e s m below meth c b 1219 (lawLs (6 * n)) [] h) : GL E p e s m below meth c b 251 (lawLs (6 * n)) [] h := by
  obtain ⟨v, h1, h2, hc, hr, hj⟩ := hsp n h (by omega) hJ (xs (6 * n + 1))
  refine l_aload (i := 1) C rfl (by decide +kernel) ?_
  refine l_arg C 1 ⟨by omega, hL⟩ (by decide) (by decide +kernel) ?_
  refine l_call C ok_C_back (as := [.int (xs (6 * n + 1))]) (st := []) ⟨wv_lC_back, wv_iC_back, wv_sC_back, wi_C, ds_C_back, Nat.le_of_ble_eq_true rfl, Nat.le_of_ble_eq_true rfl⟩ (by have q := s_C_back (E := E) (x1 := (xs (6 * n + 1))) (h := h); rw [hc] at q; exact q) rfl (o := 0) (ci := 11) ⟨rfl, rfl⟩ rfl (Nat.le_of_ble_eq_true rfl) (by decide +kernel) rfl ?_
  refine l_aload (i := 2) C rfl (by decide +kernel) ?_
  refine l_arg C 1 ⟨by omega, hL⟩ (by decide) (by decide +kernel) ?_
  refine l_call C ok_R_back (as := [.int (xs (6 * n + 1))]) (st := [.int v]) ⟨wv_lR_back, wv_iR_back, wv_sR_back, wi_R, ds_R_back, Nat.le_of_ble_eq_true rfl, Nat.le_of_ble_eq_true rfl⟩ (by have q := s_R_back (E := E) (x1 := (xs (6 * n + 1))) (h := h1); rw [hr] at q; exact q) rfl (o := 79) (ci := 12) ⟨rfl, rfl⟩ rfl (Nat.le_of_ble_eq_true rfl) (by decide +kernel) rfl ?_
  refine l_cmp C (off := 950) (tgt := 1219) (by decide +kernel) (by decide) ?_
  exact kk _ hj
def Sp_read (J : Nat → pH → Prop) : Prop := ∀ (n : Nat) (h : pH), n < 512 → J n h → ∃ v : Int32, ∃ h1 : pH, ∃ h2 : pH, f_C_read h = some (v, h1) ∧ f_R_read h1 = some (v, h2) ∧ J (n + 1) h2
theorem wv_lC_read : (Cond.methodLink "CloudDepthLaw" (23 : Nat) ({ cls := "CloudDepth", name := "read", desc := "()I" } : MethodName)) ∈ LT := mG (List.mem_append_right _ (List.mem_append_right _ (List.mem_append_left _ (List.mem_of_getElem? (l := tables_1_2) (i := 148) rfl)))) rfl
theorem wv_iC_read : (Cond.instanceMethod ({ cls := "CloudDepth", name := "read", desc := "()I" } : MethodName)) ∈ LT := mG (List.mem_append_right _ (List.mem_append_right _ (List.mem_append_left _ (List.mem_of_getElem? (l := tables_1_2) (i := 149) rfl)))) rfl
theorem wv_sC_read : (Cond.selects "CloudDepth" ({ cls := "CloudDepth", name := "read", desc := "()I" } : MethodName) ({ cls := "CloudDepth", name := "read", desc := "()I" } : MethodName)) ∈ LT := mG (List.mem_append_right _ (List.mem_append_right _ (List.mem_append_left _ (List.mem_of_getElem? (l := tables_1_2) (i := 150) rfl)))) rfl
theorem wv_lR_read : (Cond.methodLink "CloudDepthLaw" (27 : Nat) ({ cls := "CloudDepthModel", name := "read", desc := "()I" } : MethodName)) ∈ LT := mG (List.mem_append_right _ (List.mem_append_right _ (List.mem_append_right _ (List.mem_append_right _ (List.mem_append_right _ (List.mem_append_right _ (List.mem_append_left _ (List.mem_of_getElem? (l := tables_1_6) (i := 3) rfl)))))))) rfl
theorem wv_iR_read : (Cond.instanceMethod ({ cls := "CloudDepthModel", name := "read", desc := "()I" } : MethodName)) ∈ LT := mG (List.mem_append_right _ (List.mem_append_right _ (List.mem_append_right _ (List.mem_append_right _ (List.mem_append_right _ (List.mem_append_right _ (List.mem_append_left _ (List.mem_of_getElem? (l := tables_1_6) (i := 4) rfl)))))))) rfl
theorem wv_sR_read : (Cond.selects "CloudDepthModel" ({ cls := "CloudDepthModel", name := "read", desc := "()I" } : MethodName) ({ cls := "CloudDepthModel", name := "read", desc := "()I" } : MethodName)) ∈ LT := mG (List.mem_append_right _ (List.mem_append_right _ (List.mem_append_right _ (List.mem_append_right _ (List.mem_append_right _ (List.mem_append_right _ (List.mem_append_left _ (List.mem_of_getElem? (l := tables_1_6) (i := 5) rfl)))))))) rfl
set_option maxHeartbeats 4000000 in
theorem lc_read {E : pE} {p : Program} {e : Env} {s : State} {m : MethodId} {below : List Frame} {meth : Method} {c : Code} {b Ln : Nat} {xs : Nat → Int32} (C : LCx E p s m meth c b Ln xs) (hL : Ln ≤ 3072) {J : Nat → pH → Prop} (hsp : Sp_read J) {n : Nat} (hn : 6 * n + 6 ≤ Ln) {h : pH} (hJ : J n h) (kk : ∀ h : pH, J (n + 1) h → GL E p e s m below meth c b 1219 (lawLs (6 * n)) [] h) : GL E p e s m below meth c b 274 (lawLs (6 * n)) [] h := by
  obtain ⟨v, h1, h2, hc, hr, hj⟩ := hsp n h (by omega) hJ
  refine l_aload (i := 1) C rfl (by decide +kernel) ?_
  refine l_call C ok_C_read (as := []) (st := []) ⟨wv_lC_read, wv_iC_read, wv_sC_read, wi_C, ds_C_read, Nat.le_of_ble_eq_true rfl, Nat.le_of_ble_eq_true rfl⟩ (s_C_read hc) rfl (o := 0) (ci := 11) ⟨rfl, rfl⟩ rfl (Nat.le_of_ble_eq_true rfl) (by decide +kernel) rfl ?_
  refine l_aload (i := 2) C rfl (by decide +kernel) ?_
  refine l_call C ok_R_read (as := []) (st := [.int v]) ⟨wv_lR_read, wv_iR_read, wv_sR_read, wi_R, ds_R_read, Nat.le_of_ble_eq_true rfl, Nat.le_of_ble_eq_true rfl⟩ (s_R_read hr) rfl (o := 79) (ci := 12) ⟨rfl, rfl⟩ rfl (Nat.le_of_ble_eq_true rfl) (by decide +kernel) rfl ?_
  refine l_cmp C (off := 937) (tgt := 1219) (by decide +kernel) (by decide) ?_
  exact kk _ hj
def Sp_place (J : Nat → pH → Prop) : Prop := ∀ (n : Nat) (h : pH), n < 512 → J n h → ∃ v : Int32, (f_C_place h) = v ∧ (f_R_place h) = v ∧ J (n + 1) h
theorem wv_lC_place : (Cond.methodLink "CloudDepthLaw" (28 : Nat) ({ cls := "CloudDepth", name := "place", desc := "()I" } : MethodName)) ∈ LT := mG (List.mem_append_right _ (List.mem_append_right _ (List.mem_append_right _ (List.mem_append_left _ (List.mem_of_getElem? (l := tables_1_3) (i := 66) rfl))))) rfl
theorem wv_iC_place : (Cond.instanceMethod ({ cls := "CloudDepth", name := "place", desc := "()I" } : MethodName)) ∈ LT := mG (List.mem_append_right _ (List.mem_append_right _ (List.mem_append_right _ (List.mem_append_left _ (List.mem_of_getElem? (l := tables_1_3) (i := 67) rfl))))) rfl
theorem wv_sC_place : (Cond.selects "CloudDepth" ({ cls := "CloudDepth", name := "place", desc := "()I" } : MethodName) ({ cls := "CloudDepth", name := "place", desc := "()I" } : MethodName)) ∈ LT := mG (List.mem_append_right _ (List.mem_append_right _ (List.mem_append_right _ (List.mem_append_left _ (List.mem_of_getElem? (l := tables_1_3) (i := 68) rfl))))) rfl
theorem wv_lR_place : (Cond.methodLink "CloudDepthLaw" (31 : Nat) ({ cls := "CloudDepthModel", name := "place", desc := "()I" } : MethodName)) ∈ LT := mG (List.mem_append_right _ (List.mem_append_right _ (List.mem_append_right _ (List.mem_append_right _ (List.mem_append_right _ (List.mem_append_right _ (List.mem_append_left _ (List.mem_of_getElem? (l := tables_1_6) (i := 68) rfl)))))))) rfl
theorem wv_iR_place : (Cond.instanceMethod ({ cls := "CloudDepthModel", name := "place", desc := "()I" } : MethodName)) ∈ LT := mG (List.mem_append_right _ (List.mem_append_right _ (List.mem_append_right _ (List.mem_append_right _ (List.mem_append_right _ (List.mem_append_right _ (List.mem_append_left _ (List.mem_of_getElem? (l := tables_1_6) (i := 69) rfl)))))))) rfl
theorem wv_sR_place : (Cond.selects "CloudDepthModel" ({ cls := "CloudDepthModel", name := "place", desc := "()I" } : MethodName) ({ cls := "CloudDepthModel", name := "place", desc := "()I" } : MethodName)) ∈ LT := mG (List.mem_append_right _ (List.mem_append_right _ (List.mem_append_right _ (List.mem_append_right _ (List.mem_append_right _ (List.mem_append_right _ (List.mem_append_left _ (List.mem_of_getElem? (l := tables_1_6) (i := 70) rfl)))))))) rfl
set_option maxHeartbeats 4000000 in
theorem lc_place {E : pE} {p : Program} {e : Env} {s : State} {m : MethodId} {below : List Frame} {meth : Method} {c : Code} {b Ln : Nat} {xs : Nat → Int32} (C : LCx E p s m meth c b Ln xs) (hL : Ln ≤ 3072) {J : Nat → pH → Prop} (hsp : Sp_place J) {n : Nat} (hn : 6 * n + 6 ≤ Ln) {h : pH} (hJ : J n h) (kk : ∀ h : pH, J (n + 1) h → GL E p e s m below meth c b 1219 (lawLs (6 * n)) [] h) : GL E p e s m below meth c b 287 (lawLs (6 * n)) [] h := by
  obtain ⟨v, hc, hr, hj⟩ := hsp n h (by omega) hJ
  refine l_aload (i := 1) C rfl (by decide +kernel) ?_
  refine l_call C ok_C_place (as := []) (st := []) ⟨wv_lC_place, wv_iC_place, wv_sC_place, wi_C, ds_C_place, Nat.le_of_ble_eq_true rfl, Nat.le_of_ble_eq_true rfl⟩ (by have q := s_C_place (E := E) (h := h); rw [hc] at q; exact q) rfl (o := 0) (ci := 11) ⟨rfl, rfl⟩ rfl (Nat.le_of_ble_eq_true rfl) (by decide +kernel) rfl ?_
  refine l_aload (i := 2) C rfl (by decide +kernel) ?_
  refine l_call C ok_R_place (as := []) (st := [.int v]) ⟨wv_lR_place, wv_iR_place, wv_sR_place, wi_R, ds_R_place, Nat.le_of_ble_eq_true rfl, Nat.le_of_ble_eq_true rfl⟩ (by have q := s_R_place (E := E) (h := h); rw [hr] at q; exact q) rfl (o := 79) (ci := 12) ⟨rfl, rfl⟩ rfl (Nat.le_of_ble_eq_true rfl) (by decide +kernel) rfl ?_
  refine l_cmp C (off := 924) (tgt := 1219) (by decide +kernel) (by decide) ?_
  exact kk _ hj
def Sp_add (J : Nat → pH → Prop) : Prop := ∀ (n : Nat) (h : pH), n < 512 → J n h → ∀ a0 a1 : Int32, ∃ v : Int32, ∃ h1 : pH, ∃ h2 : pH, f_C_add a0 a1 h = some (v, h1) ∧ f_R_add a0 a1 h1 = some (v, h2) ∧ J (n + 1) h2
theorem wv_lC_add : (Cond.methodLink "CloudDepthLaw" (32 : Nat) ({ cls := "CloudDepth", name := "add", desc := "(II)I" } : MethodName)) ∈ LT := mG (List.mem_append_right _ (List.mem_append_right _ (List.mem_append_right _ (List.mem_append_left _ (List.mem_of_getElem? (l := tables_1_3) (i := 70) rfl))))) rfl
theorem wv_iC_add : (Cond.instanceMethod ({ cls := "CloudDepth", name := "add", desc := "(II)I" } : MethodName)) ∈ LT := mG (List.mem_append_right _ (List.mem_append_right _ (List.mem_append_right _ (List.mem_append_left _ (List.mem_of_getElem? (l := tables_1_3) (i := 71) rfl))))) rfl
theorem wv_sC_add : (Cond.selects "CloudDepth" ({ cls := "CloudDepth", name := "add", desc := "(II)I" } : MethodName) ({ cls := "CloudDepth", name := "add", desc := "(II)I" } : MethodName)) ∈ LT := mG (List.mem_append_right _ (List.mem_append_right _ (List.mem_append_right _ (List.mem_append_left _ (List.mem_of_getElem? (l := tables_1_3) (i := 72) rfl))))) rfl
theorem wv_lR_add : (Cond.methodLink "CloudDepthLaw" (36 : Nat) ({ cls := "CloudDepthModel", name := "add", desc := "(II)I" } : MethodName)) ∈ LT := mG (List.mem_append_right _ (List.mem_append_right _ (List.mem_append_right _ (List.mem_append_right _ (List.mem_append_right _ (List.mem_append_right _ (List.mem_append_left _ (List.mem_of_getElem? (l := tables_1_6) (i := 84) rfl)))))))) rfl
theorem wv_iR_add : (Cond.instanceMethod ({ cls := "CloudDepthModel", name := "add", desc := "(II)I" } : MethodName)) ∈ LT := mG (List.mem_append_right _ (List.mem_append_right _ (List.mem_append_right _ (List.mem_append_right _ (List.mem_append_right _ (List.mem_append_right _ (List.mem_append_left _ (List.mem_of_getElem? (l := tables_1_6) (i := 85) rfl)))))))) rfl
theorem wv_sR_add : (Cond.selects "CloudDepthModel" ({ cls := "CloudDepthModel", name := "add", desc := "(II)I" } : MethodName) ({ cls := "CloudDepthModel", name := "add", desc := "(II)I" } : MethodName)) ∈ LT := mG (List.mem_append_right _ (List.mem_append_right _ (List.mem_append_right _ (List.mem_append_right _ (List.mem_append_right _ (List.mem_append_right _ (List.mem_append_left _ (List.mem_of_getElem? (l := tables_1_6) (i := 86) rfl)))))))) rfl
set_option maxHeartbeats 4000000 in
theorem lc_add {E : pE} {p : Program} {e : Env} {s : State} {m : MethodId} {below : List Frame} {meth : Method} {c : Code} {b Ln : Nat} {xs : Nat → Int32} (C : LCx E p s m meth c b Ln xs) (hL : Ln ≤ 3072) {J : Nat → pH → Prop} (hsp : Sp_add J) {n : Nat} (hn : 6 * n + 6 ≤ Ln) {h : pH} (hJ : J n h) (kk : ∀ h : pH, J (n + 1) h → GL E p e s m below meth c b 1219 (lawLs (6 * n)) [] h) : GL E p e s m below meth c b 300 (lawLs (6 * n)) [] h := by
  obtain ⟨v, h1, h2, hc, hr, hj⟩ := hsp n h (by omega) hJ (xs (6 * n + 1)) (xs (6 * n + 2))
  refine l_aload (i := 1) C rfl (by decide +kernel) ?_
  refine l_arg C 1 ⟨by omega, hL⟩ (by decide) (by decide +kernel) ?_
  refine l_arg C 2 ⟨by omega, hL⟩ (by decide) (by decide +kernel) ?_
  refine l_call C ok_C_add (as := [.int (xs (6 * n + 1)), .int (xs (6 * n + 2))]) (st := []) ⟨wv_lC_add, wv_iC_add, wv_sC_add, wi_C, ds_C_add, Nat.le_of_ble_eq_true rfl, Nat.le_of_ble_eq_true rfl⟩ (s_C_add hc) rfl (o := 0) (ci := 11) ⟨rfl, rfl⟩ rfl (Nat.le_of_ble_eq_true rfl) (by decide +kernel) rfl ?_
  refine l_aload (i := 2) C rfl (by decide +kernel) ?_
  refine l_arg C 1 ⟨by omega, hL⟩ (by decide) (by decide +kernel) ?_
  refine l_arg C 2 ⟨by omega, hL⟩ (by decide) (by decide +kernel) ?_
  refine l_call C ok_R_add (as := [.int (xs (6 * n + 1)), .int (xs (6 * n + 2))]) (st := [.int v]) ⟨wv_lR_add, wv_iR_add, wv_sR_add, wi_R, ds_R_add, Nat.le_of_ble_eq_true rfl, Nat.le_of_ble_eq_true rfl⟩ (s_R_add hr) rfl (o := 79) (ci := 12) ⟨rfl, rfl⟩ rfl (Nat.le_of_ble_eq_true rfl) (by decide +kernel) rfl ?_
  refine l_cmp C (off := 891) (tgt := 1219) (by decide +kernel) (by decide) ?_
  exact kk _ hj
def Sp_goes (J : Nat → pH → Prop) : Prop := ∀ (n : Nat) (h : pH), n < 512 → J n h → ∀ a0 : Int32, ∃ v : Int32, ∃ h1 : pH, ∃ h2 : pH, f_C_goes a0 h = some (v, h1) ∧ f_R_goes a0 h1 = some (v, h2) ∧ J (n + 1) h2
theorem wv_lC_goes : (Cond.methodLink "CloudDepthLaw" (37 : Nat) ({ cls := "CloudDepth", name := "goes", desc := "(I)Z" } : MethodName)) ∈ LT := mG (List.mem_append_right _ (List.mem_append_right _ (List.mem_append_right _ (List.mem_append_left _ (List.mem_of_getElem? (l := tables_1_3) (i := 87) rfl))))) rfl
theorem wv_iC_goes : (Cond.instanceMethod ({ cls := "CloudDepth", name := "goes", desc := "(I)Z" } : MethodName)) ∈ LT := mG (List.mem_append_right _ (List.mem_append_right _ (List.mem_append_right _ (List.mem_append_left _ (List.mem_of_getElem? (l := tables_1_3) (i := 88) rfl))))) rfl
theorem wv_sC_goes : (Cond.selects "CloudDepth" ({ cls := "CloudDepth", name := "goes", desc := "(I)Z" } : MethodName) ({ cls := "CloudDepth", name := "goes", desc := "(I)Z" } : MethodName)) ∈ LT := mG (List.mem_append_right _ (List.mem_append_right _ (List.mem_append_right _ (List.mem_append_left _ (List.mem_of_getElem? (l := tables_1_3) (i := 89) rfl))))) rfl
theorem wv_lR_goes : (Cond.methodLink "CloudDepthLaw" (41 : Nat) ({ cls := "CloudDepthModel", name := "goes", desc := "(I)Z" } : MethodName)) ∈ LT := mG (List.mem_append_right _ (List.mem_append_right _ (List.mem_append_right _ (List.mem_append_right _ (List.mem_append_right _ (List.mem_append_right _ (List.mem_append_left _ (List.mem_of_getElem? (l := tables_1_6) (i := 116) rfl)))))))) rfl
theorem wv_iR_goes : (Cond.instanceMethod ({ cls := "CloudDepthModel", name := "goes", desc := "(I)Z" } : MethodName)) ∈ LT := mG (List.mem_append_right _ (List.mem_append_right _ (List.mem_append_right _ (List.mem_append_right _ (List.mem_append_right _ (List.mem_append_right _ (List.mem_append_left _ (List.mem_of_getElem? (l := tables_1_6) (i := 117) rfl)))))))) rfl
theorem wv_sR_goes : (Cond.selects "CloudDepthModel" ({ cls := "CloudDepthModel", name := "goes", desc := "(I)Z" } : MethodName) ({ cls := "CloudDepthModel", name := "goes", desc := "(I)Z" } : MethodName)) ∈ LT := mG (List.mem_append_right _ (List.mem_append_right _ (List.mem_append_right _ (List.mem_append_right _ (List.mem_append_right _ (List.mem_append_right _ (List.mem_append_left _ (List.mem_of_getElem? (l := tables_1_6) (i := 118) rfl)))))))) rfl
set_option maxHeartbeats 4000000 in
theorem lc_goes {E : pE} {p : Program} {e : Env} {s : State} {m : MethodId} {below : List Frame} {meth : Method} {c : Code} {b Ln : Nat} {xs : Nat → Int32} (C : LCx E p s m meth c b Ln xs) (hL : Ln ≤ 3072) {J : Nat → pH → Prop} (hsp : Sp_goes J) {n : Nat} (hn : 6 * n + 6 ≤ Ln) {h : pH} (hJ : J n h) (kk : ∀ h : pH, J (n + 1) h → GL E p e s m below meth c b 1219 (lawLs (6 * n)) [] h) : GL E p e s m below meth c b 333 (lawLs (6 * n)) [] h := by
  obtain ⟨v, h1, h2, hc, hr, hj⟩ := hsp n h (by omega) hJ (xs (6 * n + 1))
  refine l_aload (i := 1) C rfl (by decide +kernel) ?_
  refine l_arg C 1 ⟨by omega, hL⟩ (by decide) (by decide +kernel) ?_
  refine l_call C ok_C_goes (as := [.int (xs (6 * n + 1))]) (st := []) ⟨wv_lC_goes, wv_iC_goes, wv_sC_goes, wi_C, ds_C_goes, Nat.le_of_ble_eq_true rfl, Nat.le_of_ble_eq_true rfl⟩ (s_C_goes hc) rfl (o := 0) (ci := 11) ⟨rfl, rfl⟩ rfl (Nat.le_of_ble_eq_true rfl) (by decide +kernel) rfl ?_
  refine l_aload (i := 2) C rfl (by decide +kernel) ?_
  refine l_arg C 1 ⟨by omega, hL⟩ (by decide) (by decide +kernel) ?_
  refine l_call C ok_R_goes (as := [.int (xs (6 * n + 1))]) (st := [.int v]) ⟨wv_lR_goes, wv_iR_goes, wv_sR_goes, wi_R, ds_R_goes, Nat.le_of_ble_eq_true rfl, Nat.le_of_ble_eq_true rfl⟩ (s_R_goes hr) rfl (o := 79) (ci := 12) ⟨rfl, rfl⟩ rfl (Nat.le_of_ble_eq_true rfl) (by decide +kernel) rfl ?_
  refine l_cmp C (off := 868) (tgt := 1219) (by decide +kernel) (by decide) ?_
  exact kk _ hj
def Sp_move (J : Nat → pH → Prop) : Prop := ∀ (n : Nat) (h : pH), n < 512 → J n h → ∀ a0 a1 a2 : Int32, ∃ v : Int32, ∃ h1 : pH, ∃ h2 : pH, f_C_move a0 a1 a2 h = some (v, h1) ∧ f_R_move a0 a1 a2 h1 = some (v, h2) ∧ J (n + 1) h2
theorem wv_lC_move : (Cond.methodLink "CloudDepthLaw" (42 : Nat) ({ cls := "CloudDepth", name := "move", desc := "(III)Z" } : MethodName)) ∈ LT := mG (List.mem_append_right _ (List.mem_append_right _ (List.mem_append_right _ (List.mem_append_left _ (List.mem_of_getElem? (l := tables_1_3) (i := 100) rfl))))) rfl
theorem wv_iC_move : (Cond.instanceMethod ({ cls := "CloudDepth", name := "move", desc := "(III)Z" } : MethodName)) ∈ LT := mG (List.mem_append_right _ (List.mem_append_right _ (List.mem_append_right _ (List.mem_append_left _ (List.mem_of_getElem? (l := tables_1_3) (i := 101) rfl))))) rfl
theorem wv_sC_move : (Cond.selects "CloudDepth" ({ cls := "CloudDepth", name := "move", desc := "(III)Z" } : MethodName) ({ cls := "CloudDepth", name := "move", desc := "(III)Z" } : MethodName)) ∈ LT := mG (List.mem_append_right _ (List.mem_append_right _ (List.mem_append_right _ (List.mem_append_left _ (List.mem_of_getElem? (l := tables_1_3) (i := 102) rfl))))) rfl
theorem wv_lR_move : (Cond.methodLink "CloudDepthLaw" (46 : Nat) ({ cls := "CloudDepthModel", name := "move", desc := "(III)Z" } : MethodName)) ∈ LT := mG (List.mem_append_right _ (List.mem_append_right _ (List.mem_append_right _ (List.mem_append_right _ (List.mem_append_right _ (List.mem_append_right _ (List.mem_append_left _ (List.mem_of_getElem? (l := tables_1_6) (i := 124) rfl)))))))) rfl
theorem wv_iR_move : (Cond.instanceMethod ({ cls := "CloudDepthModel", name := "move", desc := "(III)Z" } : MethodName)) ∈ LT := mG (List.mem_append_right _ (List.mem_append_right _ (List.mem_append_right _ (List.mem_append_right _ (List.mem_append_right _ (List.mem_append_right _ (List.mem_append_left _ (List.mem_of_getElem? (l := tables_1_6) (i := 125) rfl)))))))) rfl
theorem wv_sR_move : (Cond.selects "CloudDepthModel" ({ cls := "CloudDepthModel", name := "move", desc := "(III)Z" } : MethodName) ({ cls := "CloudDepthModel", name := "move", desc := "(III)Z" } : MethodName)) ∈ LT := mG (List.mem_append_right _ (List.mem_append_right _ (List.mem_append_right _ (List.mem_append_right _ (List.mem_append_right _ (List.mem_append_right _ (List.mem_append_left _ (List.mem_of_getElem? (l := tables_1_6) (i := 126) rfl)))))))) rfl
set_option maxHeartbeats 4000000 in
theorem lc_move {E : pE} {p : Program} {e : Env} {s : State} {m : MethodId} {below : List Frame} {meth : Method} {c : Code} {b Ln : Nat} {xs : Nat → Int32} (C : LCx E p s m meth c b Ln xs) (hL : Ln ≤ 3072) {J : Nat → pH → Prop} (hsp : Sp_move J) {n : Nat} (hn : 6 * n + 6 ≤ Ln) {h : pH} (hJ : J n h) (kk : ∀ h : pH, J (n + 1) h → GL E p e s m below meth c b 1219 (lawLs (6 * n)) [] h) : GL E p e s m below meth c b 356 (lawLs (6 * n)) [] h := by
  obtain ⟨v, h1, h2, hc, hr, hj⟩ := hsp n h (by omega) hJ (xs (6 * n + 1)) (xs (6 * n + 2)) (xs (6 * n + 3))
  refine l_aload (i := 1) C rfl (by decide +kernel) ?_
  refine l_arg C 1 ⟨by omega, hL⟩ (by decide) (by decide +kernel) ?_
  refine l_arg C 2 ⟨by omega, hL⟩ (by decide) (by decide +kernel) ?_
  refine l_arg C 3 ⟨by omega, hL⟩ (by decide) (by decide +kernel) ?_
  refine l_call C ok_C_move (as := [.int (xs (6 * n + 1)), .int (xs (6 * n + 2)), .int (xs (6 * n + 3))]) (st := []) ⟨wv_lC_move, wv_iC_move, wv_sC_move, wi_C, ds_C_move, Nat.le_of_ble_eq_true rfl, Nat.le_of_ble_eq_true rfl⟩ (s_C_move hc) rfl (o := 0) (ci := 11) ⟨rfl, rfl⟩ rfl (Nat.le_of_ble_eq_true rfl) (by decide +kernel) rfl ?_
  refine l_aload (i := 2) C rfl (by decide +kernel) ?_
  refine l_arg C 1 ⟨by omega, hL⟩ (by decide) (by decide +kernel) ?_
  refine l_arg C 2 ⟨by omega, hL⟩ (by decide) (by decide +kernel) ?_
  refine l_arg C 3 ⟨by omega, hL⟩ (by decide) (by decide +kernel) ?_
  refine l_call C ok_R_move (as := [.int (xs (6 * n + 1)), .int (xs (6 * n + 2)), .int (xs (6 * n + 3))]) (st := [.int v]) ⟨wv_lR_move, wv_iR_move, wv_sR_move, wi_R, ds_R_move, Nat.le_of_ble_eq_true rfl, Nat.le_of_ble_eq_true rfl⟩ (s_R_move hr) rfl (o := 79) (ci := 12) ⟨rfl, rfl⟩ rfl (Nat.le_of_ble_eq_true rfl) (by decide +kernel) rfl ?_
  refine l_cmp C (off := 825) (tgt := 1219) (by decide +kernel) (by decide) ?_
  exact kk _ hj
def Sp_turn (J : Nat → pH → Prop) : Prop := ∀ (n : Nat) (h : pH), n < 512 → J n h → ∀ a0 : Int32, (a0 = 0 ∨ a0 = 1) → ∃ v : Int32, ∃ h1 : pH, ∃ h2 : pH, f_C_turn a0 h = some (v, h1) ∧ f_R_turn a0 h1 = some (v, h2) ∧ J (n + 1) h2
theorem wv_lC_turn : (Cond.methodLink "CloudDepthLaw" (47 : Nat) ({ cls := "CloudDepth", name := "turn", desc := "(Z)Z" } : MethodName)) ∈ LT := mG (List.mem_append_right _ (List.mem_append_right _ (List.mem_append_right _ (List.mem_append_left _ (List.mem_of_getElem? (l := tables_1_3) (i := 108) rfl))))) rfl
theorem wv_iC_turn : (Cond.instanceMethod ({ cls := "CloudDepth", name := "turn", desc := "(Z)Z" } : MethodName)) ∈ LT := mG (List.mem_append_right _ (List.mem_append_right _ (List.mem_append_right _ (List.mem_append_left _ (List.mem_of_getElem? (l := tables_1_3) (i := 109) rfl))))) rfl
theorem wv_sC_turn : (Cond.selects "CloudDepth" ({ cls := "CloudDepth", name := "turn", desc := "(Z)Z" } : MethodName) ({ cls := "CloudDepth", name := "turn", desc := "(Z)Z" } : MethodName)) ∈ LT := mG (List.mem_append_right _ (List.mem_append_right _ (List.mem_append_right _ (List.mem_append_left _ (List.mem_of_getElem? (l := tables_1_3) (i := 110) rfl))))) rfl
theorem wv_lR_turn : (Cond.methodLink "CloudDepthLaw" (51 : Nat) ({ cls := "CloudDepthModel", name := "turn", desc := "(Z)Z" } : MethodName)) ∈ LT := mG (List.mem_append_right _ (List.mem_append_right _ (List.mem_append_right _ (List.mem_append_right _ (List.mem_append_right _ (List.mem_append_right _ (List.mem_append_left _ (List.mem_of_getElem? (l := tables_1_6) (i := 128) rfl)))))))) rfl
theorem wv_iR_turn : (Cond.instanceMethod ({ cls := "CloudDepthModel", name := "turn", desc := "(Z)Z" } : MethodName)) ∈ LT := mG (List.mem_append_right _ (List.mem_append_right _ (List.mem_append_right _ (List.mem_append_right _ (List.mem_append_right _ (List.mem_append_right _ (List.mem_append_left _ (List.mem_of_getElem? (l := tables_1_6) (i := 129) rfl)))))))) rfl
theorem wv_sR_turn : (Cond.selects "CloudDepthModel" ({ cls := "CloudDepthModel", name := "turn", desc := "(Z)Z" } : MethodName) ({ cls := "CloudDepthModel", name := "turn", desc := "(Z)Z" } : MethodName)) ∈ LT := mG (List.mem_append_right _ (List.mem_append_right _ (List.mem_append_right _ (List.mem_append_right _ (List.mem_append_right _ (List.mem_append_right _ (List.mem_append_left _ (List.mem_of_getElem? (l := tables_1_6) (i := 130) rfl)))))))) rfl
set_option maxHeartbeats 4000000 in
theorem lc_turn {E : pE} {p : Program} {e : Env} {s : State} {m : MethodId} {below : List Frame} {meth : Method} {c : Code} {b Ln : Nat} {xs : Nat → Int32} (C : LCx E p s m meth c b Ln xs) (hL : Ln ≤ 3072) {J : Nat → pH → Prop} (hsp : Sp_turn J) {n : Nat} (hn : 6 * n + 6 ≤ Ln) {h : pH} (hJ : J n h) (kk : ∀ h : pH, J (n + 1) h → GL E p e s m below meth c b 1219 (lawLs (6 * n)) [] h) : GL E p e s m below meth c b 399 (lawLs (6 * n)) [] h := by
  obtain ⟨a0, ha0⟩ : ∃ a : Int32, a = if xs (6 * n + 1) = 0 then 0 else 1 := ⟨_, rfl⟩
  have hz : a0 = 0 ∨ a0 = 1 := by rw [ha0]; split <;> simp
  obtain ⟨v, h1, h2, hc, hr, hj⟩ := hsp n h (by omega) hJ a0 hz
  refine l_aload (i := 1) C rfl (by decide +kernel) ?_
  refine l_arg C 1 ⟨by omega, hL⟩ (by decide) (by decide +kernel) ?_
  refine l_bool C ha0 (by decide +kernel) (by decide +kernel) (by decide +kernel) (by decide +kernel) ?_
  refine l_call C ok_C_turn (as := [.int a0]) (st := []) ⟨wv_lC_turn, wv_iC_turn, wv_sC_turn, wi_C, ds_C_turn, Nat.le_of_ble_eq_true rfl, Nat.le_of_ble_eq_true rfl⟩ (s_C_turn hc) rfl (o := 0) (ci := 11) ⟨rfl, rfl⟩ rfl (Nat.le_of_ble_eq_true rfl) (by decide +kernel) rfl ?_
  refine l_aload (i := 2) C rfl (by decide +kernel) ?_
  refine l_arg C 1 ⟨by omega, hL⟩ (by decide) (by decide +kernel) ?_
  refine l_bool C ha0 (by decide +kernel) (by decide +kernel) (by decide +kernel) (by decide +kernel) ?_
  refine l_call C ok_R_turn (as := [.int a0]) (st := [.int v]) ⟨wv_lR_turn, wv_iR_turn, wv_sR_turn, wi_R, ds_R_turn, Nat.le_of_ble_eq_true rfl, Nat.le_of_ble_eq_true rfl⟩ (s_R_turn hr) rfl (o := 79) (ci := 12) ⟨rfl, rfl⟩ rfl (Nat.le_of_ble_eq_true rfl) (by decide +kernel) rfl ?_
  refine l_cmp C (off := 786) (tgt := 1219) (by decide +kernel) (by decide) ?_
  exact kk _ hj
def Sp_undo (J : Nat → pH → Prop) : Prop := ∀ (n : Nat) (h : pH), n < 512 → J n h → ∃ v : Int32, ∃ h1 : pH, ∃ h2 : pH, f_C_undo h = some (v, h1) ∧ f_R_undo h1 = some (v, h2) ∧ J (n + 1) h2
theorem wv_lC_undo : (Cond.methodLink "CloudDepthLaw" (52 : Nat) ({ cls := "CloudDepth", name := "undo", desc := "()Z" } : MethodName)) ∈ LT := mG (List.mem_append_right _ (List.mem_append_right _ (List.mem_append_right _ (List.mem_append_left _ (List.mem_of_getElem? (l := tables_1_3) (i := 121) rfl))))) rfl
theorem wv_iC_undo : (Cond.instanceMethod ({ cls := "CloudDepth", name := "undo", desc := "()Z" } : MethodName)) ∈ LT := mG (List.mem_append_right _ (List.mem_append_right _ (List.mem_append_right _ (List.mem_append_left _ (List.mem_of_getElem? (l := tables_1_3) (i := 122) rfl))))) rfl
theorem wv_sC_undo : (Cond.selects "CloudDepth" ({ cls := "CloudDepth", name := "undo", desc := "()Z" } : MethodName) ({ cls := "CloudDepth", name := "undo", desc := "()Z" } : MethodName)) ∈ LT := mG (List.mem_append_right _ (List.mem_append_right _ (List.mem_append_right _ (List.mem_append_left _ (List.mem_of_getElem? (l := tables_1_3) (i := 123) rfl))))) rfl
theorem wv_lR_undo : (Cond.methodLink "CloudDepthLaw" (56 : Nat) ({ cls := "CloudDepthModel", name := "undo", desc := "()Z" } : MethodName)) ∈ LT := mG (List.mem_append_right _ (List.mem_append_right _ (List.mem_append_right _ (List.mem_append_right _ (List.mem_append_right _ (List.mem_append_right _ (List.mem_append_left _ (List.mem_of_getElem? (l := tables_1_6) (i := 72) rfl)))))))) rfl
theorem wv_iR_undo : (Cond.instanceMethod ({ cls := "CloudDepthModel", name := "undo", desc := "()Z" } : MethodName)) ∈ LT := mG (List.mem_append_right _ (List.mem_append_right _ (List.mem_append_right _ (List.mem_append_right _ (List.mem_append_right _ (List.mem_append_right _ (List.mem_append_left _ (List.mem_of_getElem? (l := tables_1_6) (i := 73) rfl)))))))) rfl
theorem wv_sR_undo : (Cond.selects "CloudDepthModel" ({ cls := "CloudDepthModel", name := "undo", desc := "()Z" } : MethodName) ({ cls := "CloudDepthModel", name := "undo", desc := "()Z" } : MethodName)) ∈ LT := mG (List.mem_append_right _ (List.mem_append_right _ (List.mem_append_right _ (List.mem_append_right _ (List.mem_append_right _ (List.mem_append_right _ (List.mem_append_left _ (List.mem_of_getElem? (l := tables_1_6) (i := 74) rfl)))))))) rfl
set_option maxHeartbeats 4000000 in
theorem lc_undo {E : pE} {p : Program} {e : Env} {s : State} {m : MethodId} {below : List Frame} {meth : Method} {c : Code} {b Ln : Nat} {xs : Nat → Int32} (C : LCx E p s m meth c b Ln xs) (hL : Ln ≤ 3072) {J : Nat → pH → Prop} (hsp : Sp_undo J) {n : Nat} (hn : 6 * n + 6 ≤ Ln) {h : pH} (hJ : J n h) (kk : ∀ h : pH, J (n + 1) h → GL E p e s m below meth c b 1219 (lawLs (6 * n)) [] h) : GL E p e s m below meth c b 438 (lawLs (6 * n)) [] h := by
  obtain ⟨v, h1, h2, hc, hr, hj⟩ := hsp n h (by omega) hJ
  refine l_aload (i := 1) C rfl (by decide +kernel) ?_
  refine l_call C ok_C_undo (as := []) (st := []) ⟨wv_lC_undo, wv_iC_undo, wv_sC_undo, wi_C, ds_C_undo, Nat.le_of_ble_eq_true rfl, Nat.le_of_ble_eq_true rfl⟩ (s_C_undo hc) rfl (o := 0) (ci := 11) ⟨rfl, rfl⟩ rfl (Nat.le_of_ble_eq_true rfl) (by decide +kernel) rfl ?_
  refine l_aload (i := 2) C rfl (by decide +kernel) ?_
  refine l_call C ok_R_undo (as := []) (st := [.int v]) ⟨wv_lR_undo, wv_iR_undo, wv_sR_undo, wi_R, ds_R_undo, Nat.le_of_ble_eq_true rfl, Nat.le_of_ble_eq_true rfl⟩ (s_R_undo hr) rfl (o := 79) (ci := 12) ⟨rfl, rfl⟩ rfl (Nat.le_of_ble_eq_true rfl) (by decide +kernel) rfl ?_
  refine l_cmp C (off := 773) (tgt := 1219) (by decide +kernel) (by decide) ?_
  exact kk _ hj
def Sp_point (J : Nat → pH → Prop) : Prop := ∀ (n : Nat) (h : pH), n < 512 → J n h → ∀ a0 a1 : Int32, ∃ v : Int32, ∃ h1 : pH, ∃ h2 : pH, f_C_point a0 a1 h = some (v, h1) ∧ f_R_point a0 a1 h1 = some (v, h2) ∧ J (n + 1) h2
theorem wv_lC_point : (Cond.methodLink "CloudDepthLaw" (57 : Nat) ({ cls := "CloudDepth", name := "point", desc := "(II)I" } : MethodName)) ∈ LT := mG (List.mem_append_right _ (List.mem_append_right _ (List.mem_append_right _ (List.mem_append_left _ (List.mem_of_getElem? (l := tables_1_3) (i := 139) rfl))))) rfl
theorem wv_iC_point : (Cond.instanceMethod ({ cls := "CloudDepth", name := "point", desc := "(II)I" } : MethodName)) ∈ LT := mG (List.mem_append_right _ (List.mem_append_right _ (List.mem_append_right _ (List.mem_append_left _ (List.mem_of_getElem? (l := tables_1_3) (i := 140) rfl))))) rfl
theorem wv_sC_point : (Cond.selects "CloudDepth" ({ cls := "CloudDepth", name := "point", desc := "(II)I" } : MethodName) ({ cls := "CloudDepth", name := "point", desc := "(II)I" } : MethodName)) ∈ LT := mG (List.mem_append_right _ (List.mem_append_right _ (List.mem_append_right _ (List.mem_append_left _ (List.mem_of_getElem? (l := tables_1_3) (i := 141) rfl))))) rfl
theorem wv_lR_point : (Cond.methodLink "CloudDepthLaw" (60 : Nat) ({ cls := "CloudDepthModel", name := "point", desc := "(II)I" } : MethodName)) ∈ LT := mG (List.mem_append_right _ (List.mem_append_right _ (List.mem_append_right _ (List.mem_append_right _ (List.mem_append_right _ (List.mem_append_right _ (List.mem_append_right _ (List.mem_of_getElem? (l := tables_1_7) (i := 41) rfl)))))))) rfl
theorem wv_iR_point : (Cond.instanceMethod ({ cls := "CloudDepthModel", name := "point", desc := "(II)I" } : MethodName)) ∈ LT := mG (List.mem_append_right _ (List.mem_append_right _ (List.mem_append_right _ (List.mem_append_right _ (List.mem_append_right _ (List.mem_append_right _ (List.mem_append_right _ (List.mem_of_getElem? (l := tables_1_7) (i := 42) rfl)))))))) rfl
theorem wv_sR_point : (Cond.selects "CloudDepthModel" ({ cls := "CloudDepthModel", name := "point", desc := "(II)I" } : MethodName) ({ cls := "CloudDepthModel", name := "point", desc := "(II)I" } : MethodName)) ∈ LT := mG (List.mem_append_right _ (List.mem_append_right _ (List.mem_append_right _ (List.mem_append_right _ (List.mem_append_right _ (List.mem_append_right _ (List.mem_append_right _ (List.mem_of_getElem? (l := tables_1_7) (i := 43) rfl)))))))) rfl
set_option maxHeartbeats 4000000 in
theorem lc_point {E : pE} {p : Program} {e : Env} {s : State} {m : MethodId} {below : List Frame} {meth : Method} {c : Code} {b Ln : Nat} {xs : Nat → Int32} (C : LCx E p s m meth c b Ln xs) (hL : Ln ≤ 3072) {J : Nat → pH → Prop} (hsp : Sp_point J) {n : Nat} (hn : 6 * n + 6 ≤ Ln) {h : pH} (hJ : J n h) (kk : ∀ h : pH, J (n + 1) h → GL E p e s m below meth c b 1219 (lawLs (6 * n)) [] h) : GL E p e s m below meth c b 451 (lawLs (6 * n)) [] h := by
  obtain ⟨v, h1, h2, hc, hr, hj⟩ := hsp n h (by omega) hJ (xs (6 * n + 1)) (xs (6 * n + 2))
  refine l_aload (i := 1) C rfl (by decide +kernel) ?_
  refine l_arg C 1 ⟨by omega, hL⟩ (by decide) (by decide +kernel) ?_
  refine l_arg C 2 ⟨by omega, hL⟩ (by decide) (by decide +kernel) ?_
  refine l_call C ok_C_point (as := [.int (xs (6 * n + 1)), .int (xs (6 * n + 2))]) (st := []) ⟨wv_lC_point, wv_iC_point, wv_sC_point, wi_C, ds_C_point, Nat.le_of_ble_eq_true rfl, Nat.le_of_ble_eq_true rfl⟩ (s_C_point hc) rfl (o := 0) (ci := 11) ⟨rfl, rfl⟩ rfl (Nat.le_of_ble_eq_true rfl) (by decide +kernel) rfl ?_
  refine l_aload (i := 2) C rfl (by decide +kernel) ?_
  refine l_arg C 1 ⟨by omega, hL⟩ (by decide) (by decide +kernel) ?_
  refine l_arg C 2 ⟨by omega, hL⟩ (by decide) (by decide +kernel) ?_
  refine l_call C ok_R_point (as := [.int (xs (6 * n + 1)), .int (xs (6 * n + 2))]) (st := [.int v]) ⟨wv_lR_point, wv_iR_point, wv_sR_point, wi_R, ds_R_point, Nat.le_of_ble_eq_true rfl, Nat.le_of_ble_eq_true rfl⟩ (s_R_point hr) rfl (o := 79) (ci := 12) ⟨rfl, rfl⟩ rfl (Nat.le_of_ble_eq_true rfl) (by decide +kernel) rfl ?_
  refine l_cmp C (off := 740) (tgt := 1219) (by decide +kernel) (by decide) ?_
  exact kk _ hj
def Sp_turned (J : Nat → pH → Prop) : Prop := ∀ (n : Nat) (h : pH), n < 512 → J n h → ∀ a0 a1 a2 a3 : Int32, ∃ v : Int32, f_C_turned a0 a1 a2 a3 h = some v ∧ f_R_turned a0 a1 a2 a3 h = some v ∧ J (n + 1) h
theorem wv_lC_turned : (Cond.methodLink "CloudDepthLaw" (61 : Nat) ({ cls := "CloudDepth", name := "turned", desc := "(IIII)I" } : MethodName)) ∈ LT := mG (List.mem_append_right _ (List.mem_append_right _ (List.mem_append_right _ (List.mem_append_left _ (List.mem_of_getElem? (l := tables_1_3) (i := 218) rfl))))) rfl
theorem wv_iC_turned : (Cond.instanceMethod ({ cls := "CloudDepth", name := "turned", desc := "(IIII)I" } : MethodName)) ∈ LT := mG (List.mem_append_right _ (List.mem_append_right _ (List.mem_append_right _ (List.mem_append_left _ (List.mem_of_getElem? (l := tables_1_3) (i := 219) rfl))))) rfl
theorem wv_sC_turned : (Cond.selects "CloudDepth" ({ cls := "CloudDepth", name := "turned", desc := "(IIII)I" } : MethodName) ({ cls := "CloudDepth", name := "turned", desc := "(IIII)I" } : MethodName)) ∈ LT := mG (List.mem_append_right _ (List.mem_append_right _ (List.mem_append_right _ (List.mem_append_left _ (List.mem_of_getElem? (l := tables_1_3) (i := 220) rfl))))) rfl
theorem wv_lR_turned : (Cond.methodLink "CloudDepthLaw" (65 : Nat) ({ cls := "CloudDepthModel", name := "turned", desc := "(IIII)I" } : MethodName)) ∈ LT := mG (List.mem_append_right _ (List.mem_append_right _ (List.mem_append_right _ (List.mem_append_right _ (List.mem_append_right _ (List.mem_append_right _ (List.mem_append_left _ (List.mem_of_getElem? (l := tables_1_6) (i := 132) rfl)))))))) rfl
theorem wv_iR_turned : (Cond.instanceMethod ({ cls := "CloudDepthModel", name := "turned", desc := "(IIII)I" } : MethodName)) ∈ LT := mG (List.mem_append_right _ (List.mem_append_right _ (List.mem_append_right _ (List.mem_append_right _ (List.mem_append_right _ (List.mem_append_right _ (List.mem_append_left _ (List.mem_of_getElem? (l := tables_1_6) (i := 133) rfl)))))))) rfl
theorem wv_sR_turned : (Cond.selects "CloudDepthModel" ({ cls := "CloudDepthModel", name := "turned", desc := "(IIII)I" } : MethodName) ({ cls := "CloudDepthModel", name := "turned", desc := "(IIII)I" } : MethodName)) ∈ LT := mG (List.mem_append_right _ (List.mem_append_right _ (List.mem_append_right _ (List.mem_append_right _ (List.mem_append_right _ (List.mem_append_right _ (List.mem_append_left _ (List.mem_of_getElem? (l := tables_1_6) (i := 134) rfl)))))))) rfl
set_option maxHeartbeats 4000000 in
theorem lc_turned {E : pE} {p : Program} {e : Env} {s : State} {m : MethodId} {below : List Frame} {meth : Method} {c : Code} {b Ln : Nat} {xs : Nat → Int32} (C : LCx E p s m meth c b Ln xs) (hL : Ln ≤ 3072) {J : Nat → pH → Prop} (hsp : Sp_turned J) {n : Nat} (hn : 6 * n + 6 ≤ Ln) {h : pH} (hJ : J n h) (kk : ∀ h : pH, J (n + 1) h → GL E p e s m below meth c b 1219 (lawLs (6 * n)) [] h) : GL E p e s m below meth c b 484 (lawLs (6 * n)) [] h := by
  obtain ⟨v, hc, hr, hj⟩ := hsp n h (by omega) hJ (xs (6 * n + 1)) (xs (6 * n + 2)) (xs (6 * n + 3)) (xs (6 * n + 4))
  refine l_aload (i := 1) C rfl (by decide +kernel) ?_
  refine l_arg C 1 ⟨by omega, hL⟩ (by decide) (by decide +kernel) ?_
  refine l_arg C 2 ⟨by omega, hL⟩ (by decide) (by decide +kernel) ?_
  refine l_arg C 3 ⟨by omega, hL⟩ (by decide) (by decide +kernel) ?_
  refine l_arg C 4 ⟨by omega, hL⟩ (by decide) (by decide +kernel) ?_
  refine l_call C ok_C_turned (as := [.int (xs (6 * n + 1)), .int (xs (6 * n + 2)), .int (xs (6 * n + 3)), .int (xs (6 * n + 4))]) (st := []) ⟨wv_lC_turned, wv_iC_turned, wv_sC_turned, wi_C, ds_C_turned, Nat.le_of_ble_eq_true rfl, Nat.le_of_ble_eq_true rfl⟩ (s_C_turned hc) rfl (o := 0) (ci := 11) ⟨rfl, rfl⟩ rfl (Nat.le_of_ble_eq_true rfl) (by decide +kernel) rfl ?_
  refine l_aload (i := 2) C rfl (by decide +kernel) ?_
  refine l_arg C 1 ⟨by omega, hL⟩ (by decide) (by decide +kernel) ?_
  refine l_arg C 2 ⟨by omega, hL⟩ (by decide) (by decide +kernel) ?_
  refine l_arg C 3 ⟨by omega, hL⟩ (by decide) (by decide +kernel) ?_
  refine l_arg C 4 ⟨by omega, hL⟩ (by decide) (by decide +kernel) ?_
  refine l_call C ok_R_turned (as := [.int (xs (6 * n + 1)), .int (xs (6 * n + 2)), .int (xs (6 * n + 3)), .int (xs (6 * n + 4))]) (st := [.int v]) ⟨wv_lR_turned, wv_iR_turned, wv_sR_turned, wi_R, ds_R_turned, Nat.le_of_ble_eq_true rfl, Nat.le_of_ble_eq_true rfl⟩ (s_R_turned hr) rfl (o := 79) (ci := 12) ⟨rfl, rfl⟩ rfl (Nat.le_of_ble_eq_true rfl) (by decide +kernel) rfl ?_
  refine l_cmp C (off := 687) (tgt := 1219) (by decide +kernel) (by decide) ?_
  exact kk _ hj
def Sp_sides (J : Nat → pH → Prop) : Prop := ∀ (n : Nat) (h : pH), n < 512 → J n h → ∀ a0 a1 a2 : Int32, ∃ v : Int32, f_C_sides a0 a1 a2 h = some v ∧ f_R_sides a0 a1 a2 h = some v ∧ J (n + 1) h
theorem wv_lC_sides : (Cond.methodLink "CloudDepthLaw" (66 : Nat) ({ cls := "CloudDepth", name := "sides", desc := "(III)I" } : MethodName)) ∈ LT := mG (List.mem_append_right _ (List.mem_append_right _ (List.mem_append_right _ (List.mem_append_left _ (List.mem_of_getElem? (l := tables_1_3) (i := 224) rfl))))) rfl
theorem wv_iC_sides : (Cond.instanceMethod ({ cls := "CloudDepth", name := "sides", desc := "(III)I" } : MethodName)) ∈ LT := mG (List.mem_append_right _ (List.mem_append_right _ (List.mem_append_right _ (List.mem_append_left _ (List.mem_of_getElem? (l := tables_1_3) (i := 225) rfl))))) rfl
theorem wv_sC_sides : (Cond.selects "CloudDepth" ({ cls := "CloudDepth", name := "sides", desc := "(III)I" } : MethodName) ({ cls := "CloudDepth", name := "sides", desc := "(III)I" } : MethodName)) ∈ LT := mG (List.mem_append_right _ (List.mem_append_right _ (List.mem_append_right _ (List.mem_append_left _ (List.mem_of_getElem? (l := tables_1_3) (i := 226) rfl))))) rfl
theorem wv_lR_sides : (Cond.methodLink "CloudDepthLaw" (70 : Nat) ({ cls := "CloudDepthModel", name := "sides", desc := "(III)I" } : MethodName)) ∈ LT := mG (List.mem_append_right _ (List.mem_append_right _ (List.mem_append_right _ (List.mem_append_right _ (List.mem_append_right _ (List.mem_append_right _ (List.mem_append_left _ (List.mem_of_getElem? (l := tables_1_6) (i := 145) rfl)))))))) rfl
theorem wv_iR_sides : (Cond.instanceMethod ({ cls := "CloudDepthModel", name := "sides", desc := "(III)I" } : MethodName)) ∈ LT := mG (List.mem_append_right _ (List.mem_append_right _ (List.mem_append_right _ (List.mem_append_right _ (List.mem_append_right _ (List.mem_append_right _ (List.mem_append_left _ (List.mem_of_getElem? (l := tables_1_6) (i := 146) rfl)))))))) rfl
theorem wv_sR_sides : (Cond.selects "CloudDepthModel" ({ cls := "CloudDepthModel", name := "sides", desc := "(III)I" } : MethodName) ({ cls := "CloudDepthModel", name := "sides", desc := "(III)I" } : MethodName)) ∈ LT := mG (List.mem_append_right _ (List.mem_append_right _ (List.mem_append_right _ (List.mem_append_right _ (List.mem_append_right _ (List.mem_append_right _ (List.mem_append_left _ (List.mem_of_getElem? (l := tables_1_6) (i := 147) rfl)))))))) rfl
set_option maxHeartbeats 4000000 in
theorem lc_sides {E : pE} {p : Program} {e : Env} {s : State} {m : MethodId} {below : List Frame} {meth : Method} {c : Code} {b Ln : Nat} {xs : Nat → Int32} (C : LCx E p s m meth c b Ln xs) (hL : Ln ≤ 3072) {J : Nat → pH → Prop} (hsp : Sp_sides J) {n : Nat} (hn : 6 * n + 6 ≤ Ln) {h : pH} (hJ : J n h) (kk : ∀ h : pH, J (n + 1) h → GL E p e s m below meth c b 1219 (lawLs (6 * n)) [] h) : GL E p e s m below meth c b 537 (lawLs (6 * n)) [] h := by
  obtain ⟨v, hc, hr, hj⟩ := hsp n h (by omega) hJ (xs (6 * n + 1)) (xs (6 * n + 2)) (xs (6 * n + 3))
  refine l_aload (i := 1) C rfl (by decide +kernel) ?_
  refine l_arg C 1 ⟨by omega, hL⟩ (by decide) (by decide +kernel) ?_
  refine l_arg C 2 ⟨by omega, hL⟩ (by decide) (by decide +kernel) ?_
  refine l_arg C 3 ⟨by omega, hL⟩ (by decide) (by decide +kernel) ?_
  refine l_call C ok_C_sides (as := [.int (xs (6 * n + 1)), .int (xs (6 * n + 2)), .int (xs (6 * n + 3))]) (st := []) ⟨wv_lC_sides, wv_iC_sides, wv_sC_sides, wi_C, ds_C_sides, Nat.le_of_ble_eq_true rfl, Nat.le_of_ble_eq_true rfl⟩ (s_C_sides hc) rfl (o := 0) (ci := 11) ⟨rfl, rfl⟩ rfl (Nat.le_of_ble_eq_true rfl) (by decide +kernel) rfl ?_
  refine l_aload (i := 2) C rfl (by decide +kernel) ?_
  refine l_arg C 1 ⟨by omega, hL⟩ (by decide) (by decide +kernel) ?_
  refine l_arg C 2 ⟨by omega, hL⟩ (by decide) (by decide +kernel) ?_
  refine l_arg C 3 ⟨by omega, hL⟩ (by decide) (by decide +kernel) ?_
  refine l_call C ok_R_sides (as := [.int (xs (6 * n + 1)), .int (xs (6 * n + 2)), .int (xs (6 * n + 3))]) (st := [.int v]) ⟨wv_lR_sides, wv_iR_sides, wv_sR_sides, wi_R, ds_R_sides, Nat.le_of_ble_eq_true rfl, Nat.le_of_ble_eq_true rfl⟩ (s_R_sides hr) rfl (o := 79) (ci := 12) ⟨rfl, rfl⟩ rfl (Nat.le_of_ble_eq_true rfl) (by decide +kernel) rfl ?_
  refine l_cmp C (off := 644) (tgt := 1219) (by decide +kernel) (by decide) ?_
  exact kk _ hj
def Sp_corner (J : Nat → pH → Prop) : Prop := ∀ (n : Nat) (h : pH), n < 512 → J n h → ∀ a0 : Int32, ∃ v : Int32, ∃ h1 : pH, ∃ h2 : pH, f_C_corner a0 h = some (v, h1) ∧ f_R_corner a0 h1 = some (v, h2) ∧ J (n + 1) h2
theorem wv_lC_corner : (Cond.methodLink "CloudDepthLaw" (71 : Nat) ({ cls := "CloudDepth", name := "corner", desc := "(I)I" } : MethodName)) ∈ LT := mG (List.mem_append_right _ (List.mem_append_right _ (List.mem_append_right _ (List.mem_append_left _ (List.mem_of_getElem? (l := tables_1_3) (i := 235) rfl))))) rfl
theorem wv_iC_corner : (Cond.instanceMethod ({ cls := "CloudDepth", name := "corner", desc := "(I)I" } : MethodName)) ∈ LT := mG (List.mem_append_right _ (List.mem_append_right _ (List.mem_append_right _ (List.mem_append_left _ (List.mem_of_getElem? (l := tables_1_3) (i := 236) rfl))))) rfl
theorem wv_sC_corner : (Cond.selects "CloudDepth" ({ cls := "CloudDepth", name := "corner", desc := "(I)I" } : MethodName) ({ cls := "CloudDepth", name := "corner", desc := "(I)I" } : MethodName)) ∈ LT := mG (List.mem_append_right _ (List.mem_append_right _ (List.mem_append_right _ (List.mem_append_left _ (List.mem_of_getElem? (l := tables_1_3) (i := 237) rfl))))) rfl
theorem wv_lR_corner : (Cond.methodLink "CloudDepthLaw" (74 : Nat) ({ cls := "CloudDepthModel", name := "corner", desc := "(I)I" } : MethodName)) ∈ LT := mG (List.mem_append_right _ (List.mem_append_right _ (List.mem_append_right _ (List.mem_append_right _ (List.mem_append_right _ (List.mem_append_right _ (List.mem_append_left _ (List.mem_of_getElem? (l := tables_1_6) (i := 163) rfl)))))))) rfl
theorem wv_iR_corner : (Cond.instanceMethod ({ cls := "CloudDepthModel", name := "corner", desc := "(I)I" } : MethodName)) ∈ LT := mG (List.mem_append_right _ (List.mem_append_right _ (List.mem_append_right _ (List.mem_append_right _ (List.mem_append_right _ (List.mem_append_right _ (List.mem_append_left _ (List.mem_of_getElem? (l := tables_1_6) (i := 164) rfl)))))))) rfl
theorem wv_sR_corner : (Cond.selects "CloudDepthModel" ({ cls := "CloudDepthModel", name := "corner", desc := "(I)I" } : MethodName) ({ cls := "CloudDepthModel", name := "corner", desc := "(I)I" } : MethodName)) ∈ LT := mG (List.mem_append_right _ (List.mem_append_right _ (List.mem_append_right _ (List.mem_append_right _ (List.mem_append_right _ (List.mem_append_right _ (List.mem_append_left _ (List.mem_of_getElem? (l := tables_1_6) (i := 165) rfl)))))))) rfl
set_option maxHeartbeats 4000000 in
theorem lc_corner {E : pE} {p : Program} {e : Env} {s : State} {m : MethodId} {below : List Frame} {meth : Method} {c : Code} {b Ln : Nat} {xs : Nat → Int32} (C : LCx E p s m meth c b Ln xs) (hL : Ln ≤ 3072) {J : Nat → pH → Prop} (hsp : Sp_corner J) {n : Nat} (hn : 6 * n + 6 ≤ Ln) {h : pH} (hJ : J n h) (kk : ∀ h : pH, J (n + 1) h → GL E p e s m below meth c b 1219 (lawLs (6 * n)) [] h) : GL E p e s m below meth c b 580 (lawLs (6 * n)) [] h := by
  obtain ⟨v, h1, h2, hc, hr, hj⟩ := hsp n h (by omega) hJ (xs (6 * n + 1))
  refine l_aload (i := 1) C rfl (by decide +kernel) ?_
  refine l_arg C 1 ⟨by omega, hL⟩ (by decide) (by decide +kernel) ?_
  refine l_call C ok_C_corner (as := [.int (xs (6 * n + 1))]) (st := []) ⟨wv_lC_corner, wv_iC_corner, wv_sC_corner, wi_C, ds_C_corner, Nat.le_of_ble_eq_true rfl, Nat.le_of_ble_eq_true rfl⟩ (s_C_corner hc) rfl (o := 0) (ci := 11) ⟨rfl, rfl⟩ rfl (Nat.le_of_ble_eq_true rfl) (by decide +kernel) rfl ?_
  refine l_aload (i := 2) C rfl (by decide +kernel) ?_
  refine l_arg C 1 ⟨by omega, hL⟩ (by decide) (by decide +kernel) ?_
  refine l_call C ok_R_corner (as := [.int (xs (6 * n + 1))]) (st := [.int v]) ⟨wv_lR_corner, wv_iR_corner, wv_sR_corner, wi_R, ds_R_corner, Nat.le_of_ble_eq_true rfl, Nat.le_of_ble_eq_true rfl⟩ (s_R_corner hr) rfl (o := 79) (ci := 12) ⟨rfl, rfl⟩ rfl (Nat.le_of_ble_eq_true rfl) (by decide +kernel) rfl ?_
  refine l_cmp C (off := 621) (tgt := 1219) (by decide +kernel) (by decide) ?_
  exact kk _ hj
def Sp_layer (J : Nat → pH → Prop) : Prop := ∀ (n : Nat) (h : pH), n < 512 → J n h → ∀ a0 : Int32, ∃ v : Int32, ∃ h1 : pH, ∃ h2 : pH, f_C_layer a0 h = some (v, h1) ∧ f_R_layer a0 h1 = some (v, h2) ∧ J (n + 1) h2
theorem wv_lC_layer : (Cond.methodLink "CloudDepthLaw" (75 : Nat) ({ cls := "CloudDepth", name := "layer", desc := "(I)I" } : MethodName)) ∈ LT := mG (List.mem_append_right _ (List.mem_append_right _ (List.mem_append_right _ (List.mem_append_right _ (List.mem_append_left _ (List.mem_of_getElem? (l := tables_1_4) (i := 15) rfl)))))) rfl
theorem wv_iC_layer : (Cond.instanceMethod ({ cls := "CloudDepth", name := "layer", desc := "(I)I" } : MethodName)) ∈ LT := mG (List.mem_append_right _ (List.mem_append_right _ (List.mem_append_right _ (List.mem_append_right _ (List.mem_append_left _ (List.mem_of_getElem? (l := tables_1_4) (i := 16) rfl)))))) rfl
theorem wv_sC_layer : (Cond.selects "CloudDepth" ({ cls := "CloudDepth", name := "layer", desc := "(I)I" } : MethodName) ({ cls := "CloudDepth", name := "layer", desc := "(I)I" } : MethodName)) ∈ LT := mG (List.mem_append_right _ (List.mem_append_right _ (List.mem_append_right _ (List.mem_append_right _ (List.mem_append_left _ (List.mem_of_getElem? (l := tables_1_4) (i := 17) rfl)))))) rfl
theorem wv_lR_layer : (Cond.methodLink "CloudDepthLaw" (78 : Nat) ({ cls := "CloudDepthModel", name := "layer", desc := "(I)I" } : MethodName)) ∈ LT := mG (List.mem_append_right _ (List.mem_append_right _ (List.mem_append_right _ (List.mem_append_right _ (List.mem_append_right _ (List.mem_append_right _ (List.mem_append_left _ (List.mem_of_getElem? (l := tables_1_6) (i := 187) rfl)))))))) rfl
theorem wv_iR_layer : (Cond.instanceMethod ({ cls := "CloudDepthModel", name := "layer", desc := "(I)I" } : MethodName)) ∈ LT := mG (List.mem_append_right _ (List.mem_append_right _ (List.mem_append_right _ (List.mem_append_right _ (List.mem_append_right _ (List.mem_append_right _ (List.mem_append_left _ (List.mem_of_getElem? (l := tables_1_6) (i := 188) rfl)))))))) rfl
theorem wv_sR_layer : (Cond.selects "CloudDepthModel" ({ cls := "CloudDepthModel", name := "layer", desc := "(I)I" } : MethodName) ({ cls := "CloudDepthModel", name := "layer", desc := "(I)I" } : MethodName)) ∈ LT := mG (List.mem_append_right _ (List.mem_append_right _ (List.mem_append_right _ (List.mem_append_right _ (List.mem_append_right _ (List.mem_append_right _ (List.mem_append_left _ (List.mem_of_getElem? (l := tables_1_6) (i := 189) rfl)))))))) rfl
set_option maxHeartbeats 4000000 in
theorem lc_layer {E : pE} {p : Program} {e : Env} {s : State} {m : MethodId} {below : List Frame} {meth : Method} {c : Code} {b Ln : Nat} {xs : Nat → Int32} (C : LCx E p s m meth c b Ln xs) (hL : Ln ≤ 3072) {J : Nat → pH → Prop} (hsp : Sp_layer J) {n : Nat} (hn : 6 * n + 6 ≤ Ln) {h : pH} (hJ : J n h) (kk : ∀ h : pH, J (n + 1) h → GL E p e s m below meth c b 1219 (lawLs (6 * n)) [] h) : GL E p e s m below meth c b 603 (lawLs (6 * n)) [] h := by
  obtain ⟨v, h1, h2, hc, hr, hj⟩ := hsp n h (by omega) hJ (xs (6 * n + 1))
  refine l_aload (i := 1) C rfl (by decide +kernel) ?_
  refine l_arg C 1 ⟨by omega, hL⟩ (by decide) (by decide +kernel) ?_
  refine l_call C ok_C_layer (as := [.int (xs (6 * n + 1))]) (st := []) ⟨wv_lC_layer, wv_iC_layer, wv_sC_layer, wi_C, ds_C_layer, Nat.le_of_ble_eq_true rfl, Nat.le_of_ble_eq_true rfl⟩ (s_C_layer hc) rfl (o := 0) (ci := 11) ⟨rfl, rfl⟩ rfl (Nat.le_of_ble_eq_true rfl) (by decide +kernel) rfl ?_
  refine l_aload (i := 2) C rfl (by decide +kernel) ?_
  refine l_arg C 1 ⟨by omega, hL⟩ (by decide) (by decide +kernel) ?_
  refine l_call C ok_R_layer (as := [.int (xs (6 * n + 1))]) (st := [.int v]) ⟨wv_lR_layer, wv_iR_layer, wv_sR_layer, wi_R, ds_R_layer, Nat.le_of_ble_eq_true rfl, Nat.le_of_ble_eq_true rfl⟩ (s_R_layer hr) rfl (o := 79) (ci := 12) ⟨rfl, rfl⟩ rfl (Nat.le_of_ble_eq_true rfl) (by decide +kernel) rfl ?_
  refine l_cmp C (off := 598) (tgt := 1219) (by decide +kernel) (by decide) ?_
  exact kk _ hj
def Sp_edges (J : Nat → pH → Prop) : Prop := ∀ (n : Nat) (h : pH), n < 512 → J n h → ∀ a0 : Int32, ∃ v : Int32, f_C_edges a0 h = some v ∧ f_R_edges a0 h = some v ∧ J (n + 1) h
theorem wv_lC_edges : (Cond.methodLink "CloudDepthLaw" (79 : Nat) ({ cls := "CloudDepth", name := "edges", desc := "(I)I" } : MethodName)) ∈ LT := mG (List.mem_append_right _ (List.mem_append_right _ (List.mem_append_right _ (List.mem_append_right _ (List.mem_append_left _ (List.mem_of_getElem? (l := tables_1_4) (i := 19) rfl)))))) rfl
theorem wv_iC_edges : (Cond.instanceMethod ({ cls := "CloudDepth", name := "edges", desc := "(I)I" } : MethodName)) ∈ LT := mG (List.mem_append_right _ (List.mem_append_right _ (List.mem_append_right _ (List.mem_append_right _ (List.mem_append_left _ (List.mem_of_getElem? (l := tables_1_4) (i := 20) rfl)))))) rfl
theorem wv_sC_edges : (Cond.selects "CloudDepth" ({ cls := "CloudDepth", name := "edges", desc := "(I)I" } : MethodName) ({ cls := "CloudDepth", name := "edges", desc := "(I)I" } : MethodName)) ∈ LT := mG (List.mem_append_right _ (List.mem_append_right _ (List.mem_append_right _ (List.mem_append_right _ (List.mem_append_left _ (List.mem_of_getElem? (l := tables_1_4) (i := 21) rfl)))))) rfl
theorem wv_lR_edges : (Cond.methodLink "CloudDepthLaw" (82 : Nat) ({ cls := "CloudDepthModel", name := "edges", desc := "(I)I" } : MethodName)) ∈ LT := mG (List.mem_append_right _ (List.mem_append_right _ (List.mem_append_right _ (List.mem_append_right _ (List.mem_append_right _ (List.mem_append_right _ (List.mem_append_left _ (List.mem_of_getElem? (l := tables_1_6) (i := 195) rfl)))))))) rfl
theorem wv_iR_edges : (Cond.instanceMethod ({ cls := "CloudDepthModel", name := "edges", desc := "(I)I" } : MethodName)) ∈ LT := mG (List.mem_append_right _ (List.mem_append_right _ (List.mem_append_right _ (List.mem_append_right _ (List.mem_append_right _ (List.mem_append_right _ (List.mem_append_left _ (List.mem_of_getElem? (l := tables_1_6) (i := 196) rfl)))))))) rfl
theorem wv_sR_edges : (Cond.selects "CloudDepthModel" ({ cls := "CloudDepthModel", name := "edges", desc := "(I)I" } : MethodName) ({ cls := "CloudDepthModel", name := "edges", desc := "(I)I" } : MethodName)) ∈ LT := mG (List.mem_append_right _ (List.mem_append_right _ (List.mem_append_right _ (List.mem_append_right _ (List.mem_append_right _ (List.mem_append_right _ (List.mem_append_left _ (List.mem_of_getElem? (l := tables_1_6) (i := 197) rfl)))))))) rfl
set_option maxHeartbeats 4000000 in
theorem lc_edges {E : pE} {p : Program} {e : Env} {s : State} {m : MethodId} {below : List Frame} {meth : Method} {c : Code} {b Ln : Nat} {xs : Nat → Int32} (C : LCx E p s m meth c b Ln xs) (hL : Ln ≤ 3072) {J : Nat → pH → Prop} (hsp : Sp_edges J) {n : Nat} (hn : 6 * n + 6 ≤ Ln) {h : pH} (hJ : J n h) (kk : ∀ h : pH, J (n + 1) h → GL E p e s m below meth c b 1219 (lawLs (6 * n)) [] h) : GL E p e s m below meth c b 626 (lawLs (6 * n)) [] h := by
  obtain ⟨v, hc, hr, hj⟩ := hsp n h (by omega) hJ (xs (6 * n + 1))
  refine l_aload (i := 1) C rfl (by decide +kernel) ?_
  refine l_arg C 1 ⟨by omega, hL⟩ (by decide) (by decide +kernel) ?_
  refine l_call C ok_C_edges (as := [.int (xs (6 * n + 1))]) (st := []) ⟨wv_lC_edges, wv_iC_edges, wv_sC_edges, wi_C, ds_C_edges, Nat.le_of_ble_eq_true rfl, Nat.le_of_ble_eq_true rfl⟩ (s_C_edges hc) rfl (o := 0) (ci := 11) ⟨rfl, rfl⟩ rfl (Nat.le_of_ble_eq_true rfl) (by decide +kernel) rfl ?_
  refine l_aload (i := 2) C rfl (by decide +kernel) ?_
  refine l_arg C 1 ⟨by omega, hL⟩ (by decide) (by decide +kernel) ?_
  refine l_call C ok_R_edges (as := [.int (xs (6 * n + 1))]) (st := [.int v]) ⟨wv_lR_edges, wv_iR_edges, wv_sR_edges, wi_R, ds_R_edges, Nat.le_of_ble_eq_true rfl, Nat.le_of_ble_eq_true rfl⟩ (s_R_edges hr) rfl (o := 79) (ci := 12) ⟨rfl, rfl⟩ rfl (Nat.le_of_ble_eq_true rfl) (by decide +kernel) rfl ?_
  refine l_cmp C (off := 575) (tgt := 1219) (by decide +kernel) (by decide) ?_
  exact kk _ hj
def Sp_halving (J : Nat → pH → Prop) : Prop := ∀ (n : Nat) (h : pH), n < 512 → J n h → ∀ a0 : Int32, ∃ v : Int32, f_C_halving a0 h = some v ∧ f_R_halving a0 h = some v ∧ J (n + 1) h
theorem wv_lC_halving : (Cond.methodLink "CloudDepthLaw" (83 : Nat) ({ cls := "CloudDepth", name := "halving", desc := "(I)I" } : MethodName)) ∈ LT := mG (List.mem_append_right _ (List.mem_append_right _ (List.mem_append_right _ (List.mem_append_right _ (List.mem_append_left _ (List.mem_of_getElem? (l := tables_1_4) (i := 23) rfl)))))) rfl
theorem wv_iC_halving : (Cond.instanceMethod ({ cls := "CloudDepth", name := "halving", desc := "(I)I" } : MethodName)) ∈ LT := mG (List.mem_append_right _ (List.mem_append_right _ (List.mem_append_right _ (List.mem_append_right _ (List.mem_append_left _ (List.mem_of_getElem? (l := tables_1_4) (i := 24) rfl)))))) rfl
theorem wv_sC_halving : (Cond.selects "CloudDepth" ({ cls := "CloudDepth", name := "halving", desc := "(I)I" } : MethodName) ({ cls := "CloudDepth", name := "halving", desc := "(I)I" } : MethodName)) ∈ LT := mG (List.mem_append_right _ (List.mem_append_right _ (List.mem_append_right _ (List.mem_append_right _ (List.mem_append_left _ (List.mem_of_getElem? (l := tables_1_4) (i := 25) rfl)))))) rfl
theorem wv_lR_halving : (Cond.methodLink "CloudDepthLaw" (86 : Nat) ({ cls := "CloudDepthModel", name := "halving", desc := "(I)I" } : MethodName)) ∈ LT := mG (List.mem_append_right _ (List.mem_append_right _ (List.mem_append_right _ (List.mem_append_right _ (List.mem_append_right _ (List.mem_append_right _ (List.mem_append_left _ (List.mem_of_getElem? (l := tables_1_6) (i := 199) rfl)))))))) rfl
theorem wv_iR_halving : (Cond.instanceMethod ({ cls := "CloudDepthModel", name := "halving", desc := "(I)I" } : MethodName)) ∈ LT := mG (List.mem_append_right _ (List.mem_append_right _ (List.mem_append_right _ (List.mem_append_right _ (List.mem_append_right _ (List.mem_append_right _ (List.mem_append_left _ (List.mem_of_getElem? (l := tables_1_6) (i := 200) rfl)))))))) rfl
theorem wv_sR_halving : (Cond.selects "CloudDepthModel" ({ cls := "CloudDepthModel", name := "halving", desc := "(I)I" } : MethodName) ({ cls := "CloudDepthModel", name := "halving", desc := "(I)I" } : MethodName)) ∈ LT := mG (List.mem_append_right _ (List.mem_append_right _ (List.mem_append_right _ (List.mem_append_right _ (List.mem_append_right _ (List.mem_append_right _ (List.mem_append_left _ (List.mem_of_getElem? (l := tables_1_6) (i := 201) rfl)))))))) rfl
set_option maxHeartbeats 4000000 in
theorem lc_halving {E : pE} {p : Program} {e : Env} {s : State} {m : MethodId} {below : List Frame} {meth : Method} {c : Code} {b Ln : Nat} {xs : Nat → Int32} (C : LCx E p s m meth c b Ln xs) (hL : Ln ≤ 3072) {J : Nat → pH → Prop} (hsp : Sp_halving J) {n : Nat} (hn : 6 * n + 6 ≤ Ln) {h : pH} (hJ : J n h) (kk : ∀ h : pH, J (n + 1) h → GL E p e s m below meth c b 1219 (lawLs (6 * n)) [] h) : GL E p e s m below meth c b 649 (lawLs (6 * n)) [] h := by
  obtain ⟨v, hc, hr, hj⟩ := hsp n h (by omega) hJ (xs (6 * n + 1))
  refine l_aload (i := 1) C rfl (by decide +kernel) ?_
  refine l_arg C 1 ⟨by omega, hL⟩ (by decide) (by decide +kernel) ?_
  refine l_call C ok_C_halving (as := [.int (xs (6 * n + 1))]) (st := []) ⟨wv_lC_halving, wv_iC_halving, wv_sC_halving, wi_C, ds_C_halving, Nat.le_of_ble_eq_true rfl, Nat.le_of_ble_eq_true rfl⟩ (s_C_halving hc) rfl (o := 0) (ci := 11) ⟨rfl, rfl⟩ rfl (Nat.le_of_ble_eq_true rfl) (by decide +kernel) rfl ?_
  refine l_aload (i := 2) C rfl (by decide +kernel) ?_
  refine l_arg C 1 ⟨by omega, hL⟩ (by decide) (by decide +kernel) ?_
  refine l_call C ok_R_halving (as := [.int (xs (6 * n + 1))]) (st := [.int v]) ⟨wv_lR_halving, wv_iR_halving, wv_sR_halving, wi_R, ds_R_halving, Nat.le_of_ble_eq_true rfl, Nat.le_of_ble_eq_true rfl⟩ (s_R_halving hr) rfl (o := 79) (ci := 12) ⟨rfl, rfl⟩ rfl (Nat.le_of_ble_eq_true rfl) (by decide +kernel) rfl ?_
  refine l_cmp C (off := 552) (tgt := 1219) (by decide +kernel) (by decide) ?_
  exact kk _ hj
def Sp_cutOff (J : Nat → pH → Prop) : Prop := ∀ (n : Nat) (h : pH), n < 512 → J n h → ∀ a0 : Int32, ∃ v : Int32, ∃ h1 : pH, ∃ h2 : pH, f_C_cutOff a0 h = some (v, h1) ∧ f_R_cutOff a0 h1 = some (v, h2) ∧ J (n + 1) h2
theorem wv_lC_cutOff : (Cond.methodLink "CloudDepthLaw" (87 : Nat) ({ cls := "CloudDepth", name := "cutOff", desc := "(I)I" } : MethodName)) ∈ LT := mG (List.mem_append_right _ (List.mem_append_right _ (List.mem_append_right _ (List.mem_append_right _ (List.mem_append_left _ (List.mem_of_getElem? (l := tables_1_4) (i := 43) rfl)))))) rfl
theorem wv_iC_cutOff : (Cond.instanceMethod ({ cls := "CloudDepth", name := "cutOff", desc := "(I)I" } : MethodName)) ∈ LT := mG (List.mem_append_right _ (List.mem_append_right _ (List.mem_append_right _ (List.mem_append_right _ (List.mem_append_left _ (List.mem_of_getElem? (l := tables_1_4) (i := 44) rfl)))))) rfl
theorem wv_sC_cutOff : (Cond.selects "CloudDepth" ({ cls := "CloudDepth", name := "cutOff", desc := "(I)I" } : MethodName) ({ cls := "CloudDepth", name := "cutOff", desc := "(I)I" } : MethodName)) ∈ LT := mG (List.mem_append_right _ (List.mem_append_right _ (List.mem_append_right _ (List.mem_append_right _ (List.mem_append_left _ (List.mem_of_getElem? (l := tables_1_4) (i := 45) rfl)))))) rfl
theorem wv_lR_cutOff : (Cond.methodLink "CloudDepthLaw" (90 : Nat) ({ cls := "CloudDepthModel", name := "cutOff", desc := "(I)I" } : MethodName)) ∈ LT := mG (List.mem_append_right _ (List.mem_append_right _ (List.mem_append_right _ (List.mem_append_right _ (List.mem_append_right _ (List.mem_append_right _ (List.mem_append_left _ (List.mem_of_getElem? (l := tables_1_6) (i := 211) rfl)))))))) rfl
theorem wv_iR_cutOff : (Cond.instanceMethod ({ cls := "CloudDepthModel", name := "cutOff", desc := "(I)I" } : MethodName)) ∈ LT := mG (List.mem_append_right _ (List.mem_append_right _ (List.mem_append_right _ (List.mem_append_right _ (List.mem_append_right _ (List.mem_append_right _ (List.mem_append_left _ (List.mem_of_getElem? (l := tables_1_6) (i := 212) rfl)))))))) rfl
theorem wv_sR_cutOff : (Cond.selects "CloudDepthModel" ({ cls := "CloudDepthModel", name := "cutOff", desc := "(I)I" } : MethodName) ({ cls := "CloudDepthModel", name := "cutOff", desc := "(I)I" } : MethodName)) ∈ LT := mG (List.mem_append_right _ (List.mem_append_right _ (List.mem_append_right _ (List.mem_append_right _ (List.mem_append_right _ (List.mem_append_right _ (List.mem_append_left _ (List.mem_of_getElem? (l := tables_1_6) (i := 213) rfl)))))))) rfl
set_option maxHeartbeats 4000000 in
theorem lc_cutOff {E : pE} {p : Program} {e : Env} {s : State} {m : MethodId} {below : List Frame} {meth : Method} {c : Code} {b Ln : Nat} {xs : Nat → Int32} (C : LCx E p s m meth c b Ln xs) (hL : Ln ≤ 3072) {J : Nat → pH → Prop} (hsp : Sp_cutOff J) {n : Nat} (hn : 6 * n + 6 ≤ Ln) {h : pH} (hJ : J n h) (kk : ∀ h : pH, J (n + 1) h → GL E p e s m below meth c b 1219 (lawLs (6 * n)) [] h) : GL E p e s m below meth c b 672 (lawLs (6 * n)) [] h := by
  obtain ⟨v, h1, h2, hc, hr, hj⟩ := hsp n h (by omega) hJ (xs (6 * n + 1))
  refine l_aload (i := 1) C rfl (by decide +kernel) ?_
  refine l_arg C 1 ⟨by omega, hL⟩ (by decide) (by decide +kernel) ?_
  refine l_call C ok_C_cutOff (as := [.int (xs (6 * n + 1))]) (st := []) ⟨wv_lC_cutOff, wv_iC_cutOff, wv_sC_cutOff, wi_C, ds_C_cutOff, Nat.le_of_ble_eq_true rfl, Nat.le_of_ble_eq_true rfl⟩ (s_C_cutOff hc) rfl (o := 0) (ci := 11) ⟨rfl, rfl⟩ rfl (Nat.le_of_ble_eq_true rfl) (by decide +kernel) rfl ?_
  refine l_aload (i := 2) C rfl (by decide +kernel) ?_
  refine l_arg C 1 ⟨by omega, hL⟩ (by decide) (by decide +kernel) ?_
  refine l_call C ok_R_cutOff (as := [.int (xs (6 * n + 1))]) (st := [.int v]) ⟨wv_lR_cutOff, wv_iR_cutOff, wv_sR_cutOff, wi_R, ds_R_cutOff, Nat.le_of_ble_eq_true rfl, Nat.le_of_ble_eq_true rfl⟩ (s_R_cutOff hr) rfl (o := 79) (ci := 12) ⟨rfl, rfl⟩ rfl (Nat.le_of_ble_eq_true rfl) (by decide +kernel) rfl ?_
  refine l_cmp C (off := 529) (tgt := 1219) (by decide +kernel) (by decide) ?_
  exact kk _ hj
def Sp_isCutOff (J : Nat → pH → Prop) : Prop := ∀ (n : Nat) (h : pH), n < 512 → J n h → ∀ a0 : Int32, ∃ v : Int32, ∃ h1 : pH, ∃ h2 : pH, f_C_isCutOff a0 h = some (v, h1) ∧ f_R_isCutOff a0 h1 = some (v, h2) ∧ J (n + 1) h2
theorem wv_lC_isCutOff : (Cond.methodLink "CloudDepthLaw" (91 : Nat) ({ cls := "CloudDepth", name := "isCutOff", desc := "(I)I" } : MethodName)) ∈ LT := mG (List.mem_append_right _ (List.mem_append_right _ (List.mem_append_right _ (List.mem_append_right _ (List.mem_append_left _ (List.mem_of_getElem? (l := tables_1_4) (i := 86) rfl)))))) rfl
theorem wv_iC_isCutOff : (Cond.instanceMethod ({ cls := "CloudDepth", name := "isCutOff", desc := "(I)I" } : MethodName)) ∈ LT := mG (List.mem_append_right _ (List.mem_append_right _ (List.mem_append_right _ (List.mem_append_right _ (List.mem_append_left _ (List.mem_of_getElem? (l := tables_1_4) (i := 87) rfl)))))) rfl
theorem wv_sC_isCutOff : (Cond.selects "CloudDepth" ({ cls := "CloudDepth", name := "isCutOff", desc := "(I)I" } : MethodName) ({ cls := "CloudDepth", name := "isCutOff", desc := "(I)I" } : MethodName)) ∈ LT := mG (List.mem_append_right _ (List.mem_append_right _ (List.mem_append_right _ (List.mem_append_right _ (List.mem_append_left _ (List.mem_of_getElem? (l := tables_1_4) (i := 88) rfl)))))) rfl
theorem wv_lR_isCutOff : (Cond.methodLink "CloudDepthLaw" (94 : Nat) ({ cls := "CloudDepthModel", name := "isCutOff", desc := "(I)I" } : MethodName)) ∈ LT := mG (List.mem_append_right _ (List.mem_append_right _ (List.mem_append_right _ (List.mem_append_right _ (List.mem_append_right _ (List.mem_append_right _ (List.mem_append_left _ (List.mem_of_getElem? (l := tables_1_6) (i := 235) rfl)))))))) rfl
theorem wv_iR_isCutOff : (Cond.instanceMethod ({ cls := "CloudDepthModel", name := "isCutOff", desc := "(I)I" } : MethodName)) ∈ LT := mG (List.mem_append_right _ (List.mem_append_right _ (List.mem_append_right _ (List.mem_append_right _ (List.mem_append_right _ (List.mem_append_right _ (List.mem_append_left _ (List.mem_of_getElem? (l := tables_1_6) (i := 236) rfl)))))))) rfl
theorem wv_sR_isCutOff : (Cond.selects "CloudDepthModel" ({ cls := "CloudDepthModel", name := "isCutOff", desc := "(I)I" } : MethodName) ({ cls := "CloudDepthModel", name := "isCutOff", desc := "(I)I" } : MethodName)) ∈ LT := mG (List.mem_append_right _ (List.mem_append_right _ (List.mem_append_right _ (List.mem_append_right _ (List.mem_append_right _ (List.mem_append_right _ (List.mem_append_left _ (List.mem_of_getElem? (l := tables_1_6) (i := 237) rfl)))))))) rfl
set_option maxHeartbeats 4000000 in
theorem lc_isCutOff {E : pE} {p : Program} {e : Env} {s : State} {m : MethodId} {below : List Frame} {meth : Method} {c : Code} {b Ln : Nat} {xs : Nat → Int32} (C : LCx E p s m meth c b Ln xs) (hL : Ln ≤ 3072) {J : Nat → pH → Prop} (hsp : Sp_isCutOff J) {n : Nat} (hn : 6 * n + 6 ≤ Ln) {h : pH} (hJ : J n h) (kk : ∀ h : pH, J (n + 1) h → GL E p e s m below meth c b 1219 (lawLs (6 * n)) [] h) : GL E p e s m below meth c b 695 (lawLs (6 * n)) [] h := by
  obtain ⟨v, h1, h2, hc, hr, hj⟩ := hsp n h (by omega) hJ (xs (6 * n + 1))
  refine l_aload (i := 1) C rfl (by decide +kernel) ?_
  refine l_arg C 1 ⟨by omega, hL⟩ (by decide) (by decide +kernel) ?_
  refine l_call C ok_C_isCutOff (as := [.int (xs (6 * n + 1))]) (st := []) ⟨wv_lC_isCutOff, wv_iC_isCutOff, wv_sC_isCutOff, wi_C, ds_C_isCutOff, Nat.le_of_ble_eq_true rfl, Nat.le_of_ble_eq_true rfl⟩ (s_C_isCutOff hc) rfl (o := 0) (ci := 11) ⟨rfl, rfl⟩ rfl (Nat.le_of_ble_eq_true rfl) (by decide +kernel) rfl ?_
  refine l_aload (i := 2) C rfl (by decide +kernel) ?_
  refine l_arg C 1 ⟨by omega, hL⟩ (by decide) (by decide +kernel) ?_
  refine l_call C ok_R_isCutOff (as := [.int (xs (6 * n + 1))]) (st := [.int v]) ⟨wv_lR_isCutOff, wv_iR_isCutOff, wv_sR_isCutOff, wi_R, ds_R_isCutOff, Nat.le_of_ble_eq_true rfl, Nat.le_of_ble_eq_true rfl⟩ (s_R_isCutOff hr) rfl (o := 79) (ci := 12) ⟨rfl, rfl⟩ rfl (Nat.le_of_ble_eq_true rfl) (by decide +kernel) rfl ?_
  refine l_cmp C (off := 506) (tgt := 1219) (by decide +kernel) (by decide) ?_
  exact kk _ hj
def Sp_depth (J : Nat → pH → Prop) : Prop := ∀ (n : Nat) (h : pH), n < 512 → J n h → ∀ a0 a1 : Int32, ∃ v : Int32, ∃ h1 : pH, f_C_depth a0 a1 h = some (v, h1) ∧ f_R_depth a0 a1 h1 = some v ∧ J (n + 1) h1
theorem wv_lC_depth : (Cond.methodLink "CloudDepthLaw" (95 : Nat) ({ cls := "CloudDepth", name := "depth", desc := "(II)I" } : MethodName)) ∈ LT := mG (List.mem_append_right _ (List.mem_append_right _ (List.mem_append_right _ (List.mem_append_right _ (List.mem_append_left _ (List.mem_of_getElem? (l := tables_1_4) (i := 99) rfl)))))) rfl
theorem wv_iC_depth : (Cond.instanceMethod ({ cls := "CloudDepth", name := "depth", desc := "(II)I" } : MethodName)) ∈ LT := mG (List.mem_append_right _ (List.mem_append_right _ (List.mem_append_right _ (List.mem_append_right _ (List.mem_append_left _ (List.mem_of_getElem? (l := tables_1_4) (i := 100) rfl)))))) rfl
theorem wv_sC_depth : (Cond.selects "CloudDepth" ({ cls := "CloudDepth", name := "depth", desc := "(II)I" } : MethodName) ({ cls := "CloudDepth", name := "depth", desc := "(II)I" } : MethodName)) ∈ LT := mG (List.mem_append_right _ (List.mem_append_right _ (List.mem_append_right _ (List.mem_append_right _ (List.mem_append_left _ (List.mem_of_getElem? (l := tables_1_4) (i := 101) rfl)))))) rfl
theorem wv_lR_depth : (Cond.methodLink "CloudDepthLaw" (98 : Nat) ({ cls := "CloudDepthModel", name := "depth", desc := "(II)I" } : MethodName)) ∈ LT := mG (List.mem_append_right _ (List.mem_append_right _ (List.mem_append_right _ (List.mem_append_right _ (List.mem_append_right _ (List.mem_append_right _ (List.mem_append_right _ (List.mem_of_getElem? (l := tables_1_7) (i := 18) rfl)))))))) rfl
theorem wv_iR_depth : (Cond.instanceMethod ({ cls := "CloudDepthModel", name := "depth", desc := "(II)I" } : MethodName)) ∈ LT := mG (List.mem_append_right _ (List.mem_append_right _ (List.mem_append_right _ (List.mem_append_right _ (List.mem_append_right _ (List.mem_append_right _ (List.mem_append_right _ (List.mem_of_getElem? (l := tables_1_7) (i := 19) rfl)))))))) rfl
theorem wv_sR_depth : (Cond.selects "CloudDepthModel" ({ cls := "CloudDepthModel", name := "depth", desc := "(II)I" } : MethodName) ({ cls := "CloudDepthModel", name := "depth", desc := "(II)I" } : MethodName)) ∈ LT := mG (List.mem_append_right _ (List.mem_append_right _ (List.mem_append_right _ (List.mem_append_right _ (List.mem_append_right _ (List.mem_append_right _ (List.mem_append_right _ (List.mem_of_getElem? (l := tables_1_7) (i := 20) rfl)))))))) rfl
set_option maxHeartbeats 4000000 in
theorem lc_depth {E : pE} {p : Program} {e : Env} {s : State} {m : MethodId} {below : List Frame} {meth : Method} {c : Code} {b Ln : Nat} {xs : Nat → Int32} (C : LCx E p s m meth c b Ln xs) (hL : Ln ≤ 3072) {J : Nat → pH → Prop} (hsp : Sp_depth J) {n : Nat} (hn : 6 * n + 6 ≤ Ln) {h : pH} (hJ : J n h) (kk : ∀ h : pH, J (n + 1) h → GL E p e s m below meth c b 1219 (lawLs (6 * n)) [] h) : GL E p e s m below meth c b 718 (lawLs (6 * n)) [] h := by
  obtain ⟨v, h1, hc, hr, hj⟩ := hsp n h (by omega) hJ (xs (6 * n + 1)) (xs (6 * n + 2))
  refine l_aload (i := 1) C rfl (by decide +kernel) ?_
  refine l_arg C 1 ⟨by omega, hL⟩ (by decide) (by decide +kernel) ?_
  refine l_arg C 2 ⟨by omega, hL⟩ (by decide) (by decide +kernel) ?_
  refine l_call C ok_C_depth (as := [.int (xs (6 * n + 1)), .int (xs (6 * n + 2))]) (st := []) ⟨wv_lC_depth, wv_iC_depth, wv_sC_depth, wi_C, ds_C_depth, Nat.le_of_ble_eq_true rfl, Nat.le_of_ble_eq_true rfl⟩ (s_C_depth hc) rfl (o := 0) (ci := 11) ⟨rfl, rfl⟩ rfl (Nat.le_of_ble_eq_true rfl) (by decide +kernel) rfl ?_
  refine l_aload (i := 2) C rfl (by decide +kernel) ?_
  refine l_arg C 1 ⟨by omega, hL⟩ (by decide) (by decide +kernel) ?_
  refine l_arg C 2 ⟨by omega, hL⟩ (by decide) (by decide +kernel) ?_
  refine l_call C ok_R_depth (as := [.int (xs (6 * n + 1)), .int (xs (6 * n + 2))]) (st := [.int v]) ⟨wv_lR_depth, wv_iR_depth, wv_sR_depth, wi_R, ds_R_depth, Nat.le_of_ble_eq_true rfl, Nat.le_of_ble_eq_true rfl⟩ (s_R_depth hr) rfl (o := 79) (ci := 12) ⟨rfl, rfl⟩ rfl (Nat.le_of_ble_eq_true rfl) (by decide +kernel) rfl ?_
  refine l_cmp C (off := 473) (tgt := 1219) (by decide +kernel) (by decide) ?_
  exact kk _ hj
def Sp_deepest (J : Nat → pH → Prop) : Prop := ∀ (n : Nat) (h : pH), n < 512 → J n h → ∀ a0 : Int32, ∃ v : Int32, ∃ h1 : pH, ∃ h2 : pH, f_C_deepest a0 h = some (v, h1) ∧ f_R_deepest a0 h1 = some (v, h2) ∧ J (n + 1) h2
theorem wv_lC_deepest : (Cond.methodLink "CloudDepthLaw" (99 : Nat) ({ cls := "CloudDepth", name := "deepest", desc := "(I)I" } : MethodName)) ∈ LT := mG (List.mem_append_right _ (List.mem_append_right _ (List.mem_append_right _ (List.mem_append_right _ (List.mem_append_left _ (List.mem_of_getElem? (l := tables_1_4) (i := 106) rfl)))))) rfl
theorem wv_iC_deepest : (Cond.instanceMethod ({ cls := "CloudDepth", name := "deepest", desc := "(I)I" } : MethodName)) ∈ LT := mG (List.mem_append_right _ (List.mem_append_right _ (List.mem_append_right _ (List.mem_append_right _ (List.mem_append_left _ (List.mem_of_getElem? (l := tables_1_4) (i := 107) rfl)))))) rfl
theorem wv_sC_deepest : (Cond.selects "CloudDepth" ({ cls := "CloudDepth", name := "deepest", desc := "(I)I" } : MethodName) ({ cls := "CloudDepth", name := "deepest", desc := "(I)I" } : MethodName)) ∈ LT := mG (List.mem_append_right _ (List.mem_append_right _ (List.mem_append_right _ (List.mem_append_right _ (List.mem_append_left _ (List.mem_of_getElem? (l := tables_1_4) (i := 108) rfl)))))) rfl
theorem wv_lR_deepest : (Cond.methodLink "CloudDepthLaw" (102 : Nat) ({ cls := "CloudDepthModel", name := "deepest", desc := "(I)I" } : MethodName)) ∈ LT := mG (List.mem_append_right _ (List.mem_append_right _ (List.mem_append_right _ (List.mem_append_right _ (List.mem_append_right _ (List.mem_append_right _ (List.mem_append_right _ (List.mem_of_getElem? (l := tables_1_7) (i := 29) rfl)))))))) rfl
theorem wv_iR_deepest : (Cond.instanceMethod ({ cls := "CloudDepthModel", name := "deepest", desc := "(I)I" } : MethodName)) ∈ LT := mG (List.mem_append_right _ (List.mem_append_right _ (List.mem_append_right _ (List.mem_append_right _ (List.mem_append_right _ (List.mem_append_right _ (List.mem_append_right _ (List.mem_of_getElem? (l := tables_1_7) (i := 30) rfl)))))))) rfl
theorem wv_sR_deepest : (Cond.selects "CloudDepthModel" ({ cls := "CloudDepthModel", name := "deepest", desc := "(I)I" } : MethodName) ({ cls := "CloudDepthModel", name := "deepest", desc := "(I)I" } : MethodName)) ∈ LT := mG (List.mem_append_right _ (List.mem_append_right _ (List.mem_append_right _ (List.mem_append_right _ (List.mem_append_right _ (List.mem_append_right _ (List.mem_append_right _ (List.mem_of_getElem? (l := tables_1_7) (i := 31) rfl)))))))) rfl
set_option maxHeartbeats 4000000 in
theorem lc_deepest {E : pE} {p : Program} {e : Env} {s : State} {m : MethodId} {below : List Frame} {meth : Method} {c : Code} {b Ln : Nat} {xs : Nat → Int32} (C : LCx E p s m meth c b Ln xs) (hL : Ln ≤ 3072) {J : Nat → pH → Prop} (hsp : Sp_deepest J) {n : Nat} (hn : 6 * n + 6 ≤ Ln) {h : pH} (hJ : J n h) (kk : ∀ h : pH, J (n + 1) h → GL E p e s m below meth c b 1219 (lawLs (6 * n)) [] h) : GL E p e s m below meth c b 751 (lawLs (6 * n)) [] h := by
  obtain ⟨v, h1, h2, hc, hr, hj⟩ := hsp n h (by omega) hJ (xs (6 * n + 1))
  refine l_aload (i := 1) C rfl (by decide +kernel) ?_
  refine l_arg C 1 ⟨by omega, hL⟩ (by decide) (by decide +kernel) ?_
  refine l_call C ok_C_deepest (as := [.int (xs (6 * n + 1))]) (st := []) ⟨wv_lC_deepest, wv_iC_deepest, wv_sC_deepest, wi_C, ds_C_deepest, Nat.le_of_ble_eq_true rfl, Nat.le_of_ble_eq_true rfl⟩ (s_C_deepest hc) rfl (o := 0) (ci := 11) ⟨rfl, rfl⟩ rfl (Nat.le_of_ble_eq_true rfl) (by decide +kernel) rfl ?_
  refine l_aload (i := 2) C rfl (by decide +kernel) ?_
  refine l_arg C 1 ⟨by omega, hL⟩ (by decide) (by decide +kernel) ?_
  refine l_call C ok_R_deepest (as := [.int (xs (6 * n + 1))]) (st := [.int v]) ⟨wv_lR_deepest, wv_iR_deepest, wv_sR_deepest, wi_R, ds_R_deepest, Nat.le_of_ble_eq_true rfl, Nat.le_of_ble_eq_true rfl⟩ (s_R_deepest hr) rfl (o := 79) (ci := 12) ⟨rfl, rfl⟩ rfl (Nat.le_of_ble_eq_true rfl) (by decide +kernel) rfl ?_
  refine l_cmp C (off := 450) (tgt := 1219) (by decide +kernel) (by decide) ?_
  exact kk _ hj
def Sp_region (J : Nat → pH → Prop) : Prop := ∀ (n : Nat) (h : pH), n < 512 → J n h → ∀ a0 a1 : Int32, ∃ v : Int32, ∃ h1 : pH, f_C_region a0 a1 h = some (v, h1) ∧ f_R_region a0 a1 h1 = some v ∧ J (n + 1) h1
theorem wv_lC_region : (Cond.methodLink "CloudDepthLaw" (103 : Nat) ({ cls := "CloudDepth", name := "region", desc := "(II)I" } : MethodName)) ∈ LT := mG (List.mem_append_right _ (List.mem_append_right _ (List.mem_append_right _ (List.mem_append_right _ (List.mem_append_left _ (List.mem_of_getElem? (l := tables_1_4) (i := 119) rfl)))))) rfl
theorem wv_iC_region : (Cond.instanceMethod ({ cls := "CloudDepth", name := "region", desc := "(II)I" } : MethodName)) ∈ LT := mG (List.mem_append_right _ (List.mem_append_right _ (List.mem_append_right _ (List.mem_append_right _ (List.mem_append_left _ (List.mem_of_getElem? (l := tables_1_4) (i := 120) rfl)))))) rfl
theorem wv_sC_region : (Cond.selects "CloudDepth" ({ cls := "CloudDepth", name := "region", desc := "(II)I" } : MethodName) ({ cls := "CloudDepth", name := "region", desc := "(II)I" } : MethodName)) ∈ LT := mG (List.mem_append_right _ (List.mem_append_right _ (List.mem_append_right _ (List.mem_append_right _ (List.mem_append_left _ (List.mem_of_getElem? (l := tables_1_4) (i := 121) rfl)))))) rfl
theorem wv_lR_region : (Cond.methodLink "CloudDepthLaw" (106 : Nat) ({ cls := "CloudDepthModel", name := "region", desc := "(II)I" } : MethodName)) ∈ LT := mG (List.mem_append_right _ (List.mem_append_right _ (List.mem_append_right _ (List.mem_append_right _ (List.mem_append_right _ (List.mem_append_right _ (List.mem_append_right _ (List.mem_of_getElem? (l := tables_1_7) (i := 37) rfl)))))))) rfl
theorem wv_iR_region : (Cond.instanceMethod ({ cls := "CloudDepthModel", name := "region", desc := "(II)I" } : MethodName)) ∈ LT := mG (List.mem_append_right _ (List.mem_append_right _ (List.mem_append_right _ (List.mem_append_right _ (List.mem_append_right _ (List.mem_append_right _ (List.mem_append_right _ (List.mem_of_getElem? (l := tables_1_7) (i := 38) rfl)))))))) rfl
theorem wv_sR_region : (Cond.selects "CloudDepthModel" ({ cls := "CloudDepthModel", name := "region", desc := "(II)I" } : MethodName) ({ cls := "CloudDepthModel", name := "region", desc := "(II)I" } : MethodName)) ∈ LT := mG (List.mem_append_right _ (List.mem_append_right _ (List.mem_append_right _ (List.mem_append_right _ (List.mem_append_right _ (List.mem_append_right _ (List.mem_append_right _ (List.mem_of_getElem? (l := tables_1_7) (i := 39) rfl)))))))) rfl
set_option maxHeartbeats 4000000 in
theorem lc_region {E : pE} {p : Program} {e : Env} {s : State} {m : MethodId} {below : List Frame} {meth : Method} {c : Code} {b Ln : Nat} {xs : Nat → Int32} (C : LCx E p s m meth c b Ln xs) (hL : Ln ≤ 3072) {J : Nat → pH → Prop} (hsp : Sp_region J) {n : Nat} (hn : 6 * n + 6 ≤ Ln) {h : pH} (hJ : J n h) (kk : ∀ h : pH, J (n + 1) h → GL E p e s m below meth c b 1219 (lawLs (6 * n)) [] h) : GL E p e s m below meth c b 774 (lawLs (6 * n)) [] h := by
  obtain ⟨v, h1, hc, hr, hj⟩ := hsp n h (by omega) hJ (xs (6 * n + 1)) (xs (6 * n + 2))
  refine l_aload (i := 1) C rfl (by decide +kernel) ?_
  refine l_arg C 1 ⟨by omega, hL⟩ (by decide) (by decide +kernel) ?_
  refine l_arg C 2 ⟨by omega, hL⟩ (by decide) (by decide +kernel) ?_
  refine l_call C ok_C_region (as := [.int (xs (6 * n + 1)), .int (xs (6 * n + 2))]) (st := []) ⟨wv_lC_region, wv_iC_region, wv_sC_region, wi_C, ds_C_region, Nat.le_of_ble_eq_true rfl, Nat.le_of_ble_eq_true rfl⟩ (s_C_region hc) rfl (o := 0) (ci := 11) ⟨rfl, rfl⟩ rfl (Nat.le_of_ble_eq_true rfl) (by decide +kernel) rfl ?_
  refine l_aload (i := 2) C rfl (by decide +kernel) ?_
  refine l_arg C 1 ⟨by omega, hL⟩ (by decide) (by decide +kernel) ?_
  refine l_arg C 2 ⟨by omega, hL⟩ (by decide) (by decide +kernel) ?_
  refine l_call C ok_R_region (as := [.int (xs (6 * n + 1)), .int (xs (6 * n + 2))]) (st := [.int v]) ⟨wv_lR_region, wv_iR_region, wv_sR_region, wi_R, ds_R_region, Nat.le_of_ble_eq_true rfl, Nat.le_of_ble_eq_true rfl⟩ (s_R_region hr) rfl (o := 79) (ci := 12) ⟨rfl, rfl⟩ rfl (Nat.le_of_ble_eq_true rfl) (by decide +kernel) rfl ?_
  refine l_cmp C (off := 417) (tgt := 1219) (by decide +kernel) (by decide) ?_
  exact kk _ hj
def Sp_triangles (J : Nat → pH → Prop) : Prop := ∀ (n : Nat) (h : pH), n < 512 → J n h → ∀ a0 a1 : Int32, ∃ v : Int32, f_C_triangles a0 a1 h = some v ∧ f_R_triangles a0 a1 h = some v ∧ J (n + 1) h
theorem wv_lC_triangles : (Cond.methodLink "CloudDepthLaw" (107 : Nat) ({ cls := "CloudDepth", name := "triangles", desc := "(II)I" } : MethodName)) ∈ LT := mG (List.mem_append_right _ (List.mem_append_right _ (List.mem_append_right _ (List.mem_append_right _ (List.mem_append_left _ (List.mem_of_getElem? (l := tables_1_4) (i := 136) rfl)))))) rfl
theorem wv_iC_triangles : (Cond.instanceMethod ({ cls := "CloudDepth", name := "triangles", desc := "(II)I" } : MethodName)) ∈ LT := mG (List.mem_append_right _ (List.mem_append_right _ (List.mem_append_right _ (List.mem_append_right _ (List.mem_append_left _ (List.mem_of_getElem? (l := tables_1_4) (i := 137) rfl)))))) rfl
theorem wv_sC_triangles : (Cond.selects "CloudDepth" ({ cls := "CloudDepth", name := "triangles", desc := "(II)I" } : MethodName) ({ cls := "CloudDepth", name := "triangles", desc := "(II)I" } : MethodName)) ∈ LT := mG (List.mem_append_right _ (List.mem_append_right _ (List.mem_append_right _ (List.mem_append_right _ (List.mem_append_left _ (List.mem_of_getElem? (l := tables_1_4) (i := 138) rfl)))))) rfl
theorem wv_lR_triangles : (Cond.methodLink "CloudDepthLaw" (110 : Nat) ({ cls := "CloudDepthModel", name := "triangles", desc := "(II)I" } : MethodName)) ∈ LT := mG (List.mem_append_right _ (List.mem_append_right _ (List.mem_append_right _ (List.mem_append_right _ (List.mem_append_right _ (List.mem_append_right _ (List.mem_append_right _ (List.mem_of_getElem? (l := tables_1_7) (i := 10) rfl)))))))) rfl
theorem wv_iR_triangles : (Cond.instanceMethod ({ cls := "CloudDepthModel", name := "triangles", desc := "(II)I" } : MethodName)) ∈ LT := mG (List.mem_append_right _ (List.mem_append_right _ (List.mem_append_right _ (List.mem_append_right _ (List.mem_append_right _ (List.mem_append_right _ (List.mem_append_right _ (List.mem_of_getElem? (l := tables_1_7) (i := 11) rfl)))))))) rfl
theorem wv_sR_triangles : (Cond.selects "CloudDepthModel" ({ cls := "CloudDepthModel", name := "triangles", desc := "(II)I" } : MethodName) ({ cls := "CloudDepthModel", name := "triangles", desc := "(II)I" } : MethodName)) ∈ LT := mG (List.mem_append_right _ (List.mem_append_right _ (List.mem_append_right _ (List.mem_append_right _ (List.mem_append_right _ (List.mem_append_right _ (List.mem_append_right _ (List.mem_of_getElem? (l := tables_1_7) (i := 12) rfl)))))))) rfl
set_option maxHeartbeats 4000000 in
theorem lc_triangles {E : pE} {p : Program} {e : Env} {s : State} {m : MethodId} {below : List Frame} {meth : Method} {c : Code} {b Ln : Nat} {xs : Nat → Int32} (C : LCx E p s m meth c b Ln xs) (hL : Ln ≤ 3072) {J : Nat → pH → Prop} (hsp : Sp_triangles J) {n : Nat} (hn : 6 * n + 6 ≤ Ln) {h : pH} (hJ : J n h) (kk : ∀ h : pH, J (n + 1) h → GL E p e s m below meth c b 1219 (lawLs (6 * n)) [] h) : GL E p e s m below meth c b 807 (lawLs (6 * n)) [] h := by
  obtain ⟨v, hc, hr, hj⟩ := hsp n h (by omega) hJ (xs (6 * n + 1)) (xs (6 * n + 2))
  refine l_aload (i := 1) C rfl (by decide +kernel) ?_
  refine l_arg C 1 ⟨by omega, hL⟩ (by decide) (by decide +kernel) ?_
  refine l_arg C 2 ⟨by omega, hL⟩ (by decide) (by decide +kernel) ?_
  refine l_call C ok_C_triangles (as := [.int (xs (6 * n + 1)), .int (xs (6 * n + 2))]) (st := []) ⟨wv_lC_triangles, wv_iC_triangles, wv_sC_triangles, wi_C, ds_C_triangles, Nat.le_of_ble_eq_true rfl, Nat.le_of_ble_eq_true rfl⟩ (s_C_triangles hc) rfl (o := 0) (ci := 11) ⟨rfl, rfl⟩ rfl (Nat.le_of_ble_eq_true rfl) (by decide +kernel) rfl ?_
  refine l_aload (i := 2) C rfl (by decide +kernel) ?_
  refine l_arg C 1 ⟨by omega, hL⟩ (by decide) (by decide +kernel) ?_
  refine l_arg C 2 ⟨by omega, hL⟩ (by decide) (by decide +kernel) ?_
  refine l_call C ok_R_triangles (as := [.int (xs (6 * n + 1)), .int (xs (6 * n + 2))]) (st := [.int v]) ⟨wv_lR_triangles, wv_iR_triangles, wv_sR_triangles, wi_R, ds_R_triangles, Nat.le_of_ble_eq_true rfl, Nat.le_of_ble_eq_true rfl⟩ (s_R_triangles hr) rfl (o := 79) (ci := 12) ⟨rfl, rfl⟩ rfl (Nat.le_of_ble_eq_true rfl) (by decide +kernel) rfl ?_
  refine l_cmp C (off := 384) (tgt := 1219) (by decide +kernel) (by decide) ?_
  exact kk _ hj
def Sp_order (J : Nat → pH → Prop) : Prop := ∀ (n : Nat) (h : pH), n < 512 → J n h → ∀ a0 a1 : Int32, ∃ v : Int32, f_C_order a0 a1 h = some v ∧ f_R_order a0 a1 h = some v ∧ J (n + 1) h
theorem wv_lC_order : (Cond.methodLink "CloudDepthLaw" (111 : Nat) ({ cls := "CloudDepth", name := "order", desc := "(II)I" } : MethodName)) ∈ LT := mG (List.mem_append_right _ (List.mem_append_right _ (List.mem_append_right _ (List.mem_append_right _ (List.mem_append_left _ (List.mem_of_getElem? (l := tables_1_4) (i := 186) rfl)))))) rfl
theorem wv_iC_order : (Cond.instanceMethod ({ cls := "CloudDepth", name := "order", desc := "(II)I" } : MethodName)) ∈ LT := mG (List.mem_append_right _ (List.mem_append_right _ (List.mem_append_right _ (List.mem_append_right _ (List.mem_append_left _ (List.mem_of_getElem? (l := tables_1_4) (i := 187) rfl)))))) rfl
theorem wv_sC_order : (Cond.selects "CloudDepth" ({ cls := "CloudDepth", name := "order", desc := "(II)I" } : MethodName) ({ cls := "CloudDepth", name := "order", desc := "(II)I" } : MethodName)) ∈ LT := mG (List.mem_append_right _ (List.mem_append_right _ (List.mem_append_right _ (List.mem_append_right _ (List.mem_append_left _ (List.mem_of_getElem? (l := tables_1_4) (i := 188) rfl)))))) rfl
theorem wv_lR_order : (Cond.methodLink "CloudDepthLaw" (114 : Nat) ({ cls := "CloudDepthModel", name := "order", desc := "(II)I" } : MethodName)) ∈ LT := mG (List.mem_append_right _ (List.mem_append_right _ (List.mem_append_right _ (List.mem_append_right _ (List.mem_append_right _ (List.mem_append_right _ (List.mem_append_right _ (List.mem_of_getElem? (l := tables_1_7) (i := 73) rfl)))))))) rfl
theorem wv_iR_order : (Cond.instanceMethod ({ cls := "CloudDepthModel", name := "order", desc := "(II)I" } : MethodName)) ∈ LT := mG (List.mem_append_right _ (List.mem_append_right _ (List.mem_append_right _ (List.mem_append_right _ (List.mem_append_right _ (List.mem_append_right _ (List.mem_append_right _ (List.mem_of_getElem? (l := tables_1_7) (i := 74) rfl)))))))) rfl
theorem wv_sR_order : (Cond.selects "CloudDepthModel" ({ cls := "CloudDepthModel", name := "order", desc := "(II)I" } : MethodName) ({ cls := "CloudDepthModel", name := "order", desc := "(II)I" } : MethodName)) ∈ LT := mG (List.mem_append_right _ (List.mem_append_right _ (List.mem_append_right _ (List.mem_append_right _ (List.mem_append_right _ (List.mem_append_right _ (List.mem_append_right _ (List.mem_of_getElem? (l := tables_1_7) (i := 75) rfl)))))))) rfl
set_option maxHeartbeats 4000000 in
theorem lc_order {E : pE} {p : Program} {e : Env} {s : State} {m : MethodId} {below : List Frame} {meth : Method} {c : Code} {b Ln : Nat} {xs : Nat → Int32} (C : LCx E p s m meth c b Ln xs) (hL : Ln ≤ 3072) {J : Nat → pH → Prop} (hsp : Sp_order J) {n : Nat} (hn : 6 * n + 6 ≤ Ln) {h : pH} (hJ : J n h) (kk : ∀ h : pH, J (n + 1) h → GL E p e s m below meth c b 1219 (lawLs (6 * n)) [] h) : GL E p e s m below meth c b 840 (lawLs (6 * n)) [] h := by
  obtain ⟨v, hc, hr, hj⟩ := hsp n h (by omega) hJ (xs (6 * n + 1)) (xs (6 * n + 2))
  refine l_aload (i := 1) C rfl (by decide +kernel) ?_
  refine l_arg C 1 ⟨by omega, hL⟩ (by decide) (by decide +kernel) ?_
  refine l_arg C 2 ⟨by omega, hL⟩ (by decide) (by decide +kernel) ?_
  refine l_call C ok_C_order (as := [.int (xs (6 * n + 1)), .int (xs (6 * n + 2))]) (st := []) ⟨wv_lC_order, wv_iC_order, wv_sC_order, wi_C, ds_C_order, Nat.le_of_ble_eq_true rfl, Nat.le_of_ble_eq_true rfl⟩ (s_C_order hc) rfl (o := 0) (ci := 11) ⟨rfl, rfl⟩ rfl (Nat.le_of_ble_eq_true rfl) (by decide +kernel) rfl ?_
  refine l_aload (i := 2) C rfl (by decide +kernel) ?_
  refine l_arg C 1 ⟨by omega, hL⟩ (by decide) (by decide +kernel) ?_
  refine l_arg C 2 ⟨by omega, hL⟩ (by decide) (by decide +kernel) ?_
  refine l_call C ok_R_order (as := [.int (xs (6 * n + 1)), .int (xs (6 * n + 2))]) (st := [.int v]) ⟨wv_lR_order, wv_iR_order, wv_sR_order, wi_R, ds_R_order, Nat.le_of_ble_eq_true rfl, Nat.le_of_ble_eq_true rfl⟩ (s_R_order hr) rfl (o := 79) (ci := 12) ⟨rfl, rfl⟩ rfl (Nat.le_of_ble_eq_true rfl) (by decide +kernel) rfl ?_
  refine l_cmp C (off := 351) (tgt := 1219) (by decide +kernel) (by decide) ?_
  exact kk _ hj
def Sp_crossing (J : Nat → pH → Prop) : Prop := ∀ (n : Nat) (h : pH), n < 512 → J n h → ∀ a0 a1 : Int32, ∃ v : Int32, ∃ h1 : pH, ∃ h2 : pH, f_C_crossing a0 a1 h = some (v, h1) ∧ f_R_crossing a0 a1 h1 = some (v, h2) ∧ J (n + 1) h2
theorem wv_lC_crossing : (Cond.methodLink "CloudDepthLaw" (115 : Nat) ({ cls := "CloudDepth", name := "crossing", desc := "(II)I" } : MethodName)) ∈ LT := mG (List.mem_append_right _ (List.mem_append_right _ (List.mem_append_right _ (List.mem_append_right _ (List.mem_append_left _ (List.mem_of_getElem? (l := tables_1_4) (i := 196) rfl)))))) rfl
theorem wv_iC_crossing : (Cond.instanceMethod ({ cls := "CloudDepth", name := "crossing", desc := "(II)I" } : MethodName)) ∈ LT := mG (List.mem_append_right _ (List.mem_append_right _ (List.mem_append_right _ (List.mem_append_right _ (List.mem_append_left _ (List.mem_of_getElem? (l := tables_1_4) (i := 197) rfl)))))) rfl
theorem wv_sC_crossing : (Cond.selects "CloudDepth" ({ cls := "CloudDepth", name := "crossing", desc := "(II)I" } : MethodName) ({ cls := "CloudDepth", name := "crossing", desc := "(II)I" } : MethodName)) ∈ LT := mG (List.mem_append_right _ (List.mem_append_right _ (List.mem_append_right _ (List.mem_append_right _ (List.mem_append_left _ (List.mem_of_getElem? (l := tables_1_4) (i := 198) rfl)))))) rfl
theorem wv_lR_crossing : (Cond.methodLink "CloudDepthLaw" (118 : Nat) ({ cls := "CloudDepthModel", name := "crossing", desc := "(II)I" } : MethodName)) ∈ LT := mG (List.mem_append_right _ (List.mem_append_right _ (List.mem_append_right _ (List.mem_append_right _ (List.mem_append_right _ (List.mem_append_right _ (List.mem_append_right _ (List.mem_of_getElem? (l := tables_1_7) (i := 85) rfl)))))))) rfl
theorem wv_iR_crossing : (Cond.instanceMethod ({ cls := "CloudDepthModel", name := "crossing", desc := "(II)I" } : MethodName)) ∈ LT := mG (List.mem_append_right _ (List.mem_append_right _ (List.mem_append_right _ (List.mem_append_right _ (List.mem_append_right _ (List.mem_append_right _ (List.mem_append_right _ (List.mem_of_getElem? (l := tables_1_7) (i := 86) rfl)))))))) rfl
theorem wv_sR_crossing : (Cond.selects "CloudDepthModel" ({ cls := "CloudDepthModel", name := "crossing", desc := "(II)I" } : MethodName) ({ cls := "CloudDepthModel", name := "crossing", desc := "(II)I" } : MethodName)) ∈ LT := mG (List.mem_append_right _ (List.mem_append_right _ (List.mem_append_right _ (List.mem_append_right _ (List.mem_append_right _ (List.mem_append_right _ (List.mem_append_right _ (List.mem_of_getElem? (l := tables_1_7) (i := 87) rfl)))))))) rfl
set_option maxHeartbeats 4000000 in
theorem lc_crossing {E : pE} {p : Program} {e : Env} {s : State} {m : MethodId} {below : List Frame} {meth : Method} {c : Code} {b Ln : Nat} {xs : Nat → Int32} (C : LCx E p s m meth c b Ln xs) (hL : Ln ≤ 3072) {J : Nat → pH → Prop} (hsp : Sp_crossing J) {n : Nat} (hn : 6 * n + 6 ≤ Ln) {h : pH} (hJ : J n h) (kk : ∀ h : pH, J (n + 1) h → GL E p e s m below meth c b 1219 (lawLs (6 * n)) [] h) : GL E p e s m below meth c b 873 (lawLs (6 * n)) [] h := by
  obtain ⟨v, h1, h2, hc, hr, hj⟩ := hsp n h (by omega) hJ (xs (6 * n + 1)) (xs (6 * n + 2))
  refine l_aload (i := 1) C rfl (by decide +kernel) ?_
  refine l_arg C 1 ⟨by omega, hL⟩ (by decide) (by decide +kernel) ?_
  refine l_arg C 2 ⟨by omega, hL⟩ (by decide) (by decide +kernel) ?_
  refine l_call C ok_C_crossing (as := [.int (xs (6 * n + 1)), .int (xs (6 * n + 2))]) (st := []) ⟨wv_lC_crossing, wv_iC_crossing, wv_sC_crossing, wi_C, ds_C_crossing, Nat.le_of_ble_eq_true rfl, Nat.le_of_ble_eq_true rfl⟩ (s_C_crossing hc) rfl (o := 0) (ci := 11) ⟨rfl, rfl⟩ rfl (Nat.le_of_ble_eq_true rfl) (by decide +kernel) rfl ?_
  refine l_aload (i := 2) C rfl (by decide +kernel) ?_
  refine l_arg C 1 ⟨by omega, hL⟩ (by decide) (by decide +kernel) ?_
  refine l_arg C 2 ⟨by omega, hL⟩ (by decide) (by decide +kernel) ?_
  refine l_call C ok_R_crossing (as := [.int (xs (6 * n + 1)), .int (xs (6 * n + 2))]) (st := [.int v]) ⟨wv_lR_crossing, wv_iR_crossing, wv_sR_crossing, wi_R, ds_R_crossing, Nat.le_of_ble_eq_true rfl, Nat.le_of_ble_eq_true rfl⟩ (s_R_crossing hr) rfl (o := 79) (ci := 12) ⟨rfl, rfl⟩ rfl (Nat.le_of_ble_eq_true rfl) (by decide +kernel) rfl ?_
  refine l_cmp C (off := 318) (tgt := 1219) (by decide +kernel) (by decide) ?_
  exact kk _ hj
def Sp_bends (J : Nat → pH → Prop) : Prop := ∀ (n : Nat) (h : pH), n < 512 → J n h → ∀ a0 : Int32, ∃ v : Int32, ∃ h1 : pH, ∃ h2 : pH, f_C_bends a0 h = some (v, h1) ∧ f_R_bends a0 h1 = some (v, h2) ∧ J (n + 1) h2
theorem wv_lC_bends : (Cond.methodLink "CloudDepthLaw" (119 : Nat) ({ cls := "CloudDepth", name := "bends", desc := "(I)I" } : MethodName)) ∈ LT := mG (List.mem_append_right _ (List.mem_append_right _ (List.mem_append_right _ (List.mem_append_right _ (List.mem_append_right _ (List.mem_append_left _ (List.mem_of_getElem? (l := tables_1_5) (i := 3) rfl))))))) rfl
theorem wv_iC_bends : (Cond.instanceMethod ({ cls := "CloudDepth", name := "bends", desc := "(I)I" } : MethodName)) ∈ LT := mG (List.mem_append_right _ (List.mem_append_right _ (List.mem_append_right _ (List.mem_append_right _ (List.mem_append_right _ (List.mem_append_left _ (List.mem_of_getElem? (l := tables_1_5) (i := 4) rfl))))))) rfl
theorem wv_sC_bends : (Cond.selects "CloudDepth" ({ cls := "CloudDepth", name := "bends", desc := "(I)I" } : MethodName) ({ cls := "CloudDepth", name := "bends", desc := "(I)I" } : MethodName)) ∈ LT := mG (List.mem_append_right _ (List.mem_append_right _ (List.mem_append_right _ (List.mem_append_right _ (List.mem_append_right _ (List.mem_append_left _ (List.mem_of_getElem? (l := tables_1_5) (i := 5) rfl))))))) rfl
theorem wv_lR_bends : (Cond.methodLink "CloudDepthLaw" (122 : Nat) ({ cls := "CloudDepthModel", name := "bends", desc := "(I)I" } : MethodName)) ∈ LT := mG (List.mem_append_right _ (List.mem_append_right _ (List.mem_append_right _ (List.mem_append_right _ (List.mem_append_right _ (List.mem_append_right _ (List.mem_append_right _ (List.mem_of_getElem? (l := tables_1_7) (i := 96) rfl)))))))) rfl
theorem wv_iR_bends : (Cond.instanceMethod ({ cls := "CloudDepthModel", name := "bends", desc := "(I)I" } : MethodName)) ∈ LT := mG (List.mem_append_right _ (List.mem_append_right _ (List.mem_append_right _ (List.mem_append_right _ (List.mem_append_right _ (List.mem_append_right _ (List.mem_append_right _ (List.mem_of_getElem? (l := tables_1_7) (i := 97) rfl)))))))) rfl
theorem wv_sR_bends : (Cond.selects "CloudDepthModel" ({ cls := "CloudDepthModel", name := "bends", desc := "(I)I" } : MethodName) ({ cls := "CloudDepthModel", name := "bends", desc := "(I)I" } : MethodName)) ∈ LT := mG (List.mem_append_right _ (List.mem_append_right _ (List.mem_append_right _ (List.mem_append_right _ (List.mem_append_right _ (List.mem_append_right _ (List.mem_append_right _ (List.mem_of_getElem? (l := tables_1_7) (i := 98) rfl)))))))) rfl
set_option maxHeartbeats 4000000 in
theorem lc_bends {E : pE} {p : Program} {e : Env} {s : State} {m : MethodId} {below : List Frame} {meth : Method} {c : Code} {b Ln : Nat} {xs : Nat → Int32} (C : LCx E p s m meth c b Ln xs) (hL : Ln ≤ 3072) {J : Nat → pH → Prop} (hsp : Sp_bends J) {n : Nat} (hn : 6 * n + 6 ≤ Ln) {h : pH} (hJ : J n h) (kk : ∀ h : pH, J (n + 1) h → GL E p e s m below meth c b 1219 (lawLs (6 * n)) [] h) : GL E p e s m below meth c b 906 (lawLs (6 * n)) [] h := by
  obtain ⟨v, h1, h2, hc, hr, hj⟩ := hsp n h (by omega) hJ (xs (6 * n + 1))
  refine l_aload (i := 1) C rfl (by decide +kernel) ?_
  refine l_arg C 1 ⟨by omega, hL⟩ (by decide) (by decide +kernel) ?_
  refine l_call C ok_C_bends (as := [.int (xs (6 * n + 1))]) (st := []) ⟨wv_lC_bends, wv_iC_bends, wv_sC_bends, wi_C, ds_C_bends, Nat.le_of_ble_eq_true rfl, Nat.le_of_ble_eq_true rfl⟩ (s_C_bends hc) rfl (o := 0) (ci := 11) ⟨rfl, rfl⟩ rfl (Nat.le_of_ble_eq_true rfl) (by decide +kernel) rfl ?_
  refine l_aload (i := 2) C rfl (by decide +kernel) ?_
  refine l_arg C 1 ⟨by omega, hL⟩ (by decide) (by decide +kernel) ?_
  refine l_call C ok_R_bends (as := [.int (xs (6 * n + 1))]) (st := [.int v]) ⟨wv_lR_bends, wv_iR_bends, wv_sR_bends, wi_R, ds_R_bends, Nat.le_of_ble_eq_true rfl, Nat.le_of_ble_eq_true rfl⟩ (s_R_bends hr) rfl (o := 79) (ci := 12) ⟨rfl, rfl⟩ rfl (Nat.le_of_ble_eq_true rfl) (by decide +kernel) rfl ?_
  refine l_cmp C (off := 295) (tgt := 1219) (by decide +kernel) (by decide) ?_
  exact kk _ hj
def Sp_fit (J : Nat → pH → Prop) : Prop := ∀ (n : Nat) (h : pH), n < 512 → J n h → ∀ a0 a1 : Int32, ∃ v : Int32, ∃ h1 : pH, ∃ h2 : pH, f_C_fit a0 a1 h = some (v, h1) ∧ f_R_fit a0 a1 h1 = some (v, h2) ∧ J (n + 1) h2
theorem wv_lC_fit : (Cond.methodLink "CloudDepthLaw" (123 : Nat) ({ cls := "CloudDepth", name := "fit", desc := "(II)I" } : MethodName)) ∈ LT := mG (List.mem_append_right _ (List.mem_append_right _ (List.mem_append_right _ (List.mem_append_right _ (List.mem_append_right _ (List.mem_append_left _ (List.mem_of_getElem? (l := tables_1_5) (i := 15) rfl))))))) rfl
theorem wv_iC_fit : (Cond.instanceMethod ({ cls := "CloudDepth", name := "fit", desc := "(II)I" } : MethodName)) ∈ LT := mG (List.mem_append_right _ (List.mem_append_right _ (List.mem_append_right _ (List.mem_append_right _ (List.mem_append_right _ (List.mem_append_left _ (List.mem_of_getElem? (l := tables_1_5) (i := 16) rfl))))))) rfl
theorem wv_sC_fit : (Cond.selects "CloudDepth" ({ cls := "CloudDepth", name := "fit", desc := "(II)I" } : MethodName) ({ cls := "CloudDepth", name := "fit", desc := "(II)I" } : MethodName)) ∈ LT := mG (List.mem_append_right _ (List.mem_append_right _ (List.mem_append_right _ (List.mem_append_right _ (List.mem_append_right _ (List.mem_append_left _ (List.mem_of_getElem? (l := tables_1_5) (i := 17) rfl))))))) rfl
theorem wv_lR_fit : (Cond.methodLink "CloudDepthLaw" (126 : Nat) ({ cls := "CloudDepthModel", name := "fit", desc := "(II)I" } : MethodName)) ∈ LT := mG (List.mem_append_right _ (List.mem_append_right _ (List.mem_append_right _ (List.mem_append_right _ (List.mem_append_right _ (List.mem_append_right _ (List.mem_append_right _ (List.mem_of_getElem? (l := tables_1_7) (i := 100) rfl)))))))) rfl
theorem wv_iR_fit : (Cond.instanceMethod ({ cls := "CloudDepthModel", name := "fit", desc := "(II)I" } : MethodName)) ∈ LT := mG (List.mem_append_right _ (List.mem_append_right _ (List.mem_append_right _ (List.mem_append_right _ (List.mem_append_right _ (List.mem_append_right _ (List.mem_append_right _ (List.mem_of_getElem? (l := tables_1_7) (i := 101) rfl)))))))) rfl
theorem wv_sR_fit : (Cond.selects "CloudDepthModel" ({ cls := "CloudDepthModel", name := "fit", desc := "(II)I" } : MethodName) ({ cls := "CloudDepthModel", name := "fit", desc := "(II)I" } : MethodName)) ∈ LT := mG (List.mem_append_right _ (List.mem_append_right _ (List.mem_append_right _ (List.mem_append_right _ (List.mem_append_right _ (List.mem_append_right _ (List.mem_append_right _ (List.mem_of_getElem? (l := tables_1_7) (i := 102) rfl)))))))) rfl
set_option maxHeartbeats 4000000 in
theorem lc_fit {E : pE} {p : Program} {e : Env} {s : State} {m : MethodId} {below : List Frame} {meth : Method} {c : Code} {b Ln : Nat} {xs : Nat → Int32} (C : LCx E p s m meth c b Ln xs) (hL : Ln ≤ 3072) {J : Nat → pH → Prop} (hsp : Sp_fit J) {n : Nat} (hn : 6 * n + 6 ≤ Ln) {h : pH} (hJ : J n h) (kk : ∀ h : pH, J (n + 1) h → GL E p e s m below meth c b 1219 (lawLs (6 * n)) [] h) : GL E p e s m below meth c b 929 (lawLs (6 * n)) [] h := by
  obtain ⟨v, h1, h2, hc, hr, hj⟩ := hsp n h (by omega) hJ (xs (6 * n + 1)) (xs (6 * n + 2))
  refine l_aload (i := 1) C rfl (by decide +kernel) ?_
  refine l_arg C 1 ⟨by omega, hL⟩ (by decide) (by decide +kernel) ?_
  refine l_arg C 2 ⟨by omega, hL⟩ (by decide) (by decide +kernel) ?_
  refine l_call C ok_C_fit (as := [.int (xs (6 * n + 1)), .int (xs (6 * n + 2))]) (st := []) ⟨wv_lC_fit, wv_iC_fit, wv_sC_fit, wi_C, ds_C_fit, Nat.le_of_ble_eq_true rfl, Nat.le_of_ble_eq_true rfl⟩ (s_C_fit hc) rfl (o := 0) (ci := 11) ⟨rfl, rfl⟩ rfl (Nat.le_of_ble_eq_true rfl) (by decide +kernel) rfl ?_
  refine l_aload (i := 2) C rfl (by decide +kernel) ?_
  refine l_arg C 1 ⟨by omega, hL⟩ (by decide) (by decide +kernel) ?_
  refine l_arg C 2 ⟨by omega, hL⟩ (by decide) (by decide +kernel) ?_
  refine l_call C ok_R_fit (as := [.int (xs (6 * n + 1)), .int (xs (6 * n + 2))]) (st := [.int v]) ⟨wv_lR_fit, wv_iR_fit, wv_sR_fit, wi_R, ds_R_fit, Nat.le_of_ble_eq_true rfl, Nat.le_of_ble_eq_true rfl⟩ (s_R_fit hr) rfl (o := 79) (ci := 12) ⟨rfl, rfl⟩ rfl (Nat.le_of_ble_eq_true rfl) (by decide +kernel) rfl ?_
  refine l_cmp C (off := 262) (tgt := 1219) (by decide +kernel) (by decide) ?_
  exact kk _ hj
def Sp_best (J : Nat → pH → Prop) : Prop := ∀ (n : Nat) (h : pH), n < 512 → J n h → ∀ a0 : Int32, ∃ v : Int32, ∃ h1 : pH, ∃ h2 : pH, f_C_best a0 h = some (v, h1) ∧ f_R_best a0 h1 = some (v, h2) ∧ J (n + 1) h2
theorem wv_lC_best : (Cond.methodLink "CloudDepthLaw" (127 : Nat) ({ cls := "CloudDepth", name := "best", desc := "(I)I" } : MethodName)) ∈ LT := mG (List.mem_append_right _ (List.mem_append_right _ (List.mem_append_right _ (List.mem_append_right _ (List.mem_append_right _ (List.mem_append_left _ (List.mem_of_getElem? (l := tables_1_5) (i := 28) rfl))))))) rfl
theorem wv_iC_best : (Cond.instanceMethod ({ cls := "CloudDepth", name := "best", desc := "(I)I" } : MethodName)) ∈ LT := mG (List.mem_append_right _ (List.mem_append_right _ (List.mem_append_right _ (List.mem_append_right _ (List.mem_append_right _ (List.mem_append_left _ (List.mem_of_getElem? (l := tables_1_5) (i := 29) rfl))))))) rfl
theorem wv_sC_best : (Cond.selects "CloudDepth" ({ cls := "CloudDepth", name := "best", desc := "(I)I" } : MethodName) ({ cls := "CloudDepth", name := "best", desc := "(I)I" } : MethodName)) ∈ LT := mG (List.mem_append_right _ (List.mem_append_right _ (List.mem_append_right _ (List.mem_append_right _ (List.mem_append_right _ (List.mem_append_left _ (List.mem_of_getElem? (l := tables_1_5) (i := 30) rfl))))))) rfl
theorem wv_lR_best : (Cond.methodLink "CloudDepthLaw" (130 : Nat) ({ cls := "CloudDepthModel", name := "best", desc := "(I)I" } : MethodName)) ∈ LT := mG (List.mem_append_right _ (List.mem_append_right _ (List.mem_append_right _ (List.mem_append_right _ (List.mem_append_right _ (List.mem_append_right _ (List.mem_append_right _ (List.mem_of_getElem? (l := tables_1_7) (i := 108) rfl)))))))) rfl
theorem wv_iR_best : (Cond.instanceMethod ({ cls := "CloudDepthModel", name := "best", desc := "(I)I" } : MethodName)) ∈ LT := mG (List.mem_append_right _ (List.mem_append_right _ (List.mem_append_right _ (List.mem_append_right _ (List.mem_append_right _ (List.mem_append_right _ (List.mem_append_right _ (List.mem_of_getElem? (l := tables_1_7) (i := 109) rfl)))))))) rfl
theorem wv_sR_best : (Cond.selects "CloudDepthModel" ({ cls := "CloudDepthModel", name := "best", desc := "(I)I" } : MethodName) ({ cls := "CloudDepthModel", name := "best", desc := "(I)I" } : MethodName)) ∈ LT := mG (List.mem_append_right _ (List.mem_append_right _ (List.mem_append_right _ (List.mem_append_right _ (List.mem_append_right _ (List.mem_append_right _ (List.mem_append_right _ (List.mem_of_getElem? (l := tables_1_7) (i := 110) rfl)))))))) rfl
set_option maxHeartbeats 4000000 in
theorem lc_best {E : pE} {p : Program} {e : Env} {s : State} {m : MethodId} {below : List Frame} {meth : Method} {c : Code} {b Ln : Nat} {xs : Nat → Int32} (C : LCx E p s m meth c b Ln xs) (hL : Ln ≤ 3072) {J : Nat → pH → Prop} (hsp : Sp_best J) {n : Nat} (hn : 6 * n + 6 ≤ Ln) {h : pH} (hJ : J n h) (kk : ∀ h : pH, J (n + 1) h → GL E p e s m below meth c b 1219 (lawLs (6 * n)) [] h) : GL E p e s m below meth c b 962 (lawLs (6 * n)) [] h := by
  obtain ⟨v, h1, h2, hc, hr, hj⟩ := hsp n h (by omega) hJ (xs (6 * n + 1))
  refine l_aload (i := 1) C rfl (by decide +kernel) ?_
  refine l_arg C 1 ⟨by omega, hL⟩ (by decide) (by decide +kernel) ?_
  refine l_call C ok_C_best (as := [.int (xs (6 * n + 1))]) (st := []) ⟨wv_lC_best, wv_iC_best, wv_sC_best, wi_C, ds_C_best, Nat.le_of_ble_eq_true rfl, Nat.le_of_ble_eq_true rfl⟩ (s_C_best hc) rfl (o := 0) (ci := 11) ⟨rfl, rfl⟩ rfl (Nat.le_of_ble_eq_true rfl) (by decide +kernel) rfl ?_
  refine l_aload (i := 2) C rfl (by decide +kernel) ?_
  refine l_arg C 1 ⟨by omega, hL⟩ (by decide) (by decide +kernel) ?_
  refine l_call C ok_R_best (as := [.int (xs (6 * n + 1))]) (st := [.int v]) ⟨wv_lR_best, wv_iR_best, wv_sR_best, wi_R, ds_R_best, Nat.le_of_ble_eq_true rfl, Nat.le_of_ble_eq_true rfl⟩ (s_R_best hr) rfl (o := 79) (ci := 12) ⟨rfl, rfl⟩ rfl (Nat.le_of_ble_eq_true rfl) (by decide +kernel) rfl ?_
  refine l_cmp C (off := 239) (tgt := 1219) (by decide +kernel) (by decide) ?_
  exact kk _ hj
def Sp_halvingBoth (J : Nat → pH → Prop) : Prop := ∀ (n : Nat) (h : pH), n < 512 → J n h → ∀ a0 a1 : Int32, ∃ v : Int32, f_C_halvingBoth a0 a1 h = some v ∧ f_R_halvingBoth a0 a1 h = some v ∧ J (n + 1) h
theorem wv_lC_halvingBoth : (Cond.methodLink "CloudDepthLaw" (131 : Nat) ({ cls := "CloudDepth", name := "halvingBoth", desc := "(II)I" } : MethodName)) ∈ LT := mG (List.mem_append_right _ (List.mem_append_right _ (List.mem_append_right _ (List.mem_append_right _ (List.mem_append_left _ (List.mem_of_getElem? (l := tables_1_4) (i := 34) rfl)))))) rfl
theorem wv_iC_halvingBoth : (Cond.instanceMethod ({ cls := "CloudDepth", name := "halvingBoth", desc := "(II)I" } : MethodName)) ∈ LT := mG (List.mem_append_right _ (List.mem_append_right _ (List.mem_append_right _ (List.mem_append_right _ (List.mem_append_left _ (List.mem_of_getElem? (l := tables_1_4) (i := 35) rfl)))))) rfl
theorem wv_sC_halvingBoth : (Cond.selects "CloudDepth" ({ cls := "CloudDepth", name := "halvingBoth", desc := "(II)I" } : MethodName) ({ cls := "CloudDepth", name := "halvingBoth", desc := "(II)I" } : MethodName)) ∈ LT := mG (List.mem_append_right _ (List.mem_append_right _ (List.mem_append_right _ (List.mem_append_right _ (List.mem_append_left _ (List.mem_of_getElem? (l := tables_1_4) (i := 36) rfl)))))) rfl
theorem wv_lR_halvingBoth : (Cond.methodLink "CloudDepthLaw" (134 : Nat) ({ cls := "CloudDepthModel", name := "halvingBoth", desc := "(II)I" } : MethodName)) ∈ LT := mG (List.mem_append_right _ (List.mem_append_right _ (List.mem_append_right _ (List.mem_append_right _ (List.mem_append_right _ (List.mem_append_right _ (List.mem_append_left _ (List.mem_of_getElem? (l := tables_1_6) (i := 207) rfl)))))))) rfl
theorem wv_iR_halvingBoth : (Cond.instanceMethod ({ cls := "CloudDepthModel", name := "halvingBoth", desc := "(II)I" } : MethodName)) ∈ LT := mG (List.mem_append_right _ (List.mem_append_right _ (List.mem_append_right _ (List.mem_append_right _ (List.mem_append_right _ (List.mem_append_right _ (List.mem_append_left _ (List.mem_of_getElem? (l := tables_1_6) (i := 208) rfl)))))))) rfl
theorem wv_sR_halvingBoth : (Cond.selects "CloudDepthModel" ({ cls := "CloudDepthModel", name := "halvingBoth", desc := "(II)I" } : MethodName) ({ cls := "CloudDepthModel", name := "halvingBoth", desc := "(II)I" } : MethodName)) ∈ LT := mG (List.mem_append_right _ (List.mem_append_right _ (List.mem_append_right _ (List.mem_append_right _ (List.mem_append_right _ (List.mem_append_right _ (List.mem_append_left _ (List.mem_of_getElem? (l := tables_1_6) (i := 209) rfl)))))))) rfl
set_option maxHeartbeats 4000000 in
theorem lc_halvingBoth {E : pE} {p : Program} {e : Env} {s : State} {m : MethodId} {below : List Frame} {meth : Method} {c : Code} {b Ln : Nat} {xs : Nat → Int32} (C : LCx E p s m meth c b Ln xs) (hL : Ln ≤ 3072) {J : Nat → pH → Prop} (hsp : Sp_halvingBoth J) {n : Nat} (hn : 6 * n + 6 ≤ Ln) {h : pH} (hJ : J n h) (kk : ∀ h : pH, J (n + 1) h → GL E p e s m below meth c b 1219 (lawLs (6 * n)) [] h) : GL E p e s m below meth c b 985 (lawLs (6 * n)) [] h := by
  obtain ⟨v, hc, hr, hj⟩ := hsp n h (by omega) hJ (xs (6 * n + 1)) (xs (6 * n + 2))
  refine l_aload (i := 1) C rfl (by decide +kernel) ?_
  refine l_arg C 1 ⟨by omega, hL⟩ (by decide) (by decide +kernel) ?_
  refine l_arg C 2 ⟨by omega, hL⟩ (by decide) (by decide +kernel) ?_
  refine l_call C ok_C_halvingBoth (as := [.int (xs (6 * n + 1)), .int (xs (6 * n + 2))]) (st := []) ⟨wv_lC_halvingBoth, wv_iC_halvingBoth, wv_sC_halvingBoth, wi_C, ds_C_halvingBoth, Nat.le_of_ble_eq_true rfl, Nat.le_of_ble_eq_true rfl⟩ (s_C_halvingBoth hc) rfl (o := 0) (ci := 11) ⟨rfl, rfl⟩ rfl (Nat.le_of_ble_eq_true rfl) (by decide +kernel) rfl ?_
  refine l_aload (i := 2) C rfl (by decide +kernel) ?_
  refine l_arg C 1 ⟨by omega, hL⟩ (by decide) (by decide +kernel) ?_
  refine l_arg C 2 ⟨by omega, hL⟩ (by decide) (by decide +kernel) ?_
  refine l_call C ok_R_halvingBoth (as := [.int (xs (6 * n + 1)), .int (xs (6 * n + 2))]) (st := [.int v]) ⟨wv_lR_halvingBoth, wv_iR_halvingBoth, wv_sR_halvingBoth, wi_R, ds_R_halvingBoth, Nat.le_of_ble_eq_true rfl, Nat.le_of_ble_eq_true rfl⟩ (s_R_halvingBoth hr) rfl (o := 79) (ci := 12) ⟨rfl, rfl⟩ rfl (Nat.le_of_ble_eq_true rfl) (by decide +kernel) rfl ?_
  refine l_cmp C (off := 206) (tgt := 1219) (by decide +kernel) (by decide) ?_
  exact kk _ hj
def Sp_four (J : Nat → pH → Prop) : Prop := ∀ (n : Nat) (h : pH), n < 512 → J n h → ∀ a0 a1 a2 a3 : Int32, ∃ v : Int32, ∃ h2 : pH, f_C_four a0 a1 a2 a3 h = some v ∧ f_R_four a0 a1 a2 a3 h = some (v, h2) ∧ J (n + 1) h2
theorem wv_lC_four : (Cond.methodLink "CloudDepthLaw" (135 : Nat) ({ cls := "CloudDepth", name := "four", desc := "(IIII)I" } : MethodName)) ∈ LT := mG (List.mem_append_right _ (List.mem_append_right _ (List.mem_append_right _ (List.mem_append_right _ (List.mem_append_left _ (List.mem_of_getElem? (l := tables_1_4) (i := 154) rfl)))))) rfl
theorem wv_iC_four : (Cond.instanceMethod ({ cls := "CloudDepth", name := "four", desc := "(IIII)I" } : MethodName)) ∈ LT := mG (List.mem_append_right _ (List.mem_append_right _ (List.mem_append_right _ (List.mem_append_right _ (List.mem_append_left _ (List.mem_of_getElem? (l := tables_1_4) (i := 155) rfl)))))) rfl
theorem wv_sC_four : (Cond.selects "CloudDepth" ({ cls := "CloudDepth", name := "four", desc := "(IIII)I" } : MethodName) ({ cls := "CloudDepth", name := "four", desc := "(IIII)I" } : MethodName)) ∈ LT := mG (List.mem_append_right _ (List.mem_append_right _ (List.mem_append_right _ (List.mem_append_right _ (List.mem_append_left _ (List.mem_of_getElem? (l := tables_1_4) (i := 156) rfl)))))) rfl
theorem wv_lR_four : (Cond.methodLink "CloudDepthLaw" (138 : Nat) ({ cls := "CloudDepthModel", name := "four", desc := "(IIII)I" } : MethodName)) ∈ LT := mG (List.mem_append_right _ (List.mem_append_right _ (List.mem_append_right _ (List.mem_append_right _ (List.mem_append_right _ (List.mem_append_right _ (List.mem_append_right _ (List.mem_of_getElem? (l := tables_1_7) (i := 3) rfl)))))))) rfl
theorem wv_iR_four : (Cond.instanceMethod ({ cls := "CloudDepthModel", name := "four", desc := "(IIII)I" } : MethodName)) ∈ LT := mG (List.mem_append_right _ (List.mem_append_right _ (List.mem_append_right _ (List.mem_append_right _ (List.mem_append_right _ (List.mem_append_right _ (List.mem_append_right _ (List.mem_of_getElem? (l := tables_1_7) (i := 4) rfl)))))))) rfl
theorem wv_sR_four : (Cond.selects "CloudDepthModel" ({ cls := "CloudDepthModel", name := "four", desc := "(IIII)I" } : MethodName) ({ cls := "CloudDepthModel", name := "four", desc := "(IIII)I" } : MethodName)) ∈ LT := mG (List.mem_append_right _ (List.mem_append_right _ (List.mem_append_right _ (List.mem_append_right _ (List.mem_append_right _ (List.mem_append_right _ (List.mem_append_right _ (List.mem_of_getElem? (l := tables_1_7) (i := 5) rfl)))))))) rfl
set_option maxHeartbeats 4000000 in
theorem lc_four {E : pE} {p : Program} {e : Env} {s : State} {m : MethodId} {below : List Frame} {meth : Method} {c : Code} {b Ln : Nat} {xs : Nat → Int32} (C : LCx E p s m meth c b Ln xs) (hL : Ln ≤ 3072) {J : Nat → pH → Prop} (hsp : Sp_four J) {n : Nat} (hn : 6 * n + 6 ≤ Ln) {h : pH} (hJ : J n h) (kk : ∀ h : pH, J (n + 1) h → GL E p e s m below meth c b 1219 (lawLs (6 * n)) [] h) : GL E p e s m below meth c b 1018 (lawLs (6 * n)) [] h := by
  obtain ⟨v, h2, hc, hr, hj⟩ := hsp n h (by omega) hJ (xs (6 * n + 1)) (xs (6 * n + 2)) (xs (6 * n + 3)) (xs (6 * n + 4))
  refine l_aload (i := 1) C rfl (by decide +kernel) ?_
  refine l_arg C 1 ⟨by omega, hL⟩ (by decide) (by decide +kernel) ?_
  refine l_arg C 2 ⟨by omega, hL⟩ (by decide) (by decide +kernel) ?_
  refine l_arg C 3 ⟨by omega, hL⟩ (by decide) (by decide +kernel) ?_
  refine l_arg C 4 ⟨by omega, hL⟩ (by decide) (by decide +kernel) ?_
  refine l_call C ok_C_four (as := [.int (xs (6 * n + 1)), .int (xs (6 * n + 2)), .int (xs (6 * n + 3)), .int (xs (6 * n + 4))]) (st := []) ⟨wv_lC_four, wv_iC_four, wv_sC_four, wi_C, ds_C_four, Nat.le_of_ble_eq_true rfl, Nat.le_of_ble_eq_true rfl⟩ (s_C_four hc) rfl (o := 0) (ci := 11) ⟨rfl, rfl⟩ rfl (Nat.le_of_ble_eq_true rfl) (by decide +kernel) rfl ?_
  refine l_aload (i := 2) C rfl (by decide +kernel) ?_
  refine l_arg C 1 ⟨by omega, hL⟩ (by decide) (by decide +kernel) ?_
  refine l_arg C 2 ⟨by omega, hL⟩ (by decide) (by decide +kernel) ?_
  refine l_arg C 3 ⟨by omega, hL⟩ (by decide) (by decide +kernel) ?_
  refine l_arg C 4 ⟨by omega, hL⟩ (by decide) (by decide +kernel) ?_
  refine l_call C ok_R_four (as := [.int (xs (6 * n + 1)), .int (xs (6 * n + 2)), .int (xs (6 * n + 3)), .int (xs (6 * n + 4))]) (st := [.int v]) ⟨wv_lR_four, wv_iR_four, wv_sR_four, wi_R, ds_R_four, Nat.le_of_ble_eq_true rfl, Nat.le_of_ble_eq_true rfl⟩ (s_R_four hr) rfl (o := 79) (ci := 12) ⟨rfl, rfl⟩ rfl (Nat.le_of_ble_eq_true rfl) (by decide +kernel) rfl ?_
  refine l_cmp C (off := 153) (tgt := 1219) (by decide +kernel) (by decide) ?_
  exact kk _ hj
def Sp_keeping (J : Nat → pH → Prop) : Prop := ∀ (n : Nat) (h : pH), n < 512 → J n h → ∀ a0 : Int32, ∃ v : Int32, f_C_keeping a0 h = some v ∧ f_R_keeping a0 h = some v ∧ J (n + 1) h
theorem wv_lC_keeping : (Cond.methodLink "CloudDepthLaw" (139 : Nat) ({ cls := "CloudDepth", name := "keeping", desc := "(I)I" } : MethodName)) ∈ LT := mG (List.mem_append_right _ (List.mem_append_right _ (List.mem_append_right _ (List.mem_append_right _ (List.mem_append_left _ (List.mem_of_getElem? (l := tables_1_4) (i := 174) rfl)))))) rfl
theorem wv_iC_keeping : (Cond.instanceMethod ({ cls := "CloudDepth", name := "keeping", desc := "(I)I" } : MethodName)) ∈ LT := mG (List.mem_append_right _ (List.mem_append_right _ (List.mem_append_right _ (List.mem_append_right _ (List.mem_append_left _ (List.mem_of_getElem? (l := tables_1_4) (i := 175) rfl)))))) rfl
theorem wv_sC_keeping : (Cond.selects "CloudDepth" ({ cls := "CloudDepth", name := "keeping", desc := "(I)I" } : MethodName) ({ cls := "CloudDepth", name := "keeping", desc := "(I)I" } : MethodName)) ∈ LT := mG (List.mem_append_right _ (List.mem_append_right _ (List.mem_append_right _ (List.mem_append_right _ (List.mem_append_left _ (List.mem_of_getElem? (l := tables_1_4) (i := 176) rfl)))))) rfl
theorem wv_lR_keeping : (Cond.methodLink "CloudDepthLaw" (142 : Nat) ({ cls := "CloudDepthModel", name := "keeping", desc := "(I)I" } : MethodName)) ∈ LT := mG (List.mem_append_right _ (List.mem_append_right _ (List.mem_append_right _ (List.mem_append_right _ (List.mem_append_right _ (List.mem_append_right _ (List.mem_append_right _ (List.mem_of_getElem? (l := tables_1_7) (i := 61) rfl)))))))) rfl
theorem wv_iR_keeping : (Cond.instanceMethod ({ cls := "CloudDepthModel", name := "keeping", desc := "(I)I" } : MethodName)) ∈ LT := mG (List.mem_append_right _ (List.mem_append_right _ (List.mem_append_right _ (List.mem_append_right _ (List.mem_append_right _ (List.mem_append_right _ (List.mem_append_right _ (List.mem_of_getElem? (l := tables_1_7) (i := 62) rfl)))))))) rfl
theorem wv_sR_keeping : (Cond.selects "CloudDepthModel" ({ cls := "CloudDepthModel", name := "keeping", desc := "(I)I" } : MethodName) ({ cls := "CloudDepthModel", name := "keeping", desc := "(I)I" } : MethodName)) ∈ LT := mG (List.mem_append_right _ (List.mem_append_right _ (List.mem_append_right _ (List.mem_append_right _ (List.mem_append_right _ (List.mem_append_right _ (List.mem_append_right _ (List.mem_of_getElem? (l := tables_1_7) (i := 63) rfl)))))))) rfl
set_option maxHeartbeats 4000000 in
theorem lc_keeping {E : pE} {p : Program} {e : Env} {s : State} {m : MethodId} {below : List Frame} {meth : Method} {c : Code} {b Ln : Nat} {xs : Nat → Int32} (C : LCx E p s m meth c b Ln xs) (hL : Ln ≤ 3072) {J : Nat → pH → Prop} (hsp : Sp_keeping J) {n : Nat} (hn : 6 * n + 6 ≤ Ln) {h : pH} (hJ : J n h) (kk : ∀ h : pH, J (n + 1) h → GL E p e s m below meth c b 1219 (lawLs (6 * n)) [] h) : GL E p e s m below meth c b 1071 (lawLs (6 * n)) [] h := by
  obtain ⟨v, hc, hr, hj⟩ := hsp n h (by omega) hJ (xs (6 * n + 1))
  refine l_aload (i := 1) C rfl (by decide +kernel) ?_
  refine l_arg C 1 ⟨by omega, hL⟩ (by decide) (by decide +kernel) ?_
  refine l_call C ok_C_keeping (as := [.int (xs (6 * n + 1))]) (st := []) ⟨wv_lC_keeping, wv_iC_keeping, wv_sC_keeping, wi_C, ds_C_keeping, Nat.le_of_ble_eq_true rfl, Nat.le_of_ble_eq_true rfl⟩ (s_C_keeping hc) rfl (o := 0) (ci := 11) ⟨rfl, rfl⟩ rfl (Nat.le_of_ble_eq_true rfl) (by decide +kernel) rfl ?_
  refine l_aload (i := 2) C rfl (by decide +kernel) ?_
  refine l_arg C 1 ⟨by omega, hL⟩ (by decide) (by decide +kernel) ?_
  refine l_call C ok_R_keeping (as := [.int (xs (6 * n + 1))]) (st := [.int v]) ⟨wv_lR_keeping, wv_iR_keeping, wv_sR_keeping, wi_R, ds_R_keeping, Nat.le_of_ble_eq_true rfl, Nat.le_of_ble_eq_true rfl⟩ (s_R_keeping hr) rfl (o := 79) (ci := 12) ⟨rfl, rfl⟩ rfl (Nat.le_of_ble_eq_true rfl) (by decide +kernel) rfl ?_
  refine l_cmp C (off := 130) (tgt := 1219) (by decide +kernel) (by decide) ?_
  exact kk _ hj
def Sp_splits (J : Nat → pH → Prop) : Prop := ∀ (n : Nat) (h : pH), n < 512 → J n h → ∃ v : Int32, ∃ h1 : pH, ∃ h2 : pH, f_C_splits h = some (v, h1) ∧ f_R_splits h1 = some (v, h2) ∧ J (n + 1) h2
theorem wv_lC_splits : (Cond.methodLink "CloudDepthLaw" (143 : Nat) ({ cls := "CloudDepth", name := "splits", desc := "()I" } : MethodName)) ∈ LT := mG (List.mem_append_right _ (List.mem_append_right _ (List.mem_append_right _ (List.mem_append_right _ (List.mem_append_left _ (List.mem_of_getElem? (l := tables_1_4) (i := 91) rfl)))))) rfl
theorem wv_iC_splits : (Cond.instanceMethod ({ cls := "CloudDepth", name := "splits", desc := "()I" } : MethodName)) ∈ LT := mG (List.mem_append_right _ (List.mem_append_right _ (List.mem_append_right _ (List.mem_append_right _ (List.mem_append_left _ (List.mem_of_getElem? (l := tables_1_4) (i := 92) rfl)))))) rfl
theorem wv_sC_splits : (Cond.selects "CloudDepth" ({ cls := "CloudDepth", name := "splits", desc := "()I" } : MethodName) ({ cls := "CloudDepth", name := "splits", desc := "()I" } : MethodName)) ∈ LT := mG (List.mem_append_right _ (List.mem_append_right _ (List.mem_append_right _ (List.mem_append_right _ (List.mem_append_left _ (List.mem_of_getElem? (l := tables_1_4) (i := 93) rfl)))))) rfl
theorem wv_lR_splits : (Cond.methodLink "CloudDepthLaw" (146 : Nat) ({ cls := "CloudDepthModel", name := "splits", desc := "()I" } : MethodName)) ∈ LT := mG (List.mem_append_right _ (List.mem_append_right _ (List.mem_append_right _ (List.mem_append_right _ (List.mem_append_right _ (List.mem_append_right _ (List.mem_append_left _ (List.mem_of_getElem? (l := tables_1_6) (i := 239) rfl)))))))) rfl
theorem wv_iR_splits : (Cond.instanceMethod ({ cls := "CloudDepthModel", name := "splits", desc := "()I" } : MethodName)) ∈ LT := mG (List.mem_append_right _ (List.mem_append_right _ (List.mem_append_right _ (List.mem_append_right _ (List.mem_append_right _ (List.mem_append_right _ (List.mem_append_right _ (List.mem_of_getElem? (l := tables_1_7) (i := 0) rfl)))))))) rfl
theorem wv_sR_splits : (Cond.selects "CloudDepthModel" ({ cls := "CloudDepthModel", name := "splits", desc := "()I" } : MethodName) ({ cls := "CloudDepthModel", name := "splits", desc := "()I" } : MethodName)) ∈ LT := mG (List.mem_append_right _ (List.mem_append_right _ (List.mem_append_right _ (List.mem_append_right _ (List.mem_append_right _ (List.mem_append_right _ (List.mem_append_right _ (List.mem_of_getElem? (l := tables_1_7) (i := 1) rfl)))))))) rfl
set_option maxHeartbeats 4000000 in
theorem lc_splits {E : pE} {p : Program} {e : Env} {s : State} {m : MethodId} {below : List Frame} {meth : Method} {c : Code} {b Ln : Nat} {xs : Nat → Int32} (C : LCx E p s m meth c b Ln xs) (hL : Ln ≤ 3072) {J : Nat → pH → Prop} (hsp : Sp_splits J) {n : Nat} (hn : 6 * n + 6 ≤ Ln) {h : pH} (hJ : J n h) (kk : ∀ h : pH, J (n + 1) h → GL E p e s m below meth c b 1219 (lawLs (6 * n)) [] h) : GL E p e s m below meth c b 1094 (lawLs (6 * n)) [] h := by
  obtain ⟨v, h1, h2, hc, hr, hj⟩ := hsp n h (by omega) hJ
  refine l_aload (i := 1) C rfl (by decide +kernel) ?_
  refine l_call C ok_C_splits (as := []) (st := []) ⟨wv_lC_splits, wv_iC_splits, wv_sC_splits, wi_C, ds_C_splits, Nat.le_of_ble_eq_true rfl, Nat.le_of_ble_eq_true rfl⟩ (s_C_splits hc) rfl (o := 0) (ci := 11) ⟨rfl, rfl⟩ rfl (Nat.le_of_ble_eq_true rfl) (by decide +kernel) rfl ?_
  refine l_aload (i := 2) C rfl (by decide +kernel) ?_
  refine l_call C ok_R_splits (as := []) (st := [.int v]) ⟨wv_lR_splits, wv_iR_splits, wv_sR_splits, wi_R, ds_R_splits, Nat.le_of_ble_eq_true rfl, Nat.le_of_ble_eq_true rfl⟩ (s_R_splits hr) rfl (o := 79) (ci := 12) ⟨rfl, rfl⟩ rfl (Nat.le_of_ble_eq_true rfl) (by decide +kernel) rfl ?_
  refine l_cmp C (off := 117) (tgt := 1219) (by decide +kernel) (by decide) ?_
  exact kk _ hj
def Sp_fresh (J : Nat → pH → Prop) : Prop := ∀ (n : Nat) (h : pH), n < 512 → J n h → ∀ a0 a1 a2 : Int32, ∃ v : Int32, ∃ h1 : pH, ∃ h2 : pH, f_C_fresh a0 a1 a2 h = some (v, h1) ∧ f_R_fresh a0 a1 a2 h1 = some (v, h2) ∧ J (n + 1) h2
theorem wv_lC_fresh : (Cond.methodLink "CloudDepthLaw" (147 : Nat) ({ cls := "CloudDepth", name := "fresh", desc := "(III)I" } : MethodName)) ∈ LT := mG (List.mem_append_right _ (List.mem_append_right _ (List.mem_append_right _ (List.mem_append_right _ (List.mem_append_left _ (List.mem_of_getElem? (l := tables_1_4) (i := 128) rfl)))))) rfl
theorem wv_iC_fresh : (Cond.instanceMethod ({ cls := "CloudDepth", name := "fresh", desc := "(III)I" } : MethodName)) ∈ LT := mG (List.mem_append_right _ (List.mem_append_right _ (List.mem_append_right _ (List.mem_append_right _ (List.mem_append_left _ (List.mem_of_getElem? (l := tables_1_4) (i := 129) rfl)))))) rfl
theorem wv_sC_fresh : (Cond.selects "CloudDepth" ({ cls := "CloudDepth", name := "fresh", desc := "(III)I" } : MethodName) ({ cls := "CloudDepth", name := "fresh", desc := "(III)I" } : MethodName)) ∈ LT := mG (List.mem_append_right _ (List.mem_append_right _ (List.mem_append_right _ (List.mem_append_right _ (List.mem_append_left _ (List.mem_of_getElem? (l := tables_1_4) (i := 130) rfl)))))) rfl
theorem wv_lR_fresh : (Cond.methodLink "CloudDepthLaw" (150 : Nat) ({ cls := "CloudDepthModel", name := "fresh", desc := "(III)I" } : MethodName)) ∈ LT := mG (List.mem_append_right _ (List.mem_append_right _ (List.mem_append_right _ (List.mem_append_right _ (List.mem_append_right _ (List.mem_append_right _ (List.mem_append_right _ (List.mem_of_getElem? (l := tables_1_7) (i := 69) rfl)))))))) rfl
theorem wv_iR_fresh : (Cond.instanceMethod ({ cls := "CloudDepthModel", name := "fresh", desc := "(III)I" } : MethodName)) ∈ LT := mG (List.mem_append_right _ (List.mem_append_right _ (List.mem_append_right _ (List.mem_append_right _ (List.mem_append_right _ (List.mem_append_right _ (List.mem_append_right _ (List.mem_of_getElem? (l := tables_1_7) (i := 70) rfl)))))))) rfl
theorem wv_sR_fresh : (Cond.selects "CloudDepthModel" ({ cls := "CloudDepthModel", name := "fresh", desc := "(III)I" } : MethodName) ({ cls := "CloudDepthModel", name := "fresh", desc := "(III)I" } : MethodName)) ∈ LT := mG (List.mem_append_right _ (List.mem_append_right _ (List.mem_append_right _ (List.mem_append_right _ (List.mem_append_right _ (List.mem_append_right _ (List.mem_append_right _ (List.mem_of_getElem? (l := tables_1_7) (i := 71) rfl)))))))) rfl
set_option maxHeartbeats 4000000 in
theorem lc_fresh {E : pE} {p : Program} {e : Env} {s : State} {m : MethodId} {below : List Frame} {meth : Method} {c : Code} {b Ln : Nat} {xs : Nat → Int32} (C : LCx E p s m meth c b Ln xs) (hL : Ln ≤ 3072) {J : Nat → pH → Prop} (hsp : Sp_fresh J) {n : Nat} (hn : 6 * n + 6 ≤ Ln) {h : pH} (hJ : J n h) (kk : ∀ h : pH, J (n + 1) h → GL E p e s m below meth c b 1219 (lawLs (6 * n)) [] h) : GL E p e s m below meth c b 1107 (lawLs (6 * n)) [] h := by
  obtain ⟨v, h1, h2, hc, hr, hj⟩ := hsp n h (by omega) hJ (xs (6 * n + 1)) (xs (6 * n + 2)) (xs (6 * n + 3))
  refine l_aload (i := 1) C rfl (by decide +kernel) ?_
  refine l_arg C 1 ⟨by omega, hL⟩ (by decide) (by decide +kernel) ?_
  refine l_arg C 2 ⟨by omega, hL⟩ (by decide) (by decide +kernel) ?_
  refine l_arg C 3 ⟨by omega, hL⟩ (by decide) (by decide +kernel) ?_
  refine l_call C ok_C_fresh (as := [.int (xs (6 * n + 1)), .int (xs (6 * n + 2)), .int (xs (6 * n + 3))]) (st := []) ⟨wv_lC_fresh, wv_iC_fresh, wv_sC_fresh, wi_C, ds_C_fresh, Nat.le_of_ble_eq_true rfl, Nat.le_of_ble_eq_true rfl⟩ (s_C_fresh hc) rfl (o := 0) (ci := 11) ⟨rfl, rfl⟩ rfl (Nat.le_of_ble_eq_true rfl) (by decide +kernel) rfl ?_
  refine l_aload (i := 2) C rfl (by decide +kernel) ?_
  refine l_arg C 1 ⟨by omega, hL⟩ (by decide) (by decide +kernel) ?_
  refine l_arg C 2 ⟨by omega, hL⟩ (by decide) (by decide +kernel) ?_
  refine l_arg C 3 ⟨by omega, hL⟩ (by decide) (by decide +kernel) ?_
  refine l_call C ok_R_fresh (as := [.int (xs (6 * n + 1)), .int (xs (6 * n + 2)), .int (xs (6 * n + 3))]) (st := [.int v]) ⟨wv_lR_fresh, wv_iR_fresh, wv_sR_fresh, wi_R, ds_R_fresh, Nat.le_of_ble_eq_true rfl, Nat.le_of_ble_eq_true rfl⟩ (s_R_fresh hr) rfl (o := 79) (ci := 12) ⟨rfl, rfl⟩ rfl (Nat.le_of_ble_eq_true rfl) (by decide +kernel) rfl ?_
  refine l_cmp C (off := 74) (tgt := 1219) (by decide +kernel) (by decide) ?_
  exact kk _ hj
def Sp_hold (J : Nat → pH → Prop) : Prop := ∀ (n : Nat) (h : pH), n < 512 → J n h → ∀ a0 : Int32, ∃ v : Int32, ∃ h1 : pH, ∃ h2 : pH, f_C_hold a0 h = some (v, h1) ∧ f_R_hold a0 h1 = some (v, h2) ∧ J (n + 1) h2
theorem wv_lC_hold : (Cond.methodLink "CloudDepthLaw" (151 : Nat) ({ cls := "CloudDepth", name := "hold", desc := "(I)Z" } : MethodName)) ∈ LT := mG (List.mem_append_right _ (List.mem_append_right _ (List.mem_append_right _ (List.mem_append_left _ (List.mem_of_getElem? (l := tables_1_3) (i := 131) rfl))))) rfl
theorem wv_iC_hold : (Cond.instanceMethod ({ cls := "CloudDepth", name := "hold", desc := "(I)Z" } : MethodName)) ∈ LT := mG (List.mem_append_right _ (List.mem_append_right _ (List.mem_append_right _ (List.mem_append_left _ (List.mem_of_getElem? (l := tables_1_3) (i := 132) rfl))))) rfl
theorem wv_sC_hold : (Cond.selects "CloudDepth" ({ cls := "CloudDepth", name := "hold", desc := "(I)Z" } : MethodName) ({ cls := "CloudDepth", name := "hold", desc := "(I)Z" } : MethodName)) ∈ LT := mG (List.mem_append_right _ (List.mem_append_right _ (List.mem_append_right _ (List.mem_append_left _ (List.mem_of_getElem? (l := tables_1_3) (i := 133) rfl))))) rfl
theorem wv_lR_hold : (Cond.methodLink "CloudDepthLaw" (154 : Nat) ({ cls := "CloudDepthModel", name := "hold", desc := "(I)Z" } : MethodName)) ∈ LT := mG (List.mem_append_right _ (List.mem_append_right _ (List.mem_append_right _ (List.mem_append_right _ (List.mem_append_right _ (List.mem_append_right _ (List.mem_append_left _ (List.mem_of_getElem? (l := tables_1_6) (i := 76) rfl)))))))) rfl
theorem wv_iR_hold : (Cond.instanceMethod ({ cls := "CloudDepthModel", name := "hold", desc := "(I)Z" } : MethodName)) ∈ LT := mG (List.mem_append_right _ (List.mem_append_right _ (List.mem_append_right _ (List.mem_append_right _ (List.mem_append_right _ (List.mem_append_right _ (List.mem_append_left _ (List.mem_of_getElem? (l := tables_1_6) (i := 77) rfl)))))))) rfl
theorem wv_sR_hold : (Cond.selects "CloudDepthModel" ({ cls := "CloudDepthModel", name := "hold", desc := "(I)Z" } : MethodName) ({ cls := "CloudDepthModel", name := "hold", desc := "(I)Z" } : MethodName)) ∈ LT := mG (List.mem_append_right _ (List.mem_append_right _ (List.mem_append_right _ (List.mem_append_right _ (List.mem_append_right _ (List.mem_append_right _ (List.mem_append_left _ (List.mem_of_getElem? (l := tables_1_6) (i := 78) rfl)))))))) rfl
set_option maxHeartbeats 4000000 in
theorem lc_hold {E : pE} {p : Program} {e : Env} {s : State} {m : MethodId} {below : List Frame} {meth : Method} {c : Code} {b Ln : Nat} {xs : Nat → Int32} (C : LCx E p s m meth c b Ln xs) (hL : Ln ≤ 3072) {J : Nat → pH → Prop} (hsp : Sp_hold J) {n : Nat} (hn : 6 * n + 6 ≤ Ln) {h : pH} (hJ : J n h) (kk : ∀ h : pH, J (n + 1) h → GL E p e s m below meth c b 1219 (lawLs (6 * n)) [] h) : GL E p e s m below meth c b 1150 (lawLs (6 * n)) [] h := by
  obtain ⟨v, h1, h2, hc, hr, hj⟩ := hsp n h (by omega) hJ (xs (6 * n + 1))
  refine l_aload (i := 1) C rfl (by decide +kernel) ?_
  refine l_arg C 1 ⟨by omega, hL⟩ (by decide) (by decide +kernel) ?_
  refine l_call C ok_C_hold (as := [.int (xs (6 * n + 1))]) (st := []) ⟨wv_lC_hold, wv_iC_hold, wv_sC_hold, wi_C, ds_C_hold, Nat.le_of_ble_eq_true rfl, Nat.le_of_ble_eq_true rfl⟩ (s_C_hold hc) rfl (o := 0) (ci := 11) ⟨rfl, rfl⟩ rfl (Nat.le_of_ble_eq_true rfl) (by decide +kernel) rfl ?_
  refine l_aload (i := 2) C rfl (by decide +kernel) ?_
  refine l_arg C 1 ⟨by omega, hL⟩ (by decide) (by decide +kernel) ?_
  refine l_call C ok_R_hold (as := [.int (xs (6 * n + 1))]) (st := [.int v]) ⟨wv_lR_hold, wv_iR_hold, wv_sR_hold, wi_R, ds_R_hold, Nat.le_of_ble_eq_true rfl, Nat.le_of_ble_eq_true rfl⟩ (s_R_hold hr) rfl (o := 79) (ci := 12) ⟨rfl, rfl⟩ rfl (Nat.le_of_ble_eq_true rfl) (by decide +kernel) rfl ?_
  refine l_cmp C (off := 51) (tgt := 1219) (by decide +kernel) (by decide) ?_
  exact kk _ hj
def Sp_restore (J : Nat → pH → Prop) : Prop := ∀ (n : Nat) (h : pH), n < 512 → J n h → ∀ a0 : Int32, ∃ v : Int32, ∃ h1 : pH, ∃ h2 : pH, f_C_restore a0 h = some (v, h1) ∧ f_R_restore a0 h1 = some (v, h2) ∧ J (n + 1) h2
theorem wv_lC_restore : (Cond.methodLink "CloudDepthLaw" (155 : Nat) ({ cls := "CloudDepth", name := "restore", desc := "(I)Z" } : MethodName)) ∈ LT := mG (List.mem_append_right _ (List.mem_append_right _ (List.mem_append_right _ (List.mem_append_left _ (List.mem_of_getElem? (l := tables_1_3) (i := 135) rfl))))) rfl
theorem wv_iC_restore : (Cond.instanceMethod ({ cls := "CloudDepth", name := "restore", desc := "(I)Z" } : MethodName)) ∈ LT := mG (List.mem_append_right _ (List.mem_append_right _ (List.mem_append_right _ (List.mem_append_left _ (List.mem_of_getElem? (l := tables_1_3) (i := 136) rfl))))) rfl
theorem wv_sC_restore : (Cond.selects "CloudDepth" ({ cls := "CloudDepth", name := "restore", desc := "(I)Z" } : MethodName) ({ cls := "CloudDepth", name := "restore", desc := "(I)Z" } : MethodName)) ∈ LT := mG (List.mem_append_right _ (List.mem_append_right _ (List.mem_append_right _ (List.mem_append_left _ (List.mem_of_getElem? (l := tables_1_3) (i := 137) rfl))))) rfl
theorem wv_lR_restore : (Cond.methodLink "CloudDepthLaw" (158 : Nat) ({ cls := "CloudDepthModel", name := "restore", desc := "(I)Z" } : MethodName)) ∈ LT := mG (List.mem_append_right _ (List.mem_append_right _ (List.mem_append_right _ (List.mem_append_right _ (List.mem_append_right _ (List.mem_append_right _ (List.mem_append_left _ (List.mem_of_getElem? (l := tables_1_6) (i := 80) rfl)))))))) rfl
theorem wv_iR_restore : (Cond.instanceMethod ({ cls := "CloudDepthModel", name := "restore", desc := "(I)Z" } : MethodName)) ∈ LT := mG (List.mem_append_right _ (List.mem_append_right _ (List.mem_append_right _ (List.mem_append_right _ (List.mem_append_right _ (List.mem_append_right _ (List.mem_append_left _ (List.mem_of_getElem? (l := tables_1_6) (i := 81) rfl)))))))) rfl
theorem wv_sR_restore : (Cond.selects "CloudDepthModel" ({ cls := "CloudDepthModel", name := "restore", desc := "(I)Z" } : MethodName) ({ cls := "CloudDepthModel", name := "restore", desc := "(I)Z" } : MethodName)) ∈ LT := mG (List.mem_append_right _ (List.mem_append_right _ (List.mem_append_right _ (List.mem_append_right _ (List.mem_append_right _ (List.mem_append_right _ (List.mem_append_left _ (List.mem_of_getElem? (l := tables_1_6) (i := 82) rfl)))))))) rfl
set_option maxHeartbeats 4000000 in
theorem lc_restore {E : pE} {p : Program} {e : Env} {s : State} {m : MethodId} {below : List Frame} {meth : Method} {c : Code} {b Ln : Nat} {xs : Nat → Int32} (C : LCx E p s m meth c b Ln xs) (hL : Ln ≤ 3072) {J : Nat → pH → Prop} (hsp : Sp_restore J) {n : Nat} (hn : 6 * n + 6 ≤ Ln) {h : pH} (hJ : J n h) (kk : ∀ h : pH, J (n + 1) h → GL E p e s m below meth c b 1219 (lawLs (6 * n)) [] h) : GL E p e s m below meth c b 1173 (lawLs (6 * n)) [] h := by
  obtain ⟨v, h1, h2, hc, hr, hj⟩ := hsp n h (by omega) hJ (xs (6 * n + 1))
  refine l_aload (i := 1) C rfl (by decide +kernel) ?_
  refine l_arg C 1 ⟨by omega, hL⟩ (by decide) (by decide +kernel) ?_
  refine l_call C ok_C_restore (as := [.int (xs (6 * n + 1))]) (st := []) ⟨wv_lC_restore, wv_iC_restore, wv_sC_restore, wi_C, ds_C_restore, Nat.le_of_ble_eq_true rfl, Nat.le_of_ble_eq_true rfl⟩ (s_C_restore hc) rfl (o := 0) (ci := 11) ⟨rfl, rfl⟩ rfl (Nat.le_of_ble_eq_true rfl) (by decide +kernel) rfl ?_
  refine l_aload (i := 2) C rfl (by decide +kernel) ?_
  refine l_arg C 1 ⟨by omega, hL⟩ (by decide) (by decide +kernel) ?_
  refine l_call C ok_R_restore (as := [.int (xs (6 * n + 1))]) (st := [.int v]) ⟨wv_lR_restore, wv_iR_restore, wv_sR_restore, wi_R, ds_R_restore, Nat.le_of_ble_eq_true rfl, Nat.le_of_ble_eq_true rfl⟩ (s_R_restore hr) rfl (o := 79) (ci := 12) ⟨rfl, rfl⟩ rfl (Nat.le_of_ble_eq_true rfl) (by decide +kernel) rfl ?_
  refine l_cmp C (off := 28) (tgt := 1219) (by decide +kernel) (by decide) ?_
  exact kk _ hj
def Sp_count (J : Nat → pH → Prop) : Prop := ∀ (n : Nat) (h : pH), n < 512 → J n h → ∀ a0 : Int32, ∃ v : Int32, ∃ h1 : pH, ∃ h2 : pH, f_C_count a0 h = some (v, h1) ∧ f_R_count a0 h1 = some (v, h2) ∧ J (n + 1) h2
theorem wv_lC_count : (Cond.methodLink "CloudDepthLaw" (159 : Nat) ({ cls := "CloudDepth", name := "count", desc := "(I)I" } : MethodName)) ∈ LT := mG (List.mem_append_right _ (List.mem_append_right _ (List.mem_append_right _ (List.mem_append_right _ (List.mem_append_right _ (List.mem_append_left _ (List.mem_of_getElem? (l := tables_1_5) (i := 42) rfl))))))) rfl
theorem wv_iC_count : (Cond.instanceMethod ({ cls := "CloudDepth", name := "count", desc := "(I)I" } : MethodName)) ∈ LT := mG (List.mem_append_right _ (List.mem_append_right _ (List.mem_append_right _ (List.mem_append_right _ (List.mem_append_right _ (List.mem_append_left _ (List.mem_of_getElem? (l := tables_1_5) (i := 43) rfl))))))) rfl
theorem wv_sC_count : (Cond.selects "CloudDepth" ({ cls := "CloudDepth", name := "count", desc := "(I)I" } : MethodName) ({ cls := "CloudDepth", name := "count", desc := "(I)I" } : MethodName)) ∈ LT := mG (List.mem_append_right _ (List.mem_append_right _ (List.mem_append_right _ (List.mem_append_right _ (List.mem_append_right _ (List.mem_append_left _ (List.mem_of_getElem? (l := tables_1_5) (i := 44) rfl))))))) rfl
theorem wv_lR_count : (Cond.methodLink "CloudDepthLaw" (162 : Nat) ({ cls := "CloudDepthModel", name := "count", desc := "(I)I" } : MethodName)) ∈ LT := mG (List.mem_append_right _ (List.mem_append_right _ (List.mem_append_right _ (List.mem_append_right _ (List.mem_append_right _ (List.mem_append_right _ (List.mem_append_right _ (List.mem_of_getElem? (l := tables_1_7) (i := 112) rfl)))))))) rfl
theorem wv_iR_count : (Cond.instanceMethod ({ cls := "CloudDepthModel", name := "count", desc := "(I)I" } : MethodName)) ∈ LT := mG (List.mem_append_right _ (List.mem_append_right _ (List.mem_append_right _ (List.mem_append_right _ (List.mem_append_right _ (List.mem_append_right _ (List.mem_append_right _ (List.mem_of_getElem? (l := tables_1_7) (i := 113) rfl)))))))) rfl
theorem wv_sR_count : (Cond.selects "CloudDepthModel" ({ cls := "CloudDepthModel", name := "count", desc := "(I)I" } : MethodName) ({ cls := "CloudDepthModel", name := "count", desc := "(I)I" } : MethodName)) ∈ LT := mG (List.mem_append_right _ (List.mem_append_right _ (List.mem_append_right _ (List.mem_append_right _ (List.mem_append_right _ (List.mem_append_right _ (List.mem_append_right _ (List.mem_of_getElem? (l := tables_1_7) (i := 114) rfl)))))))) rfl
set_option maxHeartbeats 4000000 in
theorem lc_count {E : pE} {p : Program} {e : Env} {s : State} {m : MethodId} {below : List Frame} {meth : Method} {c : Code} {b Ln : Nat} {xs : Nat → Int32} (C : LCx E p s m meth c b Ln xs) (hL : Ln ≤ 3072) {J : Nat → pH → Prop} (hsp : Sp_count J) {n : Nat} (hn : 6 * n + 6 ≤ Ln) {h : pH} (hJ : J n h) (kk : ∀ h : pH, J (n + 1) h → GL E p e s m below meth c b 1219 (lawLs (6 * n)) [] h) : GL E p e s m below meth c b 1196 (lawLs (6 * n)) [] h := by
  obtain ⟨v, h1, h2, hc, hr, hj⟩ := hsp n h (by omega) hJ (xs (6 * n + 1))
  refine l_aload (i := 1) C rfl (by decide +kernel) ?_
  refine l_arg C 1 ⟨by omega, hL⟩ (by decide) (by decide +kernel) ?_
  refine l_call C ok_C_count (as := [.int (xs (6 * n + 1))]) (st := []) ⟨wv_lC_count, wv_iC_count, wv_sC_count, wi_C, ds_C_count, Nat.le_of_ble_eq_true rfl, Nat.le_of_ble_eq_true rfl⟩ (s_C_count hc) rfl (o := 0) (ci := 11) ⟨rfl, rfl⟩ rfl (Nat.le_of_ble_eq_true rfl) (by decide +kernel) rfl ?_
  refine l_aload (i := 2) C rfl (by decide +kernel) ?_
  refine l_arg C 1 ⟨by omega, hL⟩ (by decide) (by decide +kernel) ?_
  refine l_call C ok_R_count (as := [.int (xs (6 * n + 1))]) (st := [.int v]) ⟨wv_lR_count, wv_iR_count, wv_sR_count, wi_R, ds_R_count, Nat.le_of_ble_eq_true rfl, Nat.le_of_ble_eq_true rfl⟩ (s_R_count hr) rfl (o := 79) (ci := 12) ⟨rfl, rfl⟩ rfl (Nat.le_of_ble_eq_true rfl) (by decide +kernel) rfl ?_
  refine l_cmp C (off := 5) (tgt := 1219) (by decide +kernel) (by decide) ?_
  exact kk _ hj
def SpAll (J : Nat → pH → Prop) : Prop := Sp_feed J ∧ Sp_back J ∧ Sp_read J ∧ Sp_place J ∧ Sp_add J ∧ Sp_goes J ∧ Sp_move J ∧ Sp_turn J ∧ Sp_undo J ∧ Sp_point J ∧ Sp_turned J ∧ Sp_sides J ∧ Sp_corner J ∧ Sp_layer J ∧ Sp_edges J ∧ Sp_halving J ∧ Sp_cutOff J ∧ Sp_isCutOff J ∧ Sp_depth J ∧ Sp_deepest J ∧ Sp_region J ∧ Sp_triangles J ∧ Sp_order J ∧ Sp_crossing J ∧ Sp_bends J ∧ Sp_fit J ∧ Sp_best J ∧ Sp_halvingBoth J ∧ Sp_four J ∧ Sp_keeping J ∧ Sp_splits J ∧ Sp_fresh J ∧ Sp_hold J ∧ Sp_restore J ∧ Sp_count J ∧ ∀ n h, J n h → J (n + 1) h
set_option maxHeartbeats 8000000 in
theorem l_switch {E : pE} {p : Program} {e : Env} {s : State} {m : MethodId} {below : List Frame} {meth : Method} {c : Code} {b Ln : Nat} {xs : Nat → Int32} (C : LCx E p s m meth c b Ln xs) (hL : Ln ≤ 3072) {J : Nat → pH → Prop} (hsp : SpAll J) {n : Nat} (hn : 6 * n + 6 ≤ Ln) {h : pH} (hJ : J n h) (kk : ∀ h : pH, J (n + 1) h → GL E p e s m below meth c b 1219 (lawLs (6 * n)) [] h) (x : Int32) : GL E p e s m below meth c b 33 (lawLs (6 * n)) [.int x] h := by
  obtain ⟨s0, s1, s2, s3, s4, s5, s6, s7, s8, s9, s10, s11, s12, s13, s14, s15, s16, s17, s18, s19, s20, s21, s22, s23, s24, s25, s26, s27, s28, s29, s30, s31, s32, s33, s34, hmono⟩ := hsp
  by_cases c0 : x = 0
  · refine l_tableIn C (off := 155) (tgt := 188) (by decide +kernel : decode code 33 = .ok (.tableswitch 1186 0 34 #[155, 218, 241, 254, 267, 300, 323, 366, 405, 418, 451, 504, 547, 570, 593, 616, 639, 662, 685, 718, 741, 774, 807, 840, 873, 896, 929, 952, 985, 1038, 1061, 1074, 1117, 1140, 1163], 155)) (by rw [c0]; decide) (by rw [c0]; decide) (by rw [c0]; decide) (by decide) ?_
    exact lc_feed C hL s0 hn hJ kk
  by_cases c1 : x = 1
  · refine l_tableIn C (off := 218) (tgt := 251) (by decide +kernel : decode code 33 = .ok (.tableswitch 1186 0 34 #[155, 218, 241, 254, 267, 300, 323, 366, 405, 418, 451, 504, 547, 570, 593, 616, 639, 662, 685, 718, 741, 774, 807, 840, 873, 896, 929, 952, 985, 1038, 1061, 1074, 1117, 1140, 1163], 155)) (by rw [c1]; decide) (by rw [c1]; decide) (by rw [c1]; decide) (by decide) ?_
    exact lc_back C hL s1 hn hJ kk
  by_cases c2 : x = 2
  · refine l_tableIn C (off := 241) (tgt := 274) (by decide +kernel : decode code 33 = .ok (.tableswitch 1186 0 34 #[155, 218, 241, 254, 267, 300, 323, 366, 405, 418, 451, 504, 547, 570, 593, 616, 639, 662, 685, 718, 741, 774, 807, 840, 873, 896, 929, 952, 985, 1038, 1061, 1074, 1117, 1140, 1163], 155)) (by rw [c2]; decide) (by rw [c2]; decide) (by rw [c2]; decide) (by decide) ?_
    exact lc_read C hL s2 hn hJ kk
  by_cases c3 : x = 3
  · refine l_tableIn C (off := 254) (tgt := 287) (by decide +kernel : decode code 33 = .ok (.tableswitch 1186 0 34 #[155, 218, 241, 254, 267, 300, 323, 366, 405, 418, 451, 504, 547, 570, 593, 616, 639, 662, 685, 718, 741, 774, 807, 840, 873, 896, 929, 952, 985, 1038, 1061, 1074, 1117, 1140, 1163], 155)) (by rw [c3]; decide) (by rw [c3]; decide) (by rw [c3]; decide) (by decide) ?_
    exact lc_place C hL s3 hn hJ kk
  by_cases c4 : x = 4
  · refine l_tableIn C (off := 267) (tgt := 300) (by decide +kernel : decode code 33 = .ok (.tableswitch 1186 0 34 #[155, 218, 241, 254, 267, 300, 323, 366, 405, 418, 451, 504, 547, 570, 593, 616, 639, 662, 685, 718, 741, 774, 807, 840, 873, 896, 929, 952, 985, 1038, 1061, 1074, 1117, 1140, 1163], 155)) (by rw [c4]; decide) (by rw [c4]; decide) (by rw [c4]; decide) (by decide) ?_
    exact lc_add C hL s4 hn hJ kk
  by_cases c5 : x = 5
  · refine l_tableIn C (off := 300) (tgt := 333) (by decide +kernel : decode code 33 = .ok (.tableswitch 1186 0 34 #[155, 218, 241, 254, 267, 300, 323, 366, 405, 418, 451, 504, 547, 570, 593, 616, 639, 662, 685, 718, 741, 774, 807, 840, 873, 896, 929, 952, 985, 1038, 1061, 1074, 1117, 1140, 1163], 155)) (by rw [c5]; decide) (by rw [c5]; decide) (by rw [c5]; decide) (by decide) ?_
    exact lc_goes C hL s5 hn hJ kk
  by_cases c6 : x = 6
  · refine l_tableIn C (off := 323) (tgt := 356) (by decide +kernel : decode code 33 = .ok (.tableswitch 1186 0 34 #[155, 218, 241, 254, 267, 300, 323, 366, 405, 418, 451, 504, 547, 570, 593, 616, 639, 662, 685, 718, 741, 774, 807, 840, 873, 896, 929, 952, 985, 1038, 1061, 1074, 1117, 1140, 1163], 155)) (by rw [c6]; decide) (by rw [c6]; decide) (by rw [c6]; decide) (by decide) ?_
    exact lc_move C hL s6 hn hJ kk
  by_cases c7 : x = 7
  · refine l_tableIn C (off := 366) (tgt := 399) (by decide +kernel : decode code 33 = .ok (.tableswitch 1186 0 34 #[155, 218, 241, 254, 267, 300, 323, 366, 405, 418, 451, 504, 547, 570, 593, 616, 639, 662, 685, 718, 741, 774, 807, 840, 873, 896, 929, 952, 985, 1038, 1061, 1074, 1117, 1140, 1163], 155)) (by rw [c7]; decide) (by rw [c7]; decide) (by rw [c7]; decide) (by decide) ?_
    exact lc_turn C hL s7 hn hJ kk
  by_cases c8 : x = 8
  · refine l_tableIn C (off := 405) (tgt := 438) (by decide +kernel : decode code 33 = .ok (.tableswitch 1186 0 34 #[155, 218, 241, 254, 267, 300, 323, 366, 405, 418, 451, 504, 547, 570, 593, 616, 639, 662, 685, 718, 741, 774, 807, 840, 873, 896, 929, 952, 985, 1038, 1061, 1074, 1117, 1140, 1163], 155)) (by rw [c8]; decide) (by rw [c8]; decide) (by rw [c8]; decide) (by decide) ?_
    exact lc_undo C hL s8 hn hJ kk
  by_cases c9 : x = 9
  · refine l_tableIn C (off := 418) (tgt := 451) (by decide +kernel : decode code 33 = .ok (.tableswitch 1186 0 34 #[155, 218, 241, 254, 267, 300, 323, 366, 405, 418, 451, 504, 547, 570, 593, 616, 639, 662, 685, 718, 741, 774, 807, 840, 873, 896, 929, 952, 985, 1038, 1061, 1074, 1117, 1140, 1163], 155)) (by rw [c9]; decide) (by rw [c9]; decide) (by rw [c9]; decide) (by decide) ?_
    exact lc_point C hL s9 hn hJ kk
  by_cases c10 : x = 10
  · refine l_tableIn C (off := 451) (tgt := 484) (by decide +kernel : decode code 33 = .ok (.tableswitch 1186 0 34 #[155, 218, 241, 254, 267, 300, 323, 366, 405, 418, 451, 504, 547, 570, 593, 616, 639, 662, 685, 718, 741, 774, 807, 840, 873, 896, 929, 952, 985, 1038, 1061, 1074, 1117, 1140, 1163], 155)) (by rw [c10]; decide) (by rw [c10]; decide) (by rw [c10]; decide) (by decide) ?_
    exact lc_turned C hL s10 hn hJ kk
  by_cases c11 : x = 11
  · refine l_tableIn C (off := 504) (tgt := 537) (by decide +kernel : decode code 33 = .ok (.tableswitch 1186 0 34 #[155, 218, 241, 254, 267, 300, 323, 366, 405, 418, 451, 504, 547, 570, 593, 616, 639, 662, 685, 718, 741, 774, 807, 840, 873, 896, 929, 952, 985, 1038, 1061, 1074, 1117, 1140, 1163], 155)) (by rw [c11]; decide) (by rw [c11]; decide) (by rw [c11]; decide) (by decide) ?_
    exact lc_sides C hL s11 hn hJ kk
  by_cases c12 : x = 12
  · refine l_tableIn C (off := 547) (tgt := 580) (by decide +kernel : decode code 33 = .ok (.tableswitch 1186 0 34 #[155, 218, 241, 254, 267, 300, 323, 366, 405, 418, 451, 504, 547, 570, 593, 616, 639, 662, 685, 718, 741, 774, 807, 840, 873, 896, 929, 952, 985, 1038, 1061, 1074, 1117, 1140, 1163], 155)) (by rw [c12]; decide) (by rw [c12]; decide) (by rw [c12]; decide) (by decide) ?_
    exact lc_corner C hL s12 hn hJ kk
  by_cases c13 : x = 13
  · refine l_tableIn C (off := 570) (tgt := 603) (by decide +kernel : decode code 33 = .ok (.tableswitch 1186 0 34 #[155, 218, 241, 254, 267, 300, 323, 366, 405, 418, 451, 504, 547, 570, 593, 616, 639, 662, 685, 718, 741, 774, 807, 840, 873, 896, 929, 952, 985, 1038, 1061, 1074, 1117, 1140, 1163], 155)) (by rw [c13]; decide) (by rw [c13]; decide) (by rw [c13]; decide) (by decide) ?_
    exact lc_layer C hL s13 hn hJ kk
  by_cases c14 : x = 14
  · refine l_tableIn C (off := 593) (tgt := 626) (by decide +kernel : decode code 33 = .ok (.tableswitch 1186 0 34 #[155, 218, 241, 254, 267, 300, 323, 366, 405, 418, 451, 504, 547, 570, 593, 616, 639, 662, 685, 718, 741, 774, 807, 840, 873, 896, 929, 952, 985, 1038, 1061, 1074, 1117, 1140, 1163], 155)) (by rw [c14]; decide) (by rw [c14]; decide) (by rw [c14]; decide) (by decide) ?_
    exact lc_edges C hL s14 hn hJ kk
  by_cases c15 : x = 15
  · refine l_tableIn C (off := 616) (tgt := 649) (by decide +kernel : decode code 33 = .ok (.tableswitch 1186 0 34 #[155, 218, 241, 254, 267, 300, 323, 366, 405, 418, 451, 504, 547, 570, 593, 616, 639, 662, 685, 718, 741, 774, 807, 840, 873, 896, 929, 952, 985, 1038, 1061, 1074, 1117, 1140, 1163], 155)) (by rw [c15]; decide) (by rw [c15]; decide) (by rw [c15]; decide) (by decide) ?_
    exact lc_halving C hL s15 hn hJ kk
  by_cases c16 : x = 16
  · refine l_tableIn C (off := 639) (tgt := 672) (by decide +kernel : decode code 33 = .ok (.tableswitch 1186 0 34 #[155, 218, 241, 254, 267, 300, 323, 366, 405, 418, 451, 504, 547, 570, 593, 616, 639, 662, 685, 718, 741, 774, 807, 840, 873, 896, 929, 952, 985, 1038, 1061, 1074, 1117, 1140, 1163], 155)) (by rw [c16]; decide) (by rw [c16]; decide) (by rw [c16]; decide) (by decide) ?_
    exact lc_cutOff C hL s16 hn hJ kk
  by_cases c17 : x = 17
  · refine l_tableIn C (off := 662) (tgt := 695) (by decide +kernel : decode code 33 = .ok (.tableswitch 1186 0 34 #[155, 218, 241, 254, 267, 300, 323, 366, 405, 418, 451, 504, 547, 570, 593, 616, 639, 662, 685, 718, 741, 774, 807, 840, 873, 896, 929, 952, 985, 1038, 1061, 1074, 1117, 1140, 1163], 155)) (by rw [c17]; decide) (by rw [c17]; decide) (by rw [c17]; decide) (by decide) ?_
    exact lc_isCutOff C hL s17 hn hJ kk
  by_cases c18 : x = 18
  · refine l_tableIn C (off := 685) (tgt := 718) (by decide +kernel : decode code 33 = .ok (.tableswitch 1186 0 34 #[155, 218, 241, 254, 267, 300, 323, 366, 405, 418, 451, 504, 547, 570, 593, 616, 639, 662, 685, 718, 741, 774, 807, 840, 873, 896, 929, 952, 985, 1038, 1061, 1074, 1117, 1140, 1163], 155)) (by rw [c18]; decide) (by rw [c18]; decide) (by rw [c18]; decide) (by decide) ?_
    exact lc_depth C hL s18 hn hJ kk
  by_cases c19 : x = 19
  · refine l_tableIn C (off := 718) (tgt := 751) (by decide +kernel : decode code 33 = .ok (.tableswitch 1186 0 34 #[155, 218, 241, 254, 267, 300, 323, 366, 405, 418, 451, 504, 547, 570, 593, 616, 639, 662, 685, 718, 741, 774, 807, 840, 873, 896, 929, 952, 985, 1038, 1061, 1074, 1117, 1140, 1163], 155)) (by rw [c19]; decide) (by rw [c19]; decide) (by rw [c19]; decide) (by decide) ?_
    exact lc_deepest C hL s19 hn hJ kk
  by_cases c20 : x = 20
  · refine l_tableIn C (off := 741) (tgt := 774) (by decide +kernel : decode code 33 = .ok (.tableswitch 1186 0 34 #[155, 218, 241, 254, 267, 300, 323, 366, 405, 418, 451, 504, 547, 570, 593, 616, 639, 662, 685, 718, 741, 774, 807, 840, 873, 896, 929, 952, 985, 1038, 1061, 1074, 1117, 1140, 1163], 155)) (by rw [c20]; decide) (by rw [c20]; decide) (by rw [c20]; decide) (by decide) ?_
    exact lc_region C hL s20 hn hJ kk
  by_cases c21 : x = 21
  · refine l_tableIn C (off := 774) (tgt := 807) (by decide +kernel : decode code 33 = .ok (.tableswitch 1186 0 34 #[155, 218, 241, 254, 267, 300, 323, 366, 405, 418, 451, 504, 547, 570, 593, 616, 639, 662, 685, 718, 741, 774, 807, 840, 873, 896, 929, 952, 985, 1038, 1061, 1074, 1117, 1140, 1163], 155)) (by rw [c21]; decide) (by rw [c21]; decide) (by rw [c21]; decide) (by decide) ?_
    exact lc_triangles C hL s21 hn hJ kk
  by_cases c22 : x = 22
  · refine l_tableIn C (off := 807) (tgt := 840) (by decide +kernel : decode code 33 = .ok (.tableswitch 1186 0 34 #[155, 218, 241, 254, 267, 300, 323, 366, 405, 418, 451, 504, 547, 570, 593, 616, 639, 662, 685, 718, 741, 774, 807, 840, 873, 896, 929, 952, 985, 1038, 1061, 1074, 1117, 1140, 1163], 155)) (by rw [c22]; decide) (by rw [c22]; decide) (by rw [c22]; decide) (by decide) ?_
    exact lc_order C hL s22 hn hJ kk
  by_cases c23 : x = 23
  · refine l_tableIn C (off := 840) (tgt := 873) (by decide +kernel : decode code 33 = .ok (.tableswitch 1186 0 34 #[155, 218, 241, 254, 267, 300, 323, 366, 405, 418, 451, 504, 547, 570, 593, 616, 639, 662, 685, 718, 741, 774, 807, 840, 873, 896, 929, 952, 985, 1038, 1061, 1074, 1117, 1140, 1163], 155)) (by rw [c23]; decide) (by rw [c23]; decide) (by rw [c23]; decide) (by decide) ?_
    exact lc_crossing C hL s23 hn hJ kk
  by_cases c24 : x = 24
  · refine l_tableIn C (off := 873) (tgt := 906) (by decide +kernel : decode code 33 = .ok (.tableswitch 1186 0 34 #[155, 218, 241, 254, 267, 300, 323, 366, 405, 418, 451, 504, 547, 570, 593, 616, 639, 662, 685, 718, 741, 774, 807, 840, 873, 896, 929, 952, 985, 1038, 1061, 1074, 1117, 1140, 1163], 155)) (by rw [c24]; decide) (by rw [c24]; decide) (by rw [c24]; decide) (by decide) ?_
    exact lc_bends C hL s24 hn hJ kk
  by_cases c25 : x = 25
  · refine l_tableIn C (off := 896) (tgt := 929) (by decide +kernel : decode code 33 = .ok (.tableswitch 1186 0 34 #[155, 218, 241, 254, 267, 300, 323, 366, 405, 418, 451, 504, 547, 570, 593, 616, 639, 662, 685, 718, 741, 774, 807, 840, 873, 896, 929, 952, 985, 1038, 1061, 1074, 1117, 1140, 1163], 155)) (by rw [c25]; decide) (by rw [c25]; decide) (by rw [c25]; decide) (by decide) ?_
    exact lc_fit C hL s25 hn hJ kk
  by_cases c26 : x = 26
  · refine l_tableIn C (off := 929) (tgt := 962) (by decide +kernel : decode code 33 = .ok (.tableswitch 1186 0 34 #[155, 218, 241, 254, 267, 300, 323, 366, 405, 418, 451, 504, 547, 570, 593, 616, 639, 662, 685, 718, 741, 774, 807, 840, 873, 896, 929, 952, 985, 1038, 1061, 1074, 1117, 1140, 1163], 155)) (by rw [c26]; decide) (by rw [c26]; decide) (by rw [c26]; decide) (by decide) ?_
    exact lc_best C hL s26 hn hJ kk
  by_cases c27 : x = 27
  · refine l_tableIn C (off := 952) (tgt := 985) (by decide +kernel : decode code 33 = .ok (.tableswitch 1186 0 34 #[155, 218, 241, 254, 267, 300, 323, 366, 405, 418, 451, 504, 547, 570, 593, 616, 639, 662, 685, 718, 741, 774, 807, 840, 873, 896, 929, 952, 985, 1038, 1061, 1074, 1117, 1140, 1163], 155)) (by rw [c27]; decide) (by rw [c27]; decide) (by rw [c27]; decide) (by decide) ?_
    exact lc_halvingBoth C hL s27 hn hJ kk
  by_cases c28 : x = 28
  · refine l_tableIn C (off := 985) (tgt := 1018) (by decide +kernel : decode code 33 = .ok (.tableswitch 1186 0 34 #[155, 218, 241, 254, 267, 300, 323, 366, 405, 418, 451, 504, 547, 570, 593, 616, 639, 662, 685, 718, 741, 774, 807, 840, 873, 896, 929, 952, 985, 1038, 1061, 1074, 1117, 1140, 1163], 155)) (by rw [c28]; decide) (by rw [c28]; decide) (by rw [c28]; decide) (by decide) ?_
    exact lc_four C hL s28 hn hJ kk
  by_cases c29 : x = 29
  · refine l_tableIn C (off := 1038) (tgt := 1071) (by decide +kernel : decode code 33 = .ok (.tableswitch 1186 0 34 #[155, 218, 241, 254, 267, 300, 323, 366, 405, 418, 451, 504, 547, 570, 593, 616, 639, 662, 685, 718, 741, 774, 807, 840, 873, 896, 929, 952, 985, 1038, 1061, 1074, 1117, 1140, 1163], 155)) (by rw [c29]; decide) (by rw [c29]; decide) (by rw [c29]; decide) (by decide) ?_
    exact lc_keeping C hL s29 hn hJ kk
  by_cases c30 : x = 30
  · refine l_tableIn C (off := 1061) (tgt := 1094) (by decide +kernel : decode code 33 = .ok (.tableswitch 1186 0 34 #[155, 218, 241, 254, 267, 300, 323, 366, 405, 418, 451, 504, 547, 570, 593, 616, 639, 662, 685, 718, 741, 774, 807, 840, 873, 896, 929, 952, 985, 1038, 1061, 1074, 1117, 1140, 1163], 155)) (by rw [c30]; decide) (by rw [c30]; decide) (by rw [c30]; decide) (by decide) ?_
    exact lc_splits C hL s30 hn hJ kk
  by_cases c31 : x = 31
  · refine l_tableIn C (off := 1074) (tgt := 1107) (by decide +kernel : decode code 33 = .ok (.tableswitch 1186 0 34 #[155, 218, 241, 254, 267, 300, 323, 366, 405, 418, 451, 504, 547, 570, 593, 616, 639, 662, 685, 718, 741, 774, 807, 840, 873, 896, 929, 952, 985, 1038, 1061, 1074, 1117, 1140, 1163], 155)) (by rw [c31]; decide) (by rw [c31]; decide) (by rw [c31]; decide) (by decide) ?_
    exact lc_fresh C hL s31 hn hJ kk
  by_cases c32 : x = 32
  · refine l_tableIn C (off := 1117) (tgt := 1150) (by decide +kernel : decode code 33 = .ok (.tableswitch 1186 0 34 #[155, 218, 241, 254, 267, 300, 323, 366, 405, 418, 451, 504, 547, 570, 593, 616, 639, 662, 685, 718, 741, 774, 807, 840, 873, 896, 929, 952, 985, 1038, 1061, 1074, 1117, 1140, 1163], 155)) (by rw [c32]; decide) (by rw [c32]; decide) (by rw [c32]; decide) (by decide) ?_
    exact lc_hold C hL s32 hn hJ kk
  by_cases c33 : x = 33
  · refine l_tableIn C (off := 1140) (tgt := 1173) (by decide +kernel : decode code 33 = .ok (.tableswitch 1186 0 34 #[155, 218, 241, 254, 267, 300, 323, 366, 405, 418, 451, 504, 547, 570, 593, 616, 639, 662, 685, 718, 741, 774, 807, 840, 873, 896, 929, 952, 985, 1038, 1061, 1074, 1117, 1140, 1163], 155)) (by rw [c33]; decide) (by rw [c33]; decide) (by rw [c33]; decide) (by decide) ?_
    exact lc_restore C hL s33 hn hJ kk
  by_cases c34 : x = 34
  · refine l_tableIn C (off := 1163) (tgt := 1196) (by decide +kernel : decode code 33 = .ok (.tableswitch 1186 0 34 #[155, 218, 241, 254, 267, 300, 323, 366, 405, 418, 451, 504, 547, 570, 593, 616, 639, 662, 685, 718, 741, 774, 807, 840, 873, 896, 929, 952, 985, 1038, 1061, 1074, 1117, 1140, 1163], 155)) (by rw [c34]; decide) (by rw [c34]; decide) (by rw [c34]; decide) (by decide) ?_
    exact lc_count C hL s34 hn hJ kk
  refine l_tableOut C (tgt := 1219) (by decide +kernel : decode code 33 = .ok (.tableswitch 1186 0 34 #[155, 218, 241, 254, 267, 300, 323, 366, 405, 418, 451, 504, 547, 570, 593, 616, 639, 662, 685, 718, 741, 774, 807, 840, 873, 896, 929, 952, 985, 1038, 1061, 1074, 1117, 1140, 1163], 155)) (sw_out [0, 1, 2, 3, 4, 5, 6, 7, 8, 9, 10, 11, 12, 13, 14, 15, 16, 17, 18, 19, 20, 21, 22, 23, 24, 25, 26, 27, 28, 29, 30, 31, 32, 33, 34] (by decide) ⟨fun q => c0 (q.trans (by decide)), fun q => c1 (q.trans (by decide)), fun q => c2 (q.trans (by decide)), fun q => c3 (q.trans (by decide)), fun q => c4 (q.trans (by decide)), fun q => c5 (q.trans (by decide)), fun q => c6 (q.trans (by decide)), fun q => c7 (q.trans (by decide)), fun q => c8 (q.trans (by decide)), fun q => c9 (q.trans (by decide)), fun q => c10 (q.trans (by decide)), fun q => c11 (q.trans (by decide)), fun q => c12 (q.trans (by decide)), fun q => c13 (q.trans (by decide)), fun q => c14 (q.trans (by decide)), fun q => c15 (q.trans (by decide)), fun q => c16 (q.trans (by decide)), fun q => c17 (q.trans (by decide)), fun q => c18 (q.trans (by decide)), fun q => c19 (q.trans (by decide)), fun q => c20 (q.trans (by decide)), fun q => c21 (q.trans (by decide)), fun q => c22 (q.trans (by decide)), fun q => c23 (q.trans (by decide)), fun q => c24 (q.trans (by decide)), fun q => c25 (q.trans (by decide)), fun q => c26 (q.trans (by decide)), fun q => c27 (q.trans (by decide)), fun q => c28 (q.trans (by decide)), fun q => c29 (q.trans (by decide)), fun q => c30 (q.trans (by decide)), fun q => c31 (q.trans (by decide)), fun q => c32 (q.trans (by decide)), fun q => c33 (q.trans (by decide)), fun q => c34 (q.trans (by decide)), trivial⟩) (by decide) ?_
  exact kk h (hmono n h hJ)
