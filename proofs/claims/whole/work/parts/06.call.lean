/-! calls -/
/-- the words of a call -/
def LkV (M M' : MI) (i n : Nat) : Prop := Cond.methodLink (mO M) i (mY M') ∈ LT ∧ Cond.instanceMethod (mY M') ∈ LT ∧ Cond.selects (mO M') (mY M') (mY M') ∈ LT ∧ Cond.initialized (mO M') ∈ LT ∧ ((mY M').cls ≠ "java/lang/invoke/MethodHandle" ∧ (mY M').cls ≠ "java/lang/invoke/VarHandle" ∧ (parseMethodDescriptor (mY M').desc).map (fun d => d.parameters.length) = some n) ∧ (mRm M').frames + 1 ≤ (mRm M).frames ∧ 8 + (mL M' + 11) + (mRm M').locals ≤ (mRm M).locals
def LkS (M M' : MI) (i n : Nat) : Prop := Cond.methodLink (mO M) i (mY M') ∈ LT ∧ Cond.static (mY M') ∈ LT ∧ Cond.initialized (mO M') ∈ LT ∧ ((mY M').cls ≠ "java/lang/invoke/MethodHandle" ∧ (mY M').cls ≠ "java/lang/invoke/VarHandle" ∧ (parseMethodDescriptor (mY M').desc).map (fun d => d.parameters.length) = some n) ∧ (mRm M').frames + 1 ≤ (mRm M).frames ∧ 8 + (mL M' + 11) + (mRm M').locals ≤ (mRm M).locals
def LkSN (M M' : MI) (i n : Nat) (host : String) : Prop := (mO M, i, mY M', host) ∈ NL ∧ Cond.static (mY M') ∈ LT ∧ Cond.initialized (mO M') ∈ LT ∧ ((mY M').cls ≠ "java/lang/invoke/MethodHandle" ∧ (mY M').cls ≠ "java/lang/invoke/VarHandle" ∧ (parseMethodDescriptor (mY M').desc).map (fun d => d.parameters.length) = some n) ∧ (mRm M').frames + 1 ≤ (mRm M).frames ∧ 8 + (mL M' + 11) + (mRm M').locals ≤ (mRm M).locals
theorem goodM {M M' : MI} (hM' : MOK M') : GoodIn (wsM M) (wsM M') := fun w hw => by
  rcases List.mem_cons.mp hw with rfl | hw
  · exact ⟨List.mem_cons_of_mem _ hM'.2.1, LT_good _ hM'.2.1⟩
  · exact ⟨List.mem_cons_of_mem _ hw, LT_good _ hw⟩
section GO
variable {E : pE} {M M' : MI} {pc : Nat} {ls : List (Option Value)} {st : List Value} {h h' hr h1 : pH} {r rv : Option Value}
theorem pc_blind {as : List Value} : FrameBlind (fun v U => v = (as.map (vm (eA E))).toArray ∧ PP E h U.heap ∧ GE E U) := by
  intro a U g mk q
  obtain ⟨q1, q2, q3, q4, q5, q6⟩ := q
  exact ⟨q1, q2, va_K.moved (u := U) (U := U.calling g mk a) (Vm.Alike.refl U.vm) q3, ⟨q4.1.moved (Vm.Alike.refl U.vm), q4.2.1.same rfl, q4.2.2.1.same rfl, q4.2.2.2.1.moved (Vm.Alike.refl U.vm), q4.2.2.2.2.imp (fun z => z.moved (Vm.Alike.refl U.vm)) (fun z => z.moved (Vm.Alike.refl U.vm))⟩, q5, fun w hw => va_tabs rfl (rfl : U.vm = (U.calling g mk a).vm) (q6 w hw)⟩
theorem run_W {p : Program} {e : Env} {s : State} {m : MethodId} {args a : Array Value} {below : List Frame} {meth : Method} {c : Code} {H : Heap} {locs : List Loc} {L : Array Slot} {st0 rest : List Value} {l : Launch} {R : Room} {Q : State → Prop}
    (hrun : va_Run p l e R s m args below meth c H locs 0 0 0 0 (F0 m pc L st0) rest (QQ E rv h1 a) (wA (eA E))) (hS : va_S (wA (eA E)) s.heap H locs)
    (kk : ∀ (H1 : Heap) (locs1 : List Loc), va_S (wA (eA E)) s.heap H1 locs1 → PP E h1 H1 → W p l e R s m args below meth c H1 locs1 0 0 Q (F0 m (pc + 3) L (rv.toList ++ rest))) : W p l e R s m args below meth c H locs 0 0 Q (F0 m pc L st0) := by
  intro T hT X
  obtain ⟨v, st₀, t, T', L1, h0, X', hL, e1, e2, ⟨⟨hv, hp⟩, hz, hk⟩, stp⟩ := hrun T hT X
  cases hv
  rw [h0] at hz hk
  obtain ⟨t2, a1, b1⟩ := kk T'.heap (locs ++ L1)
    ⟨Nat.le_trans hS.1 (by rw [e1]; exact hz), fun q h1 h2 => by rw [e1, hk q (Nat.lt_of_lt_of_le h1 hS.1) h2]; exact hS.2.1 q h1 h2, fun q hq => by
      rcases List.mem_append.mp hq with h | h
      · exact hS.2.2 q h
      · exact hL q h⟩ (by rw [PP, e1]; exact hp) T' rfl X'
  exact ⟨t2, stp t2 a1, b1⟩
theorem pre_at {p : Program} {s : State} {m : MethodId} {args : Array Value} {meth : Method} {c : Code} {H : Heap} {locs : List Loc} (C : CX E M p s m args meth c) (hS : va_S (wA (eA E)) s.heap H locs) (hP : PP E h H) (as : List Value) (U : State) (hU : U.heap = H) (hW : s.WarmedH U.vm) :
    (fun v U => v = (as.map (vm (eA E))).toArray ∧ PP E h U.heap ∧ GE E U) (as.map (vm (eA E))).toArray U :=
  ⟨rfl, by rw [PP, hU]; exact hP, C.2.2.2.2.2.2.2.moved hW (fun a ha hn => by rw [hU]; exact hS.2.1 a ha hn)⟩
theorem cat_map (ad : Nat → Nat) (st : List Value) : ((st.map (vm ad)).map fun v => v.category) = st.map fun v => v.category := by
  rw [List.map_map]
  apply List.map_congr_left
  intro v _
  exact vm_cat ad v
theorem cat_app (ad : Nat → Nat) (rv : Option Value) (hv : ∀ v, rv = some v → vm ad v = v) (st : List Value) : rv.toList ++ st.map (vm ad) = (rv.toList ++ st).map (vm ad) := by
  cases rv with
  | none => rfl
  | some v => simp [hv v rfl]
theorem q_callV (hM' : MOK M') {i n o ci : Nat} {as : List Value} (hlk : LkV M M' i n) (ct : Ct E M' (.ref o :: as) h rv h1) (hn : as.length = n) (ho : ak o = 0 ∧ cx o = ci) (hci : (classes[ci]?).map (·.1) = some (mO M')) (hv : ∀ v, rv = some v → vm (eA E) v = v) (hcat : (st.map fun v => v.category).sum ≤ 8) (hd : decode (mB M) pc = .ok (.invokevirtual i, 3)) {st0 : List Value} (hst : as.reverse ++ .ref o :: st = st0)
    (kk : Go E M (pc + 3) ls (rv.toList ++ st) h1 r hr) : Go E M pc ls st0 h r hr := by
  subst hst
  intro p e s m args below meth cc H locs L C hS hP hL
  have hts := C.2.2.2.2.2.1
  have hlt : o < NO := ob_lt (by rw [ho.1]; decide)
  have he := wl_at (ad := eA E) (tc := eC E) (h := h) hlt
  rw [cellE_0 ho.1, ho.2] at he
  obtain ⟨q, hq, hqn⟩ := Option.map_eq_some_iff.mp hci
  refine run_W (rv := rv) (h1 := h1) (a := (Value.ref (eA E o) :: as.map (vm (eA E))).toArray) (rest := st.map (vm (eA E))) (va_runV (As := as.map (vm (eA E))) (b := eA E o) (C := mO M') (n := n) (bytes := mB M') (maxL := mL M') (ret := mR M') (index := i) ⟨C.1, C.2.1, C.2.2.2.1, C.2.2.2.2.1, hts⟩ ct (cwV n hts ?_ rfl hM'.2.2.2.1 hM'.2.2.2.2.1 ⟨hM'.2.2.1, hlk.2.2.2.2.1⟩ hlk.2.2.2.2.2) ⟨pc_blind, ?_, fun U hU hW => ?_⟩ rfl (by rw [List.length_map]; exact hn) hL.1 ?_ (lv_room (by rw [cat_map]; exact hcat)) hd ⟨Nat.zero_le _, Nat.zero_le _⟩) hS (fun H1 locs1 hS1 hP1 => ?_)
  · intro w hw
    rcases List.mem_append.mp hw with hw | hw
    · have : w ∈ LT := by
        rcases List.mem_cons.mp hw with rfl | hw
        · exact hlk.1
        rcases List.mem_cons.mp hw with rfl | hw
        · exact hlk.2.1
        rcases List.mem_cons.mp hw with rfl | hw
        · exact hlk.2.2.1
        rcases List.mem_cons.mp hw with rfl | hw
        · exact hlk.2.2.2.1
        cases hw
      exact ⟨List.mem_cons_of_mem _ this, LT_good w this⟩
    · exact goodM hM' w hw
  · have := va_recv (C.2.2.2.2.2.2.2.1) hP (ci := ci) (q0 := o) hq he
    rw [hqn] at this
    exact this
  · exact pre_at C hS hP (.ref o :: as) U hU hW
  · show (as.reverse ++ .ref o :: st).map (vm (eA E)) = _
    rw [List.map_append, List.map_reverse]
    rfl
  · rw [cat_app _ _ hv]
    exact kk p e s m args below meth cc H1 locs1 L C hS1 hP1 hL
theorem q_callS (hM' : MOK M') {i n : Nat} {as : List Value} (hlk : LkS M M' i n) (ct : Ct E M' as h rv h1) (hn : as.length = n) (hv : ∀ v, rv = some v → vm (eA E) v = v) (hcat : (st.map fun v => v.category).sum ≤ 8) (hd : decode (mB M) pc = .ok (.invokestatic i, 3)) {st0 : List Value} (hst : as.reverse ++ st = st0)
    (kk : Go E M (pc + 3) ls (rv.toList ++ st) h1 r hr) : Go E M pc ls st0 h r hr := by
  subst hst
  intro p e s m args below meth cc H locs L C hS hP hL
  have hts := C.2.2.2.2.2.1
  refine run_W (rv := rv) (h1 := h1) (a := (as.map (vm (eA E))).toArray) (rest := st.map (vm (eA E))) (va_runS (As := as.map (vm (eA E))) (n := n) (bytes := mB M') (maxL := mL M') (ret := mR M') (index := i) ⟨C.1, C.2.1, C.2.2.2.1, C.2.2.2.2.1, hts⟩ ct ⟨callB_of n hts (goodM hM') rfl hM'.2.2.2.1 hM'.2.2.2.2.1 (by rw [hM'.2.2.1]; exact hts _ (List.mem_cons_of_mem _ hlk.2.2.1)) (hts _ (List.mem_cons_of_mem _ hlk.1)) hlk.2.2.2.1 hlk.2.2.2.2, hts _ (List.mem_cons_of_mem _ hlk.2.1)⟩ ⟨pc_blind, fun U hU hW => pre_at C hS hP as U hU hW⟩ rfl (by rw [List.length_map]; exact hn) hL.1 ?_ (lv_room (by rw [cat_map]; exact hcat)) hd ⟨Nat.zero_le _, Nat.zero_le _⟩) hS (fun H1 locs1 hS1 hP1 => ?_)
  · show (as.reverse ++ st).map (vm (eA E)) = _
    rw [List.map_append, List.map_reverse]
  · rw [cat_app _ _ hv]
    exact kk p e s m args below meth cc H1 locs1 L C hS1 hP1 hL
theorem q_callSN (hM' : MOK M') {i n : Nat} {host : String} {as : List Value} (hlk : LkSN M M' i n host) (ct : Ct E M' as h rv h1) (hn : as.length = n) (hv : ∀ v, rv = some v → vm (eA E) v = v) (hcat : (st.map fun v => v.category).sum ≤ 8) (hd : decode (mB M) pc = .ok (.invokestatic i, 3)) {st0 : List Value} (hst : as.reverse ++ st = st0)
    (kk : Go E M (pc + 3) ls (rv.toList ++ st) h1 r hr) : Go E M pc ls st0 h r hr := by
  subst hst
  intro p e s m args below meth cc H locs L C hS hP hL
  have hts := C.2.2.2.2.2.1
  refine run_W (rv := rv) (h1 := h1) (a := (as.map (vm (eA E))).toArray) (rest := st.map (vm (eA E))) (va_runSN (As := as.map (vm (eA E))) (n := n) (bytes := mB M') (maxL := mL M') (ret := mR M') (index := i) (host := host) ⟨C.1, C.2.1, C.2.2.2.1, C.2.2.2.2.1, hts⟩ ct ⟨va_cnB n hts (goodM hM') rfl hM'.2.2.2.1 hM'.2.2.2.2.1 ?_ (by rw [hM'.2.2.1]; exact hts _ (List.mem_cons_of_mem _ hlk.2.2.1)) hlk.2.2.2.1 hlk.2.2.2.2, hts _ (List.mem_cons_of_mem _ hlk.2.1), trivial⟩ ⟨pc_blind, fun U hU hW => pre_at C hS hP as U hU hW⟩ rfl (by rw [List.length_map]; exact hn) hL.1 ?_ (lv_room (by rw [cat_map]; exact hcat)) hd ⟨Nat.zero_le _, Nat.zero_le _⟩) hS (fun H1 locs1 hS1 hP1 => ?_)
  · exact C.2.2.2.2.2.2.2.2.2.2 _ hlk.1
  · show (as.reverse ++ st).map (vm (eA E)) = _
    rw [List.map_append, List.map_reverse]
  · rw [cat_app _ _ hv]
    exact kk p e s m args below meth cc H1 locs1 L C hS1 hP1 hL
/-! switches -/
theorem q_tableIn {d lo hi off : Int} {offs : Array Int} {len tgt : Nat} {x : Int32} (hd : decode (mB M) pc = .ok (.tableswitch d lo hi offs, len)) (h1 : ¬ x.toInt < lo) (h2 : ¬ hi < x.toInt) (ho : offs[(x.toInt - lo).toNat]? = some off) (ht : (pc : Int) + off = (tgt : Int)) (k : Go E M tgt ls st h r hr) : Go E M pc ls (.int x :: st) h r hr :=
  fun p e s m args below meth c H locs L C hS hP hL => lv_tableIn C.1 C.2.1 hd h1 h2 ho ht (k p e s m args below meth c H locs L C hS hP hL)
theorem q_tableOut {d lo hi : Int} {offs : Array Int} {len tgt : Nat} {x : Int32} (hd : decode (mB M) pc = .ok (.tableswitch d lo hi offs, len)) (h0 : x.toInt < lo ∨ hi < x.toInt) (ht : (pc : Int) + d = (tgt : Int)) (k : Go E M tgt ls st h r hr) : Go E M pc ls (.int x :: st) h r hr :=
  fun p e s m args below meth c H locs L C hS hP hL => lv_tableOut C.1 C.2.1 hd h0 ht (k p e s m args below meth c H locs L C hS hP hL)
theorem q_lookup {d off : Int} {ps : Array (Int × Int)} {len tgt : Nat} {x : Int32} (hd : decode (mB M) pc = .ok (.lookupswitch d ps, len)) (hp : (ps.toList.zip (ps.toList.drop 1)).all (fun (a, next) => a.1 < next.1) = true) (ho : Op.lookupswitch.offset ps.toList d x.toInt = off) (ht : (pc : Int) + off = (tgt : Int)) (k : Go E M tgt ls st h r hr) : Go E M pc ls (.int x :: st) h r hr :=
  fun p e s m args below meth c H locs L C hS hP hL => lv_lookup C.1 C.2.1 hd hp ho ht (k p e s m args below meth c H locs L C hS hP hL)
end GO
