/-! new int[n][26] -/
theorem mo_outer (c : ClassId) (N h0 : Nat) : ∀ i : Nat, Jvm.Free.Multi.outerC c N h0 i = arrV c N (fun j => va_rf (if j < i then some (h0 + 1 + j) else none))
  | 0 => by
    show ({ cls := c, slots := Array.replicate N .null, vm := .none } : Cell) = _
    rw [arrV_new]
    refine congrArg (arrV c N) (funext fun j => ?_)
    simp [va_rf]
  | i + 1 => by
    show (Jvm.Free.Multi.outerC c N h0 i).setSlot i (.ref (h0 + 1 + i)) = _
    rw [mo_outer c N h0 i, arrV_store]
    refine congrArg (arrV c N) (funext fun j => ?_)
    by_cases e : j = i
    · subst e
      simp [updV, va_rf]
    · by_cases h : j < i
      · simp [updV, e, h, Nat.lt_succ_of_lt h]
      · simp [updV, e, h, show ¬ j < i + 1 by omega]
def rowsW (tc : Nat → ClassId) (r : Nat → Nat) (N : Nat) : va_W := (List.range N).map (fun j => (r j, .inl (tc 1, 26, .inl (fun _ => 0))))
def outW (tc : Nat → ClassId) (q : Nat) (r : Nat → Nat) (N : Nat) : Nat × va_E := (q, .inl (tc 5, N, .inr (.inr (.inr (.inr (fun i => if i < N then some (r i) else none))))))
section GN
variable {l : Launch} {D : va_G} {tc : Nat → ClassId} {M M' : MI} {A : Nat → Prop} {mc ms : Nat} {B : va_W → Prop} {pc : Nat} {ls : List (Option Value)} {st : List Value} {ws : va_W} {cells slots : Nat}
theorem n_multi {i : Nat} {n : Int32} {N : Nat} (hcl : Cond.classLink (mO M) i "[[I" ∈ LT) (harr : Cond.arrayClass .int ∈ LT) (hn : ¬ n < 0) (hN : n.toNatClampNeg = N) (hN2 : N ≤ 1000) (hc : cells + (1 + N) ≤ (mRm M).cells) (hs : slots + (N + N * 26) ≤ (mRm M).slots) (hd : decode (mB M) pc = .ok (.multianewarray i 2, 4))
    (k : ∀ (q : Nat) (r : Nat → Nat), Gn l D tc M A mc ms B (pc + 4) ls (.ref q :: st) (ws ++ outW tc q r N :: rowsW tc r N) (cells + 1 + N) (slots + N + N * 26)) : Gn l D tc M A mc ms B pc ls (.int 26 :: .int n :: st) ws cells slots := by
  subst hN
  intro p e s m args below meth c H locs L C hA hS hP hD hL T hT Xs
  have hts := C.2.2.2.2.2.1
  have hK := C.2.2.2.2.2.2.2.1
  have e26 : (26 : Int32).toNatClampNeg = 26 := by decide
  have hcl' : (Cond.classLink (mO M) i ("[" ++ (FieldType.array .int).toString)).before args s = true := by
    rw [show "[" ++ (FieldType.array .int).toString = "[[I" by decide +kernel]
    exact hts _ (List.mem_cons_of_mem _ hcl)
  obtain ⟨vm₁, cA, comp, -, fA, fC, -, -, X', step⟩ := Xs.multianewarray2F C.1 C.2.2.2.2.1 hcl' (AOI.use C.2.2.2.2.2.2.2.2.2.1) (hts _ (List.mem_cons_of_mem _ harr)) (g := F0 m pc L (.int 26 :: .int n :: st)) rfl (by rw [C.2.1]; exact hd) rfl hn (by decide) (by omega) (by decide) (by decide) rfl rfl (by omega) (by rw [e26]; omega)
  have hcA : cA = tc 5 := Option.some.inj (fA.symm.trans (hK.2 4 (tc 5, .array .int) rfl).2)
  have hco : comp = tc 1 := by
    have h1 : s.vm.findClass ("[" ++ FieldType.int.toString) = some (tc 1) := (hK.2 0 (tc 1, .int) rfl).2
    rw [show "[" ++ FieldType.int.toString = (FieldType.array .int).toString by decide +kernel] at h1
    exact Option.some.inj (fC.symm.trans h1)
  subst hcA
  subst hco
  have hTh : (T.setVm vm₁).heap = H := hT
  rw [e26] at X' step
  generalize hF : Jvm.Free.Multi.fill (T.setVm vm₁) (tc 5) (tc 1) n.toNatClampNeg 26 (defaultValue .int) n.toNatClampNeg = F at X' step
  obtain ⟨f1, f2, -, -⟩ := Jvm.Free.Multi.fill_facts (T.setVm vm₁) (tc 5) (tc 1) n.toNatClampNeg 26 (defaultValue .int) n.toNatClampNeg
  rw [hF, hTh] at f1 f2
  have hold : ∀ x : Nat, x < H.size → F.heap[x]? = H[x]? := fun x hx => by
    have := Jvm.Free.Multi.fill_old (T.setVm vm₁) (tc 5) (tc 1) n.toNatClampNeg 26 (defaultValue .int) (a := x) (by rw [hTh]; exact hx) n.toNatClampNeg
    rw [hF, hTh] at this
    exact this
  have hin : Jvm.Free.Multi.innerC (tc 1) 26 (defaultValue .int) = vp_cell (tc 1) (26, .inl (fun _ => 0)) := by
    rw [vp_cell_i, ← arrV_new]
    rfl
  have hrow : ∀ j : Nat, j < n.toNatClampNeg → F.heap[H.size + 1 + j]? = some (vp_cell (tc 1) (26, .inl (fun _ => 0))) := fun j hj => by
    have := Jvm.Free.Multi.fill_inner (T.setVm vm₁) (tc 5) (tc 1) n.toNatClampNeg 26 (defaultValue .int) n.toNatClampNeg j hj
    rw [hF, hTh, hin] at this
    exact this
  rw [mo_outer] at f2
  have hsz : H.size ≤ F.heap.size := by omega
  have key : ∀ (j : Nat) (x : Nat × va_E), (ws ++ outW tc H.size (fun i => H.size + 1 + i) n.toNatClampNeg :: rowsW tc (fun i => H.size + 1 + i) n.toNatClampNeg)[j]? = some x → (j < ws.length ∧ ws[j]? = some x) ∨ (ws.length ≤ j ∧ x.1 = H.size + (j - ws.length) ∧ va_at D classes x F.heap) := by
    intro j x hx
    by_cases hj : j < ws.length
    · rw [List.getElem?_append_left hj] at hx
      exact Or.inl ⟨hj, hx⟩
    · right
      rw [List.getElem?_append_right (by omega)] at hx
      refine ⟨by omega, ?_⟩
      cases hjd : j - ws.length with
      | zero =>
        rw [hjd] at hx
        cases hx
        exact ⟨rfl, f2⟩
      | succ d =>
        rw [hjd, List.getElem?_cons_succ] at hx
        unfold rowsW at hx
        rw [List.getElem?_map] at hx
        obtain ⟨a, ha, rfl⟩ := Option.map_eq_some_iff.mp hx
        have hd' := (List.getElem?_eq_some_iff.mp ha).1
        simp at hd'
        rw [List.getElem?_range hd'] at ha
        cases ha
        exact ⟨by show H.size + 1 + d = H.size + (d + 1); omega, hrow d hd'⟩
  have hP' : va_P D classes (ws ++ outW tc H.size (fun i => H.size + 1 + i) n.toNatClampNeg :: rowsW tc (fun i => H.size + 1 + i) n.toNatClampNeg) F.heap := by
    intro j x hx
    rcases key j x hx with ⟨-, h2⟩ | ⟨-, -, h3⟩
    · exact (hP j x h2).kept (hold x.1 (hP j x h2).lt)
    · exact h3
  have hD' : va_D A (ws ++ outW tc H.size (fun i => H.size + 1 + i) n.toNatClampNeg :: rowsW tc (fun i => H.size + 1 + i) n.toNatClampNeg) := by
    refine ⟨fun i j x y hi hj hxy => ?_, fun j x hx => ?_⟩
    · rcases key i x hi with ⟨a1, a2⟩ | ⟨a1, a2, -⟩ <;> rcases key j y hj with ⟨b1, b2⟩ | ⟨b1, b2, -⟩
      · exact hD.1 i j x y a2 b2 hxy
      · have := (hP i x a2).lt
        omega
      · have := (hP j y b2).lt
        omega
      · omega
    · rcases key j x hx with ⟨-, h2⟩ | ⟨-, h2, -⟩
      · exact hD.2 j x h2
      · exact hA _ (by rw [h2]; have := hS.1; omega)
  have hS' : va_S A s.heap F.heap locs := ⟨Nat.le_trans hS.1 hsz, fun q h1 h2 => by rw [hold q (Nat.lt_of_lt_of_le h1 hS.1)]; exact hS.2.1 q h1 h2, hS.2.2⟩
  obtain ⟨t, a1, b1⟩ := k H.size (fun i => H.size + 1 + i) p e s m args below meth c F.heap locs L C hA hS' hP' hD' hL F rfl X'
  refine ⟨t, step t ?_, b1⟩
  rw [hT]
  exact a1
end GN
