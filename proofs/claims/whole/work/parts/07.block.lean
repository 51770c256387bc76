/-! many instructions at once -/
def ilen : Instr → Nat
  | .bipush _ => 2
  | .sipush _ => 3
  | .ldc _ => 2
  | .ldc_w _ => 3
  | .ldc2_w _ => 3
  | .iload _ => 2
  | .aload _ => 2
  | .lload _ => 2
  | .istore _ => 2
  | .astore _ => 2
  | .lstore _ => 2
  | .iinc _ _ => 3
  | .getfield _ => 3
  | .putfield _ => 3
  | .goto _ => 3
  | _ => 1
def codeB (b : ByteArray) : Nat → List Instr → Bool
  | _, [] => true
  | pc, i :: t => decide (decode b pc = .ok (i, ilen i)) && codeB b (pc + ilen i) t
def jshl (x y : Int32) : Int32 := x <<< (y &&& 31)
def jshr (x y : Int32) : Int32 := x >>> (y &&& 31)
def jushr (x y : Int32) : Int32 := (x.toUInt32 >>> (y.toUInt32 &&& Int32.toUInt32 31)).toInt32
def jrem (x y : Int32) : Int32 := x - x / y * y
def s1st (M : MI) (ls : List (Option Value)) (i : Nat) (v : Value) (r : List Value) (h : pH) : Option ((List (Option Value) × List Value × pH) × Option Prop) :=
  bif decide (i < mL M) && !wide ls i then some ((ls.set i (some v), r, h), none) else none
def s1st2 (M : MI) (ls : List (Option Value)) (i : Nat) (v : Value) (r : List Value) (h : pH) : Option ((List (Option Value) × List Value × pH) × Option Prop) :=
  bif decide (i + 1 < mL M) && !wide ls i then some (((ls.set i (some v)).set (i + 1) none, r, h), none) else none
def s1 (M : MI) (i : Instr) (ls : List (Option Value)) (st : List Value) (h : pH) : Option ((List (Option Value) × List Value × pH) × Option Prop) :=
  match i with
  | .iconst n => some ((ls, .int (Int32.ofInt n) :: st, h), none)
  | .bipush n => some ((ls, .int (Int8.ofInt n).toInt32 :: st, h), none)
  | .sipush n => some ((ls, .int (Int16.ofInt n).toInt32 :: st, h), none)
  | .lconst n => some ((ls, .long (Int64.ofNat n) :: st, h), none)
  | .ldc n => match mK M n with
    | some v => some ((ls, .int v :: st, h), none)
    | none => none
  | .ldc_w n => match mK M n with
    | some v => some ((ls, .int v :: st, h), none)
    | none => none
  | .iload_n n => match ls[n.val]? with
    | some (some (.int x)) => some ((ls, .int x :: st, h), none)
    | _ => none
  | .iload n => match ls[n]? with
    | some (some (.int x)) => some ((ls, .int x :: st, h), none)
    | _ => none
  | .aload_n n => match ls[n.val]? with
    | some (some (.ref x)) => some ((ls, .ref x :: st, h), none)
    | _ => none
  | .aload n => match ls[n]? with
    | some (some (.ref x)) => some ((ls, .ref x :: st, h), none)
    | _ => none
  | .lload_n n => match ls[n.val]? with
    | some (some (.long x)) => some ((ls, .long x :: st, h), none)
    | _ => none
  | .lload n => match ls[n]? with
    | some (some (.long x)) => some ((ls, .long x :: st, h), none)
    | _ => none
  | .istore_n n => match st with
    | .int x :: r => s1st M ls n.val (.int x) r h
    | _ => none
  | .istore n => match st with
    | .int x :: r => s1st M ls n (.int x) r h
    | _ => none
  | .astore_n n => match st with
    | .ref x :: r => s1st M ls n.val (.ref x) r h
    | _ => none
  | .astore n => match st with
    | .ref x :: r => s1st M ls n (.ref x) r h
    | _ => none
  | .lstore_n n => match st with
    | .long x :: r => s1st2 M ls n.val (.long x) r h
    | _ => none
  | .lstore n => match st with
    | .long x :: r => s1st2 M ls n (.long x) r h
    | _ => none
  | .iinc n c => match ls[n]? with
    | some (some (.int x)) => s1st M ls n (.int (x + Int32.ofInt c)) st h
    | _ => none
  | .iadd => match st with
    | .int y :: .int x :: r => some ((ls, .int (x + y) :: r, h), none)
    | _ => none
  | .isub => match st with
    | .int y :: .int x :: r => some ((ls, .int (x - y) :: r, h), none)
    | _ => none
  | .imul => match st with
    | .int y :: .int x :: r => some ((ls, .int (x * y) :: r, h), none)
    | _ => none
  | .iand => match st with
    | .int y :: .int x :: r => some ((ls, .int (x &&& y) :: r, h), none)
    | _ => none
  | .ior => match st with
    | .int y :: .int x :: r => some ((ls, .int (x ||| y) :: r, h), none)
    | _ => none
  | .ixor => match st with
    | .int y :: .int x :: r => some ((ls, .int (x ^^^ y) :: r, h), none)
    | _ => none
  | .ishl => match st with
    | .int y :: .int x :: r => some ((ls, .int (jshl x y) :: r, h), none)
    | _ => none
  | .ishr => match st with
    | .int y :: .int x :: r => some ((ls, .int (jshr x y) :: r, h), none)
    | _ => none
  | .iushr => match st with
    | .int y :: .int x :: r => some ((ls, .int (jushr x y) :: r, h), none)
    | _ => none
  | .idiv => match st with
    | .int y :: .int x :: r => some ((ls, .int (x / y) :: r, h), some (¬ y = 0))
    | _ => none
  | .irem => match st with
    | .int y :: .int x :: r => some ((ls, .int (jrem x y) :: r, h), some (¬ y = 0))
    | _ => none
  | .ineg => match st with
    | .int x :: r => some ((ls, .int (-x) :: r, h), none)
    | _ => none
  | .ladd => match st with
    | .long y :: .long x :: r => some ((ls, .long (x + y) :: r, h), none)
    | _ => none
  | .lmul => match st with
    | .long y :: .long x :: r => some ((ls, .long (x * y) :: r, h), none)
    | _ => none
  | .lcmp => match st with
    | .long y :: .long x :: r => some ((ls, .int (lg_cmp x y) :: r, h), none)
    | _ => none
  | .i2l => match st with
    | .int x :: r => some ((ls, .long x.toInt64 :: r, h), none)
    | _ => none
  | .i2b => match st with
    | .int x :: r => some ((ls, .int x.toInt8.toInt32 :: r, h), none)
    | _ => none
  | .dup => match st with
    | .int x :: r => some ((ls, .int x :: .int x :: r, h), none)
    | .ref x :: r => some ((ls, .ref x :: .ref x :: r, h), none)
    | _ => none
  | .dup2 => match st with
    | .int x :: .ref y :: r => some ((ls, .int x :: .ref y :: .int x :: .ref y :: r, h), none)
    | _ => none
  | .pop => match st with
    | .int _ :: r => some ((ls, r, h), none)
    | .ref _ :: r => some ((ls, r, h), none)
    | _ => none
  | .getfield n => match st with
    | .ref o :: r => match mF M n with
      | some (c, k) => match (KF.getD c []).getD k 9 with
        | 0 => some ((ls, .int (hI h o k) :: r, h), some (ak o = 0 ∧ cx o = c))
        | 3 => some ((ls, .int (hI h o k) :: r, h), some (ak o = 0 ∧ cx o = c))
        | 1 => some ((ls, .long (hL h o k) :: r, h), some (ak o = 0 ∧ cx o = c))
        | 2 => some ((ls, .ref (rf o k) :: r, h), some (ak o = 0 ∧ cx o = c))
        | _ => none
      | none => none
    | _ => none
  | .putfield n => match st with
    | .int v :: .ref o :: r => match mF M n with
      | some (c, k) => match (KF.getD c []).getD k 9 with
        | 0 => some ((ls, r, sI h o k v), some (ak o = 0 ∧ cx o = c))
        | 3 => some ((ls, r, sI h o k v), some ((ak o = 0 ∧ cx o = c) ∧ (v = 0 ∨ v = 1)))
        | _ => none
      | none => none
    | .long v :: .ref o :: r => match mF M n with
      | some (c, k) => match (KF.getD c []).getD k 9 with
        | 1 => some ((ls, r, sL h o k v), some (ak o = 0 ∧ cx o = c))
        | _ => none
      | none => none
    | _ => none
  | .iaload => match st with
    | .int i :: .ref o :: r => some ((ls, .int (hI h o i.toNatClampNeg) :: r, h), some (ak o = 1 ∧ ¬ (i < 0 ∨ cx o ≤ i.toNatClampNeg)))
    | _ => none
  | .baload => match st with
    | .int i :: .ref o :: r => some ((ls, .int (hI h o i.toNatClampNeg) :: r, h), some ((ak o = 2 ∨ ak o = 3) ∧ ¬ (i < 0 ∨ cx o ≤ i.toNatClampNeg)))
    | _ => none
  | .laload => match st with
    | .int i :: .ref o :: r => some ((ls, .long (hL h o i.toNatClampNeg) :: r, h), some (ak o = 4 ∧ ¬ (i < 0 ∨ cx o ≤ i.toNatClampNeg)))
    | _ => none
  | .aaload => match st with
    | .int i :: .ref o :: r => some ((ls, .ref (rf o i.toNatClampNeg) :: r, h), some (ak o = 5 ∧ ¬ (i < 0 ∨ cx o ≤ i.toNatClampNeg)))
    | _ => none
  | .arraylength => match st with
    | .ref o :: r => some ((ls, .int (Int32.ofNat (cx o)) :: r, h), some (ak o = 1 ∨ ak o = 5))
    | _ => none
  | .iastore => match st with
    | .int x :: .int i :: .ref o :: r => some ((ls, r, sI h o i.toNatClampNeg x), some (ak o = 1 ∧ ¬ (i < 0 ∨ cx o ≤ i.toNatClampNeg)))
    | _ => none
  | .bastore => match st with
    | .int x :: .int i :: .ref o :: r => match ak o with
      | 2 => some ((ls, r, sI h o i.toNatClampNeg (vp_nar .byte x)), some (¬ (i < 0 ∨ cx o ≤ i.toNatClampNeg)))
      | 3 => some ((ls, r, sI h o i.toNatClampNeg (vp_nar .boolean x)), some (¬ (i < 0 ∨ cx o ≤ i.toNatClampNeg)))
      | _ => none
    | _ => none
  | .lastore => match st with
    | .long x :: .int i :: .ref o :: r => some ((ls, r, sL h o i.toNatClampNeg x), some (ak o = 4 ∧ ¬ (i < 0 ∨ cx o ≤ i.toNatClampNeg)))
    | _ => none
  | _ => none
def gA (g : Option Prop) (P : Prop) : Prop := match g with
  | none => P
  | some q => q ∧ P
def slr (M : MI) : List Instr → Nat → List (Option Value) → List Value → pH → Option ((Nat × List (Option Value) × List Value × pH) × Prop)
  | [], pc, ls, st, h => some ((pc, ls, st, h), True)
  | i :: t, pc, ls, st, h => match s1 M i ls st h with
    | none => none
    | some ((ls1, st1, h1), g) => match slr M t (pc + ilen i) ls1 st1 h1 with
      | none => none
      | some (S, P) => some (S, gA g P)
section GO
variable {E : pE} {M : MI} {pc : Nat} {ls : List (Option Value)} {st : List Value} {h h' hr : pH} {r : Option Value}
theorem s1st_ok {i : Nat} {v : Value} {rr : List Value} {ls1 : List (Option Value)} {st1 : List Value} {h1 : pH} {g : Option Prop} (e : s1st M ls i v rr h = some ((ls1, st1, h1), g)) : i < mL M ∧ wide ls i = false ∧ ls1 = ls.set i (some v) ∧ st1 = rr ∧ h1 = h := by
  unfold s1st at e
  cases hc : (decide (i < mL M) && !wide ls i) with
  | false => rw [hc] at e; cases e
  | true =>
    rw [hc] at e
    cases e
    simp at hc
    exact ⟨hc.1, hc.2, rfl, rfl, rfl⟩
theorem s1st2_ok {i : Nat} {v : Value} {rr : List Value} {ls1 : List (Option Value)} {st1 : List Value} {h1 : pH} {g : Option Prop} (e : s1st2 M ls i v rr h = some ((ls1, st1, h1), g)) : i + 1 < mL M ∧ wide ls i = false ∧ ls1 = (ls.set i (some v)).set (i + 1) none ∧ st1 = rr ∧ h1 = h := by
  unfold s1st2 at e
  cases hc : (decide (i + 1 < mL M) && !wide ls i) with
  | false => rw [hc] at e; cases e
  | true =>
    rw [hc] at e
    cases e
    simp at hc
    exact ⟨hc.1, hc.2, rfl, rfl, rfl⟩
set_option maxHeartbeats 4000000 in
theorem s1_ok (hM : MOK M) {i : Instr} {ls1 : List (Option Value)} {st1 : List Value} {h1 : pH} {g : Option Prop} (e : s1 M i ls st h = some ((ls1, st1, h1), g)) (hd : decode (mB M) pc = .ok (i, ilen i)) {P : Prop} (hg : gA g P) (k : Go E M (pc + ilen i) ls1 st1 h1 r hr) : Go E M pc ls st h r hr := by
  unfold s1 at e
  split at e
  all_goals (try (cases e; done))
  · cases e; exact q_iconst hd k
  · cases e; exact q_bipush hd k
  · cases e; exact q_sipush hd k
  · cases e; exact q_lconst hd k
  · split at e
    · cases e; exact q_ldc hM (by assumption) hd k
    · cases e
  · split at e
    · cases e; exact q_ldcw hM (by assumption) hd k
    · cases e
  · split at e
    · cases e; exact q_iload_n (by assumption) hd k
    · cases e
  · split at e
    · cases e; exact q_iload (by assumption) hd k
    · cases e
  · split at e
    · cases e; exact q_aload_n (by assumption) hd k
    · cases e
  · split at e
    · cases e; exact q_aload (by assumption) hd k
    · cases e
  · split at e
    · cases e; exact q_lload_n (by assumption) hd k
    · cases e
  · split at e
    · cases e; exact q_lload (by assumption) hd k
    · cases e
  · split at e
    · obtain ⟨a1, a2, rfl, rfl, rfl⟩ := s1st_ok e; exact q_istore_n a1 a2 hd k
    · cases e
  · split at e
    · obtain ⟨a1, a2, rfl, rfl, rfl⟩ := s1st_ok e; exact q_istore a1 a2 hd k
    · cases e
  · split at e
    · obtain ⟨a1, a2, rfl, rfl, rfl⟩ := s1st_ok e; exact q_astore_n a1 a2 hd k
    · cases e
  · split at e
    · obtain ⟨a1, a2, rfl, rfl, rfl⟩ := s1st_ok e; exact q_astore a1 a2 hd k
    · cases e
  · split at e
    · obtain ⟨a1, a2, rfl, rfl, rfl⟩ := s1st2_ok e; exact q_lstore_n a1 a2 hd k
    · cases e
  · split at e
    · obtain ⟨a1, a2, rfl, rfl, rfl⟩ := s1st2_ok e; exact q_lstore a1 a2 hd k
    · cases e
  · split at e
    · obtain ⟨a1, a2, rfl, rfl, rfl⟩ := s1st_ok e; exact q_iinc (by assumption) a1 a2 hd k
    · cases e
  · split at e <;> cases e; exact q_iadd hd k
  · split at e <;> cases e; exact q_isub hd k
  · split at e <;> cases e; exact q_imul hd k
  · split at e <;> cases e; exact q_iand hd k
  · split at e <;> cases e; exact q_ior hd k
  · split at e <;> cases e; exact q_ixor hd k
  · split at e <;> cases e; exact q_ishl hd k
  · split at e <;> cases e; exact q_ishr hd k
  · split at e <;> cases e; exact q_iushr hd k
  · split at e <;> cases e; exact q_idiv hg.1 hd k
  · split at e <;> cases e; exact q_irem hg.1 hd k
  · split at e <;> cases e; exact q_ineg hd k
  · split at e <;> cases e; exact q_ladd hd k
  · split at e <;> cases e; exact q_lmul hd k
  · split at e <;> cases e; exact q_lcmp hd k
  · split at e <;> cases e; exact q_i2l hd k
  · split at e <;> cases e; exact q_i2b hd k
  · split at e <;> cases e <;> exact q_dup rfl hd k
  · split at e <;> cases e; exact q_dup2 rfl rfl hd k
  · split at e <;> cases e <;> exact q_pop rfl hd k
  · split at e
    · split at e
      · split at e
        · cases e; exact q_getI hM (by assumption) (Or.inl (by assumption)) hg.1 hd k
        · cases e; exact q_getI hM (by assumption) (Or.inr (by assumption)) hg.1 hd k
        · cases e; exact q_getL hM (by assumption) (by assumption) hg.1 hd k
        · cases e; exact q_getR hM (by assumption) (by assumption) hg.1 hd k
        · cases e
      · cases e
    · cases e
  · split at e
    · split at e
      · split at e
        · cases e; exact q_putI hM (by assumption) (by assumption) hg.1 hd k
        · cases e; exact q_putZ hM hg.1.2 (by assumption) (by assumption) hg.1.1 hd k
        · cases e
      · cases e
    · split at e
      · split at e
        · cases e; exact q_putL hM (by assumption) (by assumption) hg.1 hd k
        · cases e
      · cases e
    · cases e
  · split at e <;> cases e; exact q_iald hg.1.1 hg.1.2 hd k
  · split at e <;> cases e
    rcases hg.1.1 with q | q
    · exact q_bald q hg.1.2 hd k
    · exact q_zald q hg.1.2 hd k
  · split at e <;> cases e; exact q_lald hg.1.1 hg.1.2 hd k
  · split at e <;> cases e; exact q_aald hg.1.1 hg.1.2 hd k
  · split at e <;> cases e; exact q_alen hg.1 rfl hd k
  · split at e <;> cases e; exact q_iast hg.1.1 hg.1.2 hd k
  · split at e
    · split at e <;> cases e
      · exact q_bast (by assumption) hg.1 hd k
      · exact q_zast (by assumption) hg.1 hd k
    · cases e
  · split at e <;> cases e; exact q_last hg.1.1 hg.1.2 hd k
theorem gA_2 {g : Option Prop} {P : Prop} (h : gA g P) : P := by
  cases g with
  | none => exact h
  | some q => exact h.2
theorem sl_ok (hM : MOK M) : ∀ (is : List Instr) {pc : Nat} {ls : List (Option Value)} {st : List Value} {h : pH} {pc1 : Nat} {ls1 : List (Option Value)} {st1 : List Value} {h1 : pH} {P : Prop}, codeB (mB M) pc is = true → slr M is pc ls st h = some ((pc1, ls1, st1, h1), P) → P → Go E M pc1 ls1 st1 h1 r hr → Go E M pc ls st h r hr := by
  intro is
  induction is with
  | nil =>
    intro pc ls st h pc1 ls1 st1 h1 P hc e hP k
    cases e
    exact k
  | cons i t ih =>
    intro pc ls st h pc1 ls1 st1 h1 P hc e hP k
    unfold codeB at hc
    rw [Bool.and_eq_true] at hc
    unfold slr at e
    split at e
    · cases e
    · next ls2 st2 h2 g he =>
      split at e
      · cases e
      · next S P' hs =>
        cases e
        exact s1_ok hM he (of_decide_eq_true hc.1) hP (ih hc.2 hs (gA_2 hP) k)
end GO
