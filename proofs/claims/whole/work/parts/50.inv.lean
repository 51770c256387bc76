/-! what holds between the two systems after every call -/
abbrev Cfg : Type := Nat × Nat × (Nat → Int) × (Nat → Int)
def GCc (c : Cfg) : Prop := GC c.1 c.2.1 c.2.2.1 c.2.2.2
def CCc (h : pH) (o : Nat) (c : Cfg) : Prop := CC h o c.1 c.2.1 c.2.2.1 c.2.2.2
def RRc (h : pH) (c : Cfg) : Prop := RR h c.1 c.2.1 c.2.2.1 c.2.2.2
/-- a kept row: grid, size, points (the class); size, grid, points (the reference) -/
def Row (h : pH) (r : Nat) (c : Cfg) : Prop := hI h r 0 = nI c.2.1 ∧ hI h r 1 = nI c.1 ∧ ∀ i, i < c.1 → hI h r (2 + 2 * i) = iI (c.2.2.1 i) ∧ hI h r (3 + 2 * i) = iI (c.2.2.2 i)
def RRow (h : pH) (a b : Nat) (c : Cfg) : Prop := hI h a b = nI c.1 ∧ hI h a (b + 1) = nI c.2.1 ∧ ∀ i, i < c.1 → hI h a (b + (2 + 2 * i)) = iI (c.2.2.1 i) ∧ hI h a (b + (3 + 2 * i)) = iI (c.2.2.2 i)
/-- slots that the invariant speaks of -/
def rel (o k : Nat) : Bool :=
  (o == 0 && (k == 13 || k == 14)) || (o == 1 && k == 1) || o == 2 || (o == 3 && k == 1) || o == 8 || o == 9 || o == 10 || (o == 17 && (decide (3 ≤ k) && decide (k ≤ 7))) || o == 18 || (o == 21 && k == 1) || o == 23 || (o == 26 && (decide (1 ≤ k) && decide (k ≤ 5))) || (decide (33 ≤ o) && decide (o ≤ 72)) || (decide (75 ≤ o) && decide (o ≤ 78)) || (o == 79 && (k == 2 || k == 16 || k == 23 || k == 24)) || o == 80 || o == 87 || o == 91 || o == 92 || o == 93
def AG (h h' : pH) : Prop := (∀ o k, rel o k = true → hI h' o k = hI h o k) ∧ ∀ k, hL h' 86 k = hL h 86 k
theorem AG.rfl' {h : pH} : AG h h := ⟨fun _ _ _ => rfl, fun _ => rfl⟩
theorem AG.trans {a b c : pH} (h1 : AG a b) (h2 : AG b c) : AG a c := ⟨fun o k hr => (h2.1 o k hr).trans (h1.1 o k hr), fun k => (h2.2 k).trans (h1.2 k)⟩
theorem hI_sI {h : pH} {o k a b : Nat} {v : Int32} : hI (sI h o k v) a b = if a = o ∧ b = k then v else hI h a b := by
  unfold hI sI
  by_cases e : a = o
  · subst e
    simp only [if_pos, true_and]
    unfold upd
    rfl
  · simp [e]
theorem hI_s {h : pH} {o k : Nat} {v : Int32} : hI (sI h o k v) o k = v := by rw [hI_sI, if_pos ⟨rfl, rfl⟩]
theorem hI_n {h : pH} {o k a b : Nat} {v : Int32} (hn : ¬ (a = o ∧ b = k)) : hI (sI h o k v) a b = hI h a b := by rw [hI_sI, if_neg hn]
theorem hL_sI {h : pH} {o k a b : Nat} {v : Int32} : hL (sI h o k v) a b = hL h a b := rfl
theorem hI_sL {h : pH} {o k a b : Nat} {v : Int64} : hI (sL h o k v) a b = hI h a b := rfl
theorem hL_sL {h : pH} {o k a b : Nat} {v : Int64} : hL (sL h o k v) a b = if a = o ∧ b = k then v else hL h a b := by
  unfold hL sL
  by_cases e : a = o
  · subst e
    simp only [if_pos, true_and]
    unfold vp_updL
    rfl
  · simp [e]
theorem AG.set {h h' : pH} (H : AG h h') {o k : Nat} {v : Int32} (hr : rel o k = false) : AG h (sI h' o k v) :=
  ⟨fun a b hab => (by
    rw [hI_n]
    · exact H.1 a b hab
    · rintro ⟨rfl, rfl⟩
      rw [hr] at hab
      exact absurd hab (by decide)), fun k => H.2 k⟩
theorem AG.setL {h h' : pH} (H : AG h h') {o k : Nat} {v : Int64} (hr : o ≠ 86) : AG h (sL h' o k v) :=
  ⟨fun a b hab => H.1 a b hab, fun b => by rw [hL_sL, if_neg (fun q => hr q.1.symm)]; exact H.2 b⟩
/-- what the class holds: points, marks of what it reckoned, the ring, slots, the tape, the place -/
def VC (KC KD KE : pH → Cfg → Prop) (k : Nat) (h : pH) (c : Cfg) (und : Nat) (P : Nat → Cfg) (S : Nat → Option Cfg) (len : Nat) (B : Nat → Nat) (pl : Int32) : Prop :=
  ∃ np st : Nat, CCc h 8 c ∧ (hI h 8 4 = nI st ∧ st ≤ 60 * k) ∧
  (∃ a : Int, hI h 21 1 = iI a ∧ -1 ≤ a ∧ a ≤ st ∧ (a = st → KC h c)) ∧
  (∃ a : Int, hI h 17 3 = iI a ∧ -1 ≤ a ∧ a ≤ st ∧ (a = st → KD h c)) ∧
  (∃ a : Int, hI h 26 1 = iI a ∧ -1 ≤ a ∧ a ≤ st ∧ (a = st → KE h c)) ∧
  (hI h 0 13 = nI und ∧ hI h 0 14 = nI np ∧ np < 40) ∧
  (∀ i, i < und → Row h (33 + (np + 40 - und + i) % 40) (P i)) ∧
  (∀ i, i < 3 → hI h 78 i = (if (S i).isSome then 1 else 0) ∧ ∀ c', S i = some c' → Row h (75 + i) c') ∧
  (hI h 1 1 = nI len ∧ ∀ i, i < len → hI h 2 i = nI (B i)) ∧ hI h 3 1 = pl
/-- what the reference holds -/
def VR (h : pH) (c : Cfg) (und : Nat) (P : Nat → Cfg) (S : Nat → Option Cfg) (len : Nat) (B : Nat → Nat) (pl : Int32) : Prop :=
  ∃ er : Nat, RRc h c ∧ (hI h 79 24 = nI und ∧ hI h 79 23 = nI er ∧ er < 40) ∧
  (∀ i, i < und → RRow h 91 (26 * ((er + i) % 40)) (P i)) ∧
  (∀ i, i < 3 → hI h 93 i = (if (S i).isSome then 1 else 0) ∧ ∀ c', S i = some c' → RRow h 92 (26 * i) c') ∧
  (hI h 79 2 = nI len ∧ ∀ i, i < len → hI h 80 i = (nI (B i)).toInt8.toInt32) ∧ hI h 79 16 = pl ∧
  (hL h 86 0 = jletters 112 111 105 110 116 0 0 ∧ hL h 86 1 = jletters 103 114 105 100 0 0 0)
def GS (c : Cfg) (und : Nat) (P : Nat → Cfg) (S : Nat → Option Cfg) (len : Nat) (B : Nat → Nat) : Prop := GCc c ∧ und ≤ 40 ∧ (∀ i, i < und → GCc (P i)) ∧ (∀ i c', S i = some c' → GCc c') ∧ len ≤ 2000 ∧ ∀ i, i < len → B i < 256
/-- nothing of the class, of the reference, has changed -/
def SC (h h' : pH) : Prop := ∀ o, o < 79 → h'.1 o = h.1 o ∧ h'.2 o = h.2 o
def SR (h h' : pH) : Prop := ∀ o, 79 ≤ o → h'.1 o = h.1 o ∧ h'.2 o = h.2 o
theorem SC.rfl' {h : pH} : SC h h := fun _ _ => ⟨rfl, rfl⟩
theorem SR.rfl' {h : pH} : SR h h := fun _ _ => ⟨rfl, rfl⟩
theorem SC.trans {a b c : pH} (h1 : SC a b) (h2 : SC b c) : SC a c := fun o ho => ⟨(h2 o ho).1.trans (h1 o ho).1, (h2 o ho).2.trans (h1 o ho).2⟩
theorem SR.trans {a b c : pH} (h1 : SR a b) (h2 : SR b c) : SR a c := fun o ho => ⟨(h2 o ho).1.trans (h1 o ho).1, (h2 o ho).2.trans (h1 o ho).2⟩
theorem SC.set {h h' : pH} (H : SC h h') {o k : Nat} {v : Int32} (ho : 79 ≤ o) : SC h (sI h' o k v) := fun a ha => ⟨by rw [sI_ne (by omega)]; exact (H a ha).1, (H a ha).2⟩
theorem SR.set {h h' : pH} (H : SR h h') {o k : Nat} {v : Int32} (ho : o < 79) : SR h (sI h' o k v) := fun a ha => ⟨by rw [sI_ne (by omega)]; exact (H a ha).1, (H a ha).2⟩
theorem SC.setL {h h' : pH} (H : SC h h') {o k : Nat} {v : Int64} (ho : 79 ≤ o) : SC h (sL h' o k v) := fun a ha => ⟨(H a ha).1, by rw [sL_ne (by omega)]; exact (H a ha).2⟩
theorem SR.setL {h h' : pH} (H : SR h h') {o k : Nat} {v : Int64} (ho : o < 79) : SR h (sL h' o k v) := fun a ha => ⟨(H a ha).1, by rw [sL_ne (by omega)]; exact (H a ha).2⟩
theorem SC.i {h h' : pH} (H : SC h h') {o k : Nat} (ho : o < 79) : hI h' o k = hI h o k := congrFun (H o ho).1 k
theorem SR.i {h h' : pH} (H : SR h h') {o k : Nat} (ho : 79 ≤ o) : hI h' o k = hI h o k := congrFun (H o ho).1 k
theorem SR.l {h h' : pH} (H : SR h h') {o k : Nat} (ho : 79 ≤ o) : hL h' o k = hL h o k := congrFun (H o ho).2 k
theorem rf8_0 : rf 8 0 = 9 := by decide +kernel
theorem rf8_1 : rf 8 1 = 10 := by decide +kernel
theorem CCc_8 {h : pH} {c : Cfg} : CCc h 8 c ↔ hI h 8 2 = nI c.1 ∧ hI h 8 3 = nI c.2.1 ∧ ∀ i, i < c.1 → hI h 9 i = iI (c.2.2.1 i) ∧ hI h 10 i = iI (c.2.2.2 i) := by
  unfold CCc CC
  rw [rf8_0, rf8_1]
section VV
variable {KC KD KE : pH → Cfg → Prop} {k : Nat} {h h' : pH} {c : Cfg} {und : Nat} {P : Nat → Cfg} {S : Nat → Option Cfg} {len : Nat} {B : Nat → Nat} {pl : Int32}
/-- a call that leaves the slots of the invariant alone -/
theorem VC.ag (hC : KC h c → KC h' c) (hD : KD h c → KD h' c) (hE : KE h c → KE h' c) (A1 : ∀ o k, o < 79 → rel o k = true → hI h' o k = hI h o k) (hu : und ≤ 40) (H : VC KC KD KE k h c und P S len B pl) : VC KC KD KE (k + 1) h' c und P S len B pl := by
  obtain ⟨np, st, cc, hs, ⟨a1, b1, b2, b3, b4⟩, ⟨a2, d1, d2, d3, d4⟩, ⟨a3, f1, f2, f3, f4⟩, hu, hp, hsl, ht, hpl⟩ := H
  refine ⟨np, st, ?_, ⟨by rw [A1 8 4 (by decide) rfl]; exact hs.1, by omega⟩, ⟨a1, by rw [A1 21 1 (by decide) rfl]; exact b1, b2, b3, fun e => hC (b4 e)⟩, ⟨a2, by rw [A1 17 3 (by decide) rfl]; exact d1, d2, d3, fun e => hD (d4 e)⟩, ⟨a3, by rw [A1 26 1 (by decide) rfl]; exact f1, f2, f3, fun e => hE (f4 e)⟩, ?_, ?_, ?_, ?_, by rw [A1 3 1 (by decide) rfl]; exact hpl⟩
  · rw [CCc_8] at cc ⊢
    exact ⟨by rw [A1 8 2 (by decide) rfl]; exact cc.1, by rw [A1 8 3 (by decide) rfl]; exact cc.2.1, fun i hi => by rw [A1 9 i (by decide) rfl, A1 10 i (by decide) rfl]; exact cc.2.2 i hi⟩
  · rw [A1 0 13 (by decide) rfl, A1 0 14 (by decide) rfl]
    exact hu
  · intro i hi
    have r1 := hp i hi
    have hlt : (np + 40 - und + i) % 40 < 40 := Nat.mod_lt _ (by decide)
    have hr : ∀ x, rel (33 + (np + 40 - und + i) % 40) x = true := fun x => by
      unfold rel
      simp only [Bool.or_eq_true, Bool.and_eq_true, decide_eq_true_eq, beq_iff_eq]
      omega
    exact ⟨by rw [A1 _ _ (by omega) (hr _)]; exact r1.1, by rw [A1 _ _ (by omega) (hr _)]; exact r1.2.1, fun j hj => by rw [A1 _ _ (by omega) (hr _), A1 _ _ (by omega) (hr _)]; exact r1.2.2 j hj⟩
  · intro i hi
    obtain ⟨s1, s3⟩ := hsl i hi
    have hr : ∀ x, rel (75 + i) x = true := fun x => by
      unfold rel
      simp only [Bool.or_eq_true, Bool.and_eq_true, decide_eq_true_eq, beq_iff_eq]
      omega
    refine ⟨by rw [A1 78 i (by decide) rfl]; exact s1, fun c' hc' => ?_⟩
    have r1 := s3 c' hc'
    exact ⟨by rw [A1 _ _ (by omega) (hr _)]; exact r1.1, by rw [A1 _ _ (by omega) (hr _)]; exact r1.2.1, fun j hj => by rw [A1 _ _ (by omega) (hr _), A1 _ _ (by omega) (hr _)]; exact r1.2.2 j hj⟩
  · exact ⟨by rw [A1 1 1 (by decide) rfl]; exact ht.1, fun i hi => by rw [A1 2 i (by decide) rfl]; exact ht.2 i hi⟩
theorem VR.ag (A1 : ∀ o k, 79 ≤ o → rel o k = true → hI h' o k = hI h o k) (A2 : ∀ k, hL h' 86 k = hL h 86 k) (H : VR h c und P S len B pl) : VR h' c und P S len B pl := by
  obtain ⟨er, rr, hu, hp, hsl, ht, hpl, hk⟩ := H
  refine ⟨er, ⟨by rw [A1 87 _ (by decide) rfl]; exact rr.1, by rw [A1 87 _ (by decide) rfl]; exact rr.2.1, fun i hi => by rw [A1 87 _ (by decide) rfl, A1 87 _ (by decide) rfl]; exact rr.2.2 i hi⟩, by rw [A1 79 24 (by decide) rfl, A1 79 23 (by decide) rfl]; exact hu, fun i hi => ?_, fun i hi => ?_, ⟨by rw [A1 79 2 (by decide) rfl]; exact ht.1, fun i hi => by rw [A1 80 i (by decide) rfl]; exact ht.2 i hi⟩, by rw [A1 79 16 (by decide) rfl]; exact hpl, by rw [A2, A2]; exact hk⟩
  · have r2 := hp i hi
    exact ⟨by rw [A1 91 _ (by decide) rfl]; exact r2.1, by rw [A1 91 _ (by decide) rfl]; exact r2.2.1, fun j hj => by rw [A1 91 _ (by decide) rfl, A1 91 _ (by decide) rfl]; exact r2.2.2 j hj⟩
  · obtain ⟨s2, s3⟩ := hsl i hi
    refine ⟨by rw [A1 93 i (by decide) rfl]; exact s2, fun c' hc' => ?_⟩
    have r2 := s3 c' hc'
    exact ⟨by rw [A1 92 _ (by decide) rfl]; exact r2.1, by rw [A1 92 _ (by decide) rfl]; exact r2.2.1, fun j hj => by rw [A1 92 _ (by decide) rfl, A1 92 _ (by decide) rfl]; exact r2.2.2 j hj⟩
theorem VR.sr (A : SR h h') (H : VR h c und P S len B pl) : VR h' c und P S len B pl := H.ag (fun _ _ ho _ => A.i ho) (fun _ => A.l (by decide))
theorem VC.sc (hC : KC h c → KC h' c) (hD : KD h c → KD h' c) (hE : KE h c → KE h' c) (A : SC h h') (hu : und ≤ 40) (H : VC KC KD KE k h c und P S len B pl) : VC KC KD KE (k + 1) h' c und P S len B pl := H.ag hC hD hE (fun _ _ ho _ => A.i ho) hu
end VV
