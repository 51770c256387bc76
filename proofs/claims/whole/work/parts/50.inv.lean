/-! what holds between the two systems after every call -/
abbrev Cfg : Type := Nat × Nat × (Nat → Int) × (Nat → Int)
def GCc (c : Cfg) : Prop := GC c.1 c.2.1 c.2.2.1 c.2.2.2
def CCc (h : pH) (o : Nat) (c : Cfg) : Prop := CC h o c.1 c.2.1 c.2.2.1 c.2.2.2
def RRc (h : pH) (c : Cfg) : Prop := RR h c.1 c.2.1 c.2.2.1 c.2.2.2
/-- a kept row: grid, size, points (the class); size, grid, points (the reference) -/
def Row (h : pH) (r : Nat) (c : Cfg) : Prop := hI h r 0 = nI c.2.1 ∧ hI h r 1 = nI c.1 ∧ ∀ i, i < c.1 → hI h r (2 + 2 * i) = iI (c.2.2.1 i) ∧ hI h r (3 + 2 * i) = iI (c.2.2.2 i)
def RRow (h : pH) (a b : Nat) (c : Cfg) : Prop := hI h a b = nI c.1 ∧ hI h a (b + 1) = nI c.2.1 ∧ ∀ i, i < c.1 → hI h a (b + (2 + 2 * i)) = iI (c.2.2.1 i) ∧ hI h a (b + (3 + 2 * i)) = iI (c.2.2.2 i)
/-- slots that the invariant speaks of: of the class, of the reference -/
def Pl (o k : Nat) : Prop := (o = 8 ∧ (k = 2 ∨ k = 3 ∨ k = 4)) ∨ o = 9 ∨ o = 10 ∨ (o = 21 ∧ k = 1) ∨ (o = 17 ∧ 3 ≤ k ∧ k ≤ 7) ∨ o = 18 ∨ o = 23 ∨ (o = 26 ∧ 1 ≤ k ∧ k ≤ 5)
def Pu (o k : Nat) : Prop := (o = 0 ∧ (k = 13 ∨ k = 14)) ∨ (33 ≤ o ∧ o ≤ 72)
def Ps (o : Nat) : Prop := 75 ≤ o ∧ o ≤ 78
def Pt (o k : Nat) : Prop := (o = 1 ∧ k = 1) ∨ o = 2
def Rc (o k : Nat) : Prop := Pl o k ∨ Pu o k ∨ Ps o ∨ Pt o k ∨ (o = 3 ∧ k = 1)
def Qu (o k : Nat) : Prop := (o = 79 ∧ (k = 23 ∨ k = 24)) ∨ o = 91
def Qs (o : Nat) : Prop := o = 92 ∨ o = 93
def Qt (o k : Nat) : Prop := (o = 79 ∧ k = 2) ∨ o = 80
def Rr (o k : Nat) : Prop := o = 87 ∨ Qu o k ∨ Qs o ∨ Qt o k ∨ (o = 79 ∧ k = 16)
theorem Rc_lt {o k : Nat} (h : Rc o k) : o < 79 := by unfold Rc Pl Pu Ps Pt at h; omega
theorem Rr_ge {o k : Nat} (h : Rr o k) : 79 ≤ o := by unfold Rr Qu Qs Qt at h; omega
theorem hI_sI {h : pH} {o k a b : Nat} {v : Int32} : hI (sI h o k v) a b = if a = o ∧ b = k then v else hI h a b := by
  unfold hI sI
  by_cases e : a = o
  · subst e
    simp only [if_pos, true_and]
    unfold upd
    rfl
  · simp [e]
theorem hI_s {h : pH} {o k : Nat} {v : Int32} : hI (sI h o k v) o k = v := by rw [hI_sI, if_pos ⟨rfl, rfl⟩]
theorem hI_n {h : pH} {o k a b : Nat} {v : Int32} (hn : ¬ (a = o ∧ b = k)) : hI (sI h o k v) a b = hI h a b := by rw [hI_sI, if_neg hn]
theorem hL_sI {h : pH} {o k a b : Nat} {v : Int32} : hL (sI h o k v) a b = hL h a b := rfl
theorem hI_sL {h : pH} {o k a b : Nat} {v : Int64} : hI (sL h o k v) a b = hI h a b := rfl
theorem hL_sL {h : pH} {o k a b : Nat} {v : Int64} : hL (sL h o k v) a b = if a = o ∧ b = k then v else hL h a b := by
  unfold hL sL
  by_cases e : a = o
  · subst e
    simp only [if_pos, true_and]
    unfold vp_updL
    rfl
  · simp [e]
/-- the class: its points and what it has reckoned of them -/
def VCl (KC KD KE : pH → Cfg → Prop) (k : Nat) (h : pH) (c : Cfg) : Prop :=
  ∃ st : Nat, CCc h 8 c ∧ (hI h 8 4 = nI st ∧ st ≤ 60 * k) ∧
  (∃ a : Int, hI h 21 1 = iI a ∧ -1 ≤ a ∧ a ≤ st ∧ (a = st → KC h c)) ∧
  (∃ a : Int, hI h 17 3 = iI a ∧ -1 ≤ a ∧ a ≤ st ∧ (a = st → KD h c)) ∧
  (∃ a : Int, hI h 26 1 = iI a ∧ -1 ≤ a ∧ a ≤ st ∧ (a = st → KE h c))
/-- its ring of what can be undone -/
def VCu (h : pH) (und : Nat) (P : Nat → Cfg) : Prop := ∃ np : Nat, (hI h 0 13 = nI und ∧ hI h 0 14 = nI np ∧ np < 40) ∧ ∀ i, i < und → Row h (33 + (np + 40 - und + i) % 40) (P i)
def VCs (h : pH) (S : Nat → Option Cfg) : Prop := ∀ i, i < 3 → hI h 78 i = (if (S i).isSome then 1 else 0) ∧ ∀ c', S i = some c' → Row h (75 + i) c'
def VCt (h : pH) (len : Nat) (B : Nat → Nat) : Prop := hI h 1 1 = nI len ∧ ∀ i, i < len → hI h 2 i = nI (B i)
def VC (KC KD KE : pH → Cfg → Prop) (k : Nat) (h : pH) (c : Cfg) (und : Nat) (P : Nat → Cfg) (S : Nat → Option Cfg) (len : Nat) (B : Nat → Nat) (pl : Int32) : Prop :=
  VCl KC KD KE k h c ∧ VCu h und P ∧ VCs h S ∧ VCt h len B ∧ hI h 3 1 = pl
/-- the reference -/
def VRu (h : pH) (und : Nat) (P : Nat → Cfg) : Prop := ∃ er : Nat, (hI h 79 24 = nI und ∧ hI h 79 23 = nI er ∧ er < 40) ∧ ∀ i, i < und → RRow h 91 (26 * ((er + i) % 40)) (P i)
def VRs (h : pH) (S : Nat → Option Cfg) : Prop := ∀ i, i < 3 → hI h 93 i = (if (S i).isSome then 1 else 0) ∧ ∀ c', S i = some c' → RRow h 92 (26 * i) c'
def VRt (h : pH) (len : Nat) (B : Nat → Nat) : Prop := hI h 79 2 = nI len ∧ ∀ i, i < len → hI h 80 i = (nI (B i)).toInt8.toInt32
def VR (h : pH) (c : Cfg) (und : Nat) (P : Nat → Cfg) (S : Nat → Option Cfg) (len : Nat) (B : Nat → Nat) (pl : Int32) : Prop :=
  RRc h c ∧ VRu h und P ∧ VRs h S ∧ VRt h len B ∧ hI h 79 16 = pl ∧ (hL h 86 0 = jletters 112 111 105 110 116 0 0 ∧ hL h 86 1 = jletters 103 114 105 100 0 0 0)
def GS (c : Cfg) (und : Nat) (P : Nat → Cfg) (S : Nat → Option Cfg) (len : Nat) (B : Nat → Nat) : Prop := GCc c ∧ und ≤ 40 ∧ (∀ i, i < und → GCc (P i)) ∧ (∀ i c', S i = some c' → GCc c') ∧ len ≤ 2000 ∧ ∀ i, i < len → B i < 256
/-- nothing of the class, of the reference, has changed -/
def SC (h h' : pH) : Prop := ∀ o, o < 79 → h'.1 o = h.1 o ∧ h'.2 o = h.2 o
def SR (h h' : pH) : Prop := ∀ o, 79 ≤ o → h'.1 o = h.1 o ∧ h'.2 o = h.2 o
theorem SC.rfl' {h : pH} : SC h h := fun _ _ => ⟨rfl, rfl⟩
theorem SR.rfl' {h : pH} : SR h h := fun _ _ => ⟨rfl, rfl⟩
theorem SC.trans {a b c : pH} (h1 : SC a b) (h2 : SC b c) : SC a c := fun o ho => ⟨(h2 o ho).1.trans (h1 o ho).1, (h2 o ho).2.trans (h1 o ho).2⟩
theorem SR.trans {a b c : pH} (h1 : SR a b) (h2 : SR b c) : SR a c := fun o ho => ⟨(h2 o ho).1.trans (h1 o ho).1, (h2 o ho).2.trans (h1 o ho).2⟩
theorem SC.set {h h' : pH} (H : SC h h') {o k : Nat} {v : Int32} (ho : 79 ≤ o) : SC h (sI h' o k v) := fun a ha => ⟨by rw [sI_ne (by omega)]; exact (H a ha).1, (H a ha).2⟩
theorem SR.set {h h' : pH} (H : SR h h') {o k : Nat} {v : Int32} (ho : o < 79) : SR h (sI h' o k v) := fun a ha => ⟨by rw [sI_ne (by omega)]; exact (H a ha).1, (H a ha).2⟩
theorem SC.setL {h h' : pH} (H : SC h h') {o k : Nat} {v : Int64} (ho : 79 ≤ o) : SC h (sL h' o k v) := fun a ha => ⟨(H a ha).1, by rw [sL_ne (by omega)]; exact (H a ha).2⟩
theorem SR.setL {h h' : pH} (H : SR h h') {o k : Nat} {v : Int64} (ho : o < 79) : SR h (sL h' o k v) := fun a ha => ⟨(H a ha).1, by rw [sL_ne (by omega)]; exact (H a ha).2⟩
theorem SC.i {h h' : pH} (H : SC h h') {o k : Nat} (ho : o < 79) : hI h' o k = hI h o k := congrFun (H o ho).1 k
theorem SR.i {h h' : pH} (H : SR h h') {o k : Nat} (ho : 79 ≤ o) : hI h' o k = hI h o k := congrFun (H o ho).1 k
theorem SR.l {h h' : pH} (H : SR h h') {o k : Nat} (ho : 79 ≤ o) : hL h' o k = hL h o k := congrFun (H o ho).2 k
theorem rf8_0 : rf 8 0 = 9 := by decide +kernel
theorem rf8_1 : rf 8 1 = 10 := by decide +kernel
theorem CCc_8 {h : pH} {c : Cfg} : CCc h 8 c ↔ hI h 8 2 = nI c.1 ∧ hI h 8 3 = nI c.2.1 ∧ ∀ i, i < c.1 → hI h 9 i = iI (c.2.2.1 i) ∧ hI h 10 i = iI (c.2.2.2 i) := by
  unfold CCc CC
  rw [rf8_0, rf8_1]
def krel (o k : Nat) : Bool := o == 18 || o == 23 || (o == 17 && (decide (4 ≤ k) && decide (k ≤ 7))) || (o == 26 && (decide (2 ≤ k) && decide (k ≤ 5)))
theorem krel_iff {o k : Nat} : krel o k = true ↔ o = 18 ∨ o = 23 ∨ (o = 17 ∧ 4 ≤ k ∧ k ≤ 7) ∨ (o = 26 ∧ 2 ≤ k ∧ k ≤ 5) := by
  unfold krel
  simp only [Bool.or_eq_true, Bool.and_eq_true, decide_eq_true_eq, beq_iff_eq]
  omega
def Kst (K : pH → Cfg → Prop) : Prop := ∀ (h h' : pH) (c : Cfg), (∀ o k, krel o k = true → hI h' o k = hI h o k) → K h c → K h' c
def JJ (KC KD KE : pH → Cfg → Prop) (k : Nat) (h : pH) : Prop := ∃ (c : Cfg) (und : Nat) (P : Nat → Cfg) (S : Nat → Option Cfg) (len : Nat) (B : Nat → Nat) (pl : Int32), GS c und P S len B ∧ VC KC KD KE k h c und P S len B pl ∧ VR h c und P S len B pl
section VV
variable {KC KD KE : pH → Cfg → Prop} {k : Nat} {h h' : pH} {c : Cfg} {und : Nat} {P : Nat → Cfg} {S : Nat → Option Cfg} {len : Nat} {B : Nat → Nat} {pl : Int32}
theorem Row.fr {r : Nat} (A : ∀ k, hI h' r k = hI h r k) (H : Row h r c) : Row h' r c := ⟨by rw [A]; exact H.1, by rw [A]; exact H.2.1, fun i hi => by rw [A, A]; exact H.2.2 i hi⟩
theorem RRow.fr {a b : Nat} (A : ∀ k, k < 26 → hI h' a (b + k) = hI h a (b + k)) (hc : c.1 ≤ 12) (H : RRow h a b c) : RRow h' a b c := ⟨by have := A 0 (by omega); rw [Nat.add_zero] at this; rw [this]; exact H.1, by rw [A 1 (by omega)]; exact H.2.1, fun i hi => by rw [A _ (by omega), A _ (by omega)]; exact H.2.2 i hi⟩
theorem CCc.fr (A : ∀ o k, (o = 8 ∧ (k = 2 ∨ k = 3)) ∨ o = 9 ∨ o = 10 → hI h' o k = hI h o k) (H : CCc h 8 c) : CCc h' 8 c := by
  rw [CCc_8] at H ⊢
  exact ⟨by rw [A 8 2 (by omega)]; exact H.1, by rw [A 8 3 (by omega)]; exact H.2.1, fun i hi => by rw [A 9 i (by omega), A 10 i (by omega)]; exact H.2.2 i hi⟩
theorem VCl.fr (hKC : Kst KC) (hKD : Kst KD) (hKE : Kst KE) {k' : Nat} (hk : k ≤ k') (A : ∀ o k, Pl o k → hI h' o k = hI h o k) (H : VCl KC KD KE k h c) : VCl KC KD KE k' h' c := by
  obtain ⟨st, cc, hs, ⟨a1, b1, b2, b3, b4⟩, ⟨a2, d1, d2, d3, d4⟩, ⟨a3, f1, f2, f3, f4⟩⟩ := H
  have kr : ∀ o k, krel o k = true → hI h' o k = hI h o k := fun o k hr => A o k (by have := krel_iff.mp hr; unfold Pl; omega)
  exact ⟨st, CCc.fr (fun o k hr => A o k (by unfold Pl; omega)) cc, ⟨by rw [A 8 4 (by unfold Pl; omega)]; exact hs.1, by omega⟩, ⟨a1, by rw [A 21 1 (by unfold Pl; omega)]; exact b1, b2, b3, fun e => hKC _ _ _ kr (b4 e)⟩, ⟨a2, by rw [A 17 3 (by unfold Pl; omega)]; exact d1, d2, d3, fun e => hKD _ _ _ kr (d4 e)⟩, ⟨a3, by rw [A 26 1 (by unfold Pl; omega)]; exact f1, f2, f3, fun e => hKE _ _ _ kr (f4 e)⟩⟩
theorem VCu.fr (A : ∀ o k, Pu o k → hI h' o k = hI h o k) (H : VCu h und P) : VCu h' und P := by
  obtain ⟨np, hu, hp⟩ := H
  refine ⟨np, by rw [A 0 13 (by unfold Pu; omega), A 0 14 (by unfold Pu; omega)]; exact hu, fun i hi => (hp i hi).fr (fun k => A _ k ?_)⟩
  have : (np + 40 - und + i) % 40 < 40 := Nat.mod_lt _ (by decide)
  unfold Pu
  omega
theorem VCs.fr (A : ∀ o k, Ps o → hI h' o k = hI h o k) (H : VCs h S) : VCs h' S := fun i hi => ⟨by rw [A 78 i (by unfold Ps; omega)]; exact (H i hi).1, fun c' hc => ((H i hi).2 c' hc).fr (fun k => A _ k (by unfold Ps; omega))⟩
theorem VCt.fr (A : ∀ o k, Pt o k → hI h' o k = hI h o k) (H : VCt h len B) : VCt h' len B := ⟨by rw [A 1 1 (by unfold Pt; omega)]; exact H.1, fun i hi => by rw [A 2 i (by unfold Pt; omega)]; exact H.2 i hi⟩
theorem RRc.fr (A : ∀ k, hI h' 87 k = hI h 87 k) (H : RRc h c) : RRc h' c := ⟨by rw [A]; exact H.1, by rw [A]; exact H.2.1, fun i hi => by rw [A, A]; exact H.2.2 i hi⟩
theorem VRu.fr (g : ∀ i, i < und → GCc (P i)) (A : ∀ o k, Qu o k → hI h' o k = hI h o k) (H : VRu h und P) : VRu h' und P := by
  obtain ⟨er, hu, hp⟩ := H
  exact ⟨er, by rw [A 79 24 (by unfold Qu; omega), A 79 23 (by unfold Qu; omega)]; exact hu, fun i hi => (hp i hi).fr (fun k _ => A _ _ (by unfold Qu; omega)) (g i hi).1⟩
theorem VRs.fr (g : ∀ i c', S i = some c' → GCc c') (A : ∀ o k, Qs o → hI h' o k = hI h o k) (H : VRs h S) : VRs h' S := fun i hi => ⟨by rw [A 93 i (by unfold Qs; omega)]; exact (H i hi).1, fun c' hc => ((H i hi).2 c' hc).fr (fun k _ => A _ _ (by unfold Qs; omega)) (g i c' hc).1⟩
theorem VRt.fr (A : ∀ o k, Qt o k → hI h' o k = hI h o k) (H : VRt h len B) : VRt h' len B := ⟨by rw [A 79 2 (by unfold Qt; omega)]; exact H.1, fun i hi => by rw [A 80 i (by unfold Qt; omega)]; exact H.2 i hi⟩
/-- a call that leaves the slots of the invariant alone -/
theorem VC.ag (hKC : Kst KC) (hKD : Kst KD) (hKE : Kst KE) {k' : Nat} (hk : k ≤ k') (A : ∀ o k, Rc o k → hI h' o k = hI h o k) (H : VC KC KD KE k h c und P S len B pl) : VC KC KD KE k' h' c und P S len B pl :=
  ⟨H.1.fr hKC hKD hKE hk (fun o k q => A o k (Or.inl q)), H.2.1.fr (fun o k q => A o k (Or.inr (Or.inl q))), H.2.2.1.fr (fun o k q => A o k (Or.inr (Or.inr (Or.inl q)))), H.2.2.2.1.fr (fun o k q => A o k (Or.inr (Or.inr (Or.inr (Or.inl q))))), by rw [A 3 1 (Or.inr (Or.inr (Or.inr (Or.inr ⟨rfl, rfl⟩))))]; exact H.2.2.2.2⟩
theorem VR.ag (g : GS c und P S len B) (A : ∀ o k, Rr o k → hI h' o k = hI h o k) (A2 : ∀ k, hL h' 86 k = hL h 86 k) (H : VR h c und P S len B pl) : VR h' c und P S len B pl :=
  ⟨H.1.fr (fun k => A 87 k (Or.inl rfl)), H.2.1.fr g.2.2.1 (fun o k q => A o k (Or.inr (Or.inl q))), H.2.2.1.fr g.2.2.2.1 (fun o k q => A o k (Or.inr (Or.inr (Or.inl q)))), H.2.2.2.1.fr (fun o k q => A o k (Or.inr (Or.inr (Or.inr (Or.inl q))))), by rw [A 79 16 (Or.inr (Or.inr (Or.inr (Or.inr ⟨rfl, rfl⟩))))]; exact H.2.2.2.2.1, by rw [A2, A2]; exact H.2.2.2.2.2⟩
theorem VR.sr (g : GS c und P S len B) (A : SR h h') (H : VR h c und P S len B pl) : VR h' c und P S len B pl := H.ag g (fun _ _ ho => A.i (Rr_ge ho)) (fun _ => A.l (by decide))
theorem VC.sc (hKC : Kst KC) (hKD : Kst KD) (hKE : Kst KE) {k' : Nat} (hk : k ≤ k') (A : SC h h') (H : VC KC KD KE k h c und P S len B pl) : VC KC KD KE k' h' c und P S len B pl := H.ag hKC hKD hKE hk (fun _ _ ho => A.i (Rc_lt ho))
theorem JJ.mono (hKC : Kst KC) (hKD : Kst KD) (hKE : Kst KE) (H : JJ KC KD KE k h) : JJ KC KD KE (k + 1) h := by
  obtain ⟨c, und, P, S, len, B, pl, g, vc, vr⟩ := H
  exact ⟨c, und, P, S, len, B, pl, g, vc.sc hKC hKD hKE (by omega) SC.rfl', vr⟩
end VV
