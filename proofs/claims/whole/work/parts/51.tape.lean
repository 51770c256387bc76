/-! the tape: feed, back, place -/
def by4 (x : Int32) (k : Nat) : Nat := (jshr x (nI (24 - 8 * k))).toBitVec.toNat % 256
def extB (B : Nat → Nat) (len : Nat) (x : Int32) (i : Nat) : Nat := if i < len then B i else by4 x (i - len)
def tpC (x : Int32) (len : Nat) (h : pH) : Nat → pH
  | 0 => h
  | k + 1 => sI (sI (tpC x len h k) 2 (len + k) (nI (by4 x k))) 1 1 (nI (len + k + 1))
def tpR (x : Int32) (len : Nat) (h : pH) : Nat → pH
  | 0 => h
  | k + 1 => sI (sI (tpR x len h k) 80 (len + k) ((nI (by4 x k)).toInt8.toInt32)) 79 2 (nI (len + k + 1))
theorem by4_and (x : Int32) {k : Nat} : (jshr x (nI (24 - 8 * k))) &&& 255 = nI (by4 x k) := pk_and _ 8 (by decide)
theorem fa_byte_low' (x : Int32) : (x &&& 255).toInt8 = x.toInt8 := by
  apply Int8.toBitVec_inj.1
  apply BitVec.eq_of_getLsbD_eq
  intro i hi
  have h2 : (255 : Int32).toBitVec.getLsbD i = true := by
    have : ∀ j : Fin 8, (255 : Int32).toBitVec.getLsbD j.val = true := by decide +kernel
    exact this ⟨i, hi⟩
  have h4 : (x &&& 255).toBitVec.getLsbD i = x.toBitVec.getLsbD i := by
    show (x.toBitVec &&& (255 : Int32).toBitVec).getLsbD i = _
    rw [BitVec.getLsbD_and, h2, Bool.and_true]
  have h3 : i < 32 := by omega
  first
    | (show (((x &&& 255).toBitVec).signExtend 8).getLsbD i = (x.toBitVec.signExtend 8).getLsbD i; rw [BitVec.getLsbD_signExtend, BitVec.getLsbD_signExtend, if_pos h3, if_pos h3, h4])
    | (show (((x &&& 255).toBitVec).setWidth 8).getLsbD i = (x.toBitVec.setWidth 8).getLsbD i; rw [BitVec.getLsbD_setWidth, BitVec.getLsbD_setWidth, h4])
    | (simp [hi, h3, h4]; done)
theorem by4_byte (x : Int32) {k : Nat} : vp_nar .byte ((jshr x (nI (24 - 8 * k))).toInt8.toInt32) = (nI (by4 x k)).toInt8.toInt32 := by
  rw [pk_vb, ← by4_and, fa_byte_low']
theorem tpC_len {x : Int32} {len : Nat} {h : pH} (h0 : hI h 1 1 = nI len) : ∀ k, hI (tpC x len h k) 1 1 = nI (len + k)
  | 0 => h0
  | k + 1 => by show hI (sI _ 1 1 _) 1 1 = _; rw [hI_s]; rfl
theorem tpR_len {x : Int32} {len : Nat} {h : pH} (h0 : hI h 79 2 = nI len) : ∀ k, hI (tpR x len h k) 79 2 = nI (len + k)
  | 0 => h0
  | k + 1 => by show hI (sI _ 79 2 _) 79 2 = _; rw [hI_s]; rfl
theorem tpC_fr {x : Int32} {len : Nat} {h : pH} {o a : Nat} (hn : ¬ (o = 1 ∧ a = 1)) (h2 : ¬ (o = 2 ∧ len ≤ a)) : ∀ k, hI (tpC x len h k) o a = hI h o a
  | 0 => rfl
  | k + 1 => by
    show hI (sI (sI _ 2 _ _) 1 1 _) o a = _
    rw [hI_n hn, hI_n (by omega)]
    exact tpC_fr hn h2 k
theorem tpR_fr {x : Int32} {len : Nat} {h : pH} {o a : Nat} (hn : ¬ (o = 79 ∧ a = 2)) (h2 : ¬ (o = 80 ∧ len ≤ a)) : ∀ k, hI (tpR x len h k) o a = hI h o a
  | 0 => rfl
  | k + 1 => by
    show hI (sI (sI _ 80 _ _) 79 2 _) o a = _
    rw [hI_n hn, hI_n (by omega)]
    exact tpR_fr hn h2 k
theorem tpC_l {x : Int32} {len : Nat} {h : pH} : ∀ k, (tpC x len h k).2 = h.2
  | 0 => rfl
  | k + 1 => tpC_l k
theorem tpR_l {x : Int32} {len : Nat} {h : pH} : ∀ k, (tpR x len h k).2 = h.2
  | 0 => rfl
  | k + 1 => tpR_l k
theorem tpC_at {x : Int32} {len : Nat} {h : pH} : ∀ (k j : Nat), j < k → hI (tpC x len h k) 2 (len + j) = nI (by4 x j)
  | k + 1, j, hj => by
    show hI (sI (sI _ 2 _ _) 1 1 _) 2 (len + j) = _
    rw [hI_n (by omega)]
    by_cases e : j = k
    · subst e; rw [hI_s]
    · rw [hI_n (by omega)]; exact tpC_at k j (by omega)
theorem tpR_at {x : Int32} {len : Nat} {h : pH} : ∀ (k j : Nat), j < k → hI (tpR x len h k) 80 (len + j) = (nI (by4 x j)).toInt8.toInt32
  | k + 1, j, hj => by
    show hI (sI (sI _ 80 _ _) 79 2 _) 80 (len + j) = _
    rw [hI_n (by omega)]
    by_cases e : j = k
    · subst e; rw [hI_s]
    · rw [hI_n (by omega)]; exact tpR_at k j (by omega)
def shK (k : Nat) : Int32 := if k = 0 then 24 else if k = 1 then 16 else if k = 2 then 8 else if k = 3 then 0 else -8
theorem push_ok {x : Int32} {len : Nat} {h : pH} (h0 : hI h 1 1 = nI len) (hl : len + 4 ≤ 2000) : f_Tape_push x h = some (tpC x len h 4) := by
  unfold f_Tape_push
  refine lp_run (f := fun s => f_Tape_push_L1 x s.1 s.2) (fun k => (shK k, tpC x len h k)) 4 (fun k hk => ?_) ?_ (n := lpN) (by decide)
  · show f_Tape_push_L1 x (shK k) (tpC x len h k) = some (.inl (shK (k + 1), tpC x len h (k + 1)))
    unfold f_Tape_push_L1
    have e1 : ¬ shK k < 0 := by rcases (show k = 0 ∨ k = 1 ∨ k = 2 ∨ k = 3 by omega) with rfl | rfl | rfl | rfl <;> decide
    have e2 : shK k + (-8) = shK (k + 1) := by rcases (show k = 0 ∨ k = 1 ∨ k = 2 ∨ k = 3 by omega) with rfl | rfl | rfl | rfl <;> decide
    have e3 : shK k = nI (24 - 8 * k) := by rcases (show k = 0 ∨ k = 1 ∨ k = 2 ∨ k = 3 by omega) with rfl | rfl | rfl | rfl <;> decide
    rw [if_neg e1, tpC_len h0, show (2000 : Int32) = nI 2000 from rfl, if_neg (lt_no (by omega) (by omega)), if_neg (gd (by omega) (by omega)), cla (by omega), e2, e3, by4_and, hI_n (by omega), tpC_len h0, nI_1]
    rfl
  · show f_Tape_push_L1 x (shK 4) _ = _
    unfold f_Tape_push_L1
    rw [if_pos (by decide)]
theorem lays1_ok {x : Int32} {len : Nat} {h : pH} (h0 : hI h 79 2 = nI len) (hl : len + 4 ≤ 2000) : f_R_lays1 x h = some (tpR x len h 4) := by
  unfold f_R_lays1
  refine lp_run (f := fun s => f_R_lays1_L1 x s.1 s.2) (fun k => (shK k, tpR x len h k)) 4 (fun k hk => ?_) ?_ (n := lpN) (by decide)
  · show f_R_lays1_L1 x (shK k) (tpR x len h k) = some (.inl (shK (k + 1), tpR x len h (k + 1)))
    unfold f_R_lays1_L1
    have e1 : ¬ shK k < 0 := by rcases (show k = 0 ∨ k = 1 ∨ k = 2 ∨ k = 3 by omega) with rfl | rfl | rfl | rfl <;> decide
    have e2 : shK k + (-8) = shK (k + 1) := by rcases (show k = 0 ∨ k = 1 ∨ k = 2 ∨ k = 3 by omega) with rfl | rfl | rfl | rfl <;> decide
    have e3 : shK k = nI (24 - 8 * k) := by rcases (show k = 0 ∨ k = 1 ∨ k = 2 ∨ k = 3 by omega) with rfl | rfl | rfl | rfl <;> decide
    rw [if_neg e1, tpR_len h0, if_neg (gd (by omega) (by omega)), cla (by omega), e2, e3, by4_byte, hI_n (by omega), tpR_len h0, nI_1]
    rfl
  · show f_R_lays1_L1 x (shK 4) _ = _
    unfold f_R_lays1_L1
    rw [if_pos (by decide)]
section TP
variable {KC KD KE : pH → Cfg → Prop}
theorem extB_lt {B : Nat → Nat} {len : Nat} {x : Int32} (hB : ∀ i, i < len → B i < 256) (i : Nat) : extB B len x i < 256 := by
  unfold extB
  split
  · exact hB i (by assumption)
  · exact Nat.mod_lt _ (by decide)
/-- the class's view behind a push -/
theorem VC.push (hKC : Kst KC) (hKD : Kst KD) (hKE : Kst KE) {k : Nat} {h : pH} {c : Cfg} {und : Nat} {P : Nat → Cfg} {S : Nat → Option Cfg} {len : Nat} {B : Nat → Nat} {pl : Int32} (x : Int32) (H : VC KC KD KE k h c und P S len B pl) : VC KC KD KE k (tpC x len h 4) c und P S (len + 4) (extB B len x) pl := by
  have fr : ∀ {o a : Nat}, ¬ (o = 1 ∧ a = 1) → ¬ (o = 2 ∧ len ≤ a) → hI (tpC x len h 4) o a = hI h o a := fun h1 h2 => tpC_fr h1 h2 4
  refine ⟨H.1.fr hKC hKD hKE (Nat.le_refl _) (fun o k q => by unfold Pl at q; exact fr (by omega) (by omega)), H.2.1.fr (fun o k q => by unfold Pu at q; exact fr (by omega) (by omega)), H.2.2.1.fr (fun o k q => by unfold Ps at q; exact fr (by omega) (by omega)), ⟨tpC_len H.2.2.2.1.1 4, fun i hi => ?_⟩, by rw [fr (by omega) (by omega)]; exact H.2.2.2.2⟩
  unfold extB
  by_cases e : i < len
  · rw [if_pos e, fr (by omega) (by omega)]; exact H.2.2.2.1.2 i e
  · rw [if_neg e]
    obtain ⟨j, rfl⟩ : ∃ j, i = len + j := ⟨i - len, by omega⟩
    rw [tpC_at 4 j (by omega), Nat.add_sub_cancel_left]
theorem VR.push {h : pH} {c : Cfg} {und : Nat} {P : Nat → Cfg} {S : Nat → Option Cfg} {len : Nat} {B : Nat → Nat} {pl : Int32} (g1 : ∀ i, i < und → GCc (P i)) (g2 : ∀ i c', S i = some c' → GCc c') (x : Int32) (H : VR h c und P S len B pl) : VR (tpR x len h 4) c und P S (len + 4) (extB B len x) pl := by
  have fr : ∀ {o a : Nat}, ¬ (o = 79 ∧ a = 2) → ¬ (o = 80 ∧ len ≤ a) → hI (tpR x len h 4) o a = hI h o a := fun h1 h2 => tpR_fr h1 h2 4
  have hl : ∀ a b, hL (tpR x len h 4) a b = hL h a b := fun a b => by unfold hL; rw [tpR_l 4]
  refine ⟨H.1.fr (fun k => fr (by omega) (by omega)), H.2.1.fr g1 (fun o k q => by unfold Qu at q; exact fr (by omega) (by omega)), H.2.2.1.fr g2 (fun o k q => by unfold Qs at q; exact fr (by omega) (by omega)), ⟨tpR_len H.2.2.2.1.1 4, fun i hi => ?_⟩, by rw [fr (by omega) (by omega)]; exact H.2.2.2.2.1, by rw [hl, hl]; exact H.2.2.2.2.2⟩
  unfold extB
  by_cases e : i < len
  · rw [if_pos e, fr (by omega) (by omega)]; exact H.2.2.2.1.2 i e
  · rw [if_neg e]
    obtain ⟨j, rfl⟩ : ∃ j, i = len + j := ⟨i - len, by omega⟩
    rw [tpR_at 4 j (by omega), Nat.add_sub_cancel_left]
theorem tpC_SR {x : Int32} {len : Nat} {h : pH} : SR h (tpC x len h 4) := fun o ho => ⟨by funext a; exact tpC_fr (by omega) (by omega) 4, by rw [tpC_l]⟩
theorem tpR_SC {x : Int32} {len : Nat} {h : pH} : SC h (tpR x len h 4) := fun o ho => ⟨by funext a; exact tpR_fr (by omega) (by omega) 4, by rw [tpR_l]⟩
theorem VC.len {KC KD KE : pH → Cfg → Prop} {k : Nat} {h : pH} {c : Cfg} {und : Nat} {P : Nat → Cfg} {S : Nat → Option Cfg} {len : Nat} {B : Nat → Nat} {pl : Int32} (H : VC KC KD KE k h c und P S len B pl) : hI h 1 1 = nI len := H.2.2.2.1.1
theorem VR.len {h : pH} {c : Cfg} {und : Nat} {P : Nat → Cfg} {S : Nat → Option Cfg} {len : Nat} {B : Nat → Nat} {pl : Int32} (H : VR h c und P S len B pl) : hI h 79 2 = nI len := H.2.2.2.1.1
theorem sp_feed (hKC : Kst KC) (hKD : Kst KD) (hKE : Kst KE) : Sp_feed (JJ KC KD KE) := by
  intro n h hn HJ x1 x2 x3 x4 x5
  have HJ' := HJ
  obtain ⟨c, und, P, S, len, B, pl, g, vc, vr⟩ := HJ
  have hlen := g.2.2.2.2.1
  unfold f_C_feed f_R_feed
  rw [vc.len]
  by_cases hl : len + 20 ≤ 2000
  · rw [show (1980 : Int32) = nI 1980 from rfl, if_pos (ge_yes (by omega) (by omega)), push_ok vc.len (by omega)]
    have v1 := vc.push hKC hKD hKE x1
    simp only [Option.bind_some]
    rw [push_ok v1.len (by omega)]
    have v2 := v1.push hKC hKD hKE x2
    simp only [Option.bind_some]
    rw [push_ok v2.len (by omega)]
    have v3 := v2.push hKC hKD hKE x3
    simp only [Option.bind_some]
    rw [push_ok v3.len (by omega)]
    have v4 := v3.push hKC hKD hKE x4
    simp only [Option.bind_some]
    rw [push_ok v4.len (by omega)]
    have v5 := v4.push hKC hKD hKE x5
    simp only [Option.bind_some]
    have s5 := (((tpC_SR (x := x1) (len := len) (h := h)).trans (tpC_SR (x := x2) (len := len + 4))).trans (tpC_SR (x := x3) (len := len + 4 + 4))).trans (tpC_SR (x := x4) (len := len + 4 + 4 + 4)) |>.trans (tpC_SR (x := x5) (len := len + 4 + 4 + 4 + 4))
    generalize hh : tpC x5 (len + 4 + 4 + 4 + 4) (tpC x4 (len + 4 + 4 + 4) (tpC x3 (len + 4 + 4) (tpC x2 (len + 4) (tpC x1 len h 4) 4) 4) 4) 4 = h1 at v5 s5 ⊢
    have w0 := vr.sr g s5
    have gp := g.2.2.1
    have gs := g.2.2.2.1
    refine ⟨_, _, tpR x5 (len + 4 + 4 + 4 + 4) (tpR x4 (len + 4 + 4 + 4) (tpR x3 (len + 4 + 4) (tpR x2 (len + 4) (tpR x1 len h1 4) 4) 4) 4) 4, rfl, ?_, ?_⟩
    · rw [w0.len, show (20 : Int32) = nI 20 from rfl, nI_add, show (2000 : Int32) = nI 2000 from rfl, if_pos (ge_yes (by omega) (by omega)), lays1_ok w0.len (by omega)]
      have w1 := w0.push gp gs x1
      simp only [Option.bind_some]
      rw [lays1_ok w1.len (by omega)]
      have w2 := w1.push gp gs x2
      simp only [Option.bind_some]
      rw [lays1_ok w2.len (by omega)]
      have w3 := w2.push gp gs x3
      simp only [Option.bind_some]
      rw [lays1_ok w3.len (by omega)]
      have w4 := w3.push gp gs x4
      simp only [Option.bind_some]
      rw [lays1_ok w4.len (by omega)]
      have w5 := w4.push gp gs x5
      simp only [Option.bind_some]
      rw [w5.len, v5.len]
    · have q1 := w0.push gp gs x1
      have q5 := (((q1.push gp gs x2).push gp gs x3).push gp gs x4).push gp gs x5
      have t5 := ((((tpR_SC (x := x1) (len := len) (h := h1)).trans (tpR_SC (x := x2) (len := len + 4))).trans (tpR_SC (x := x3) (len := len + 4 + 4))).trans (tpR_SC (x := x4) (len := len + 4 + 4 + 4))).trans (tpR_SC (x := x5) (len := len + 4 + 4 + 4 + 4))
      have e1 := extB_lt (x := x1) g.2.2.2.2.2
      have e2 := extB_lt (x := x2) (len := len + 4) (fun i _ => e1 i)
      have e3 := extB_lt (x := x3) (len := len + 4 + 4) (fun i _ => e2 i)
      have e4 := extB_lt (x := x4) (len := len + 4 + 4 + 4) (fun i _ => e3 i)
      have e5 := extB_lt (x := x5) (len := len + 4 + 4 + 4 + 4) (fun i _ => e4 i)
      exact ⟨c, und, P, S, _, _, pl, ⟨g.1, g.2.1, g.2.2.1, g.2.2.2.1, by omega, fun i _ => e5 i⟩, v5.sc hKC hKD hKE (by omega) t5, q5⟩
  · rw [show (1980 : Int32) = nI 1980 from rfl, if_neg (lt_no (by omega) (by omega))]
    refine ⟨-1, h, h, rfl, ?_, HJ'.mono hKC hKD hKE⟩
    rw [vr.len, show (20 : Int32) = nI 20 from rfl, nI_add, show (2000 : Int32) = nI 2000 from rfl, if_neg (lt_no (by omega) (by omega))]
end TP
