/-! back, place -/
section TP
variable {KC KD KE : pH → Cfg → Prop}
/-- the tape shortened -/
theorem VC.cut (hKC : Kst KC) (hKD : Kst KD) (hKE : Kst KE) {k : Nat} {h : pH} {c : Cfg} {und : Nat} {P : Nat → Cfg} {S : Nat → Option Cfg} {len m : Nat} {B : Nat → Nat} {pl : Int32} (hm : m ≤ len) (H : VC KC KD KE k h c und P S len B pl) : VC KC KD KE k (sI h 1 1 (nI m)) c und P S m B pl := by
  have fr : ∀ {o a : Nat}, ¬ (o = 1 ∧ a = 1) → hI (sI h 1 1 (nI m)) o a = hI h o a := fun h1 => hI_n h1
  exact ⟨H.1.fr hKC hKD hKE (Nat.le_refl _) (fun o k q => by unfold Pl at q; exact fr (by omega)), H.2.1.fr (fun o k q => by unfold Pu at q; exact fr (by omega)), H.2.2.1.fr (fun o k q => by unfold Ps at q; exact fr (by omega)), ⟨hI_s, fun i hi => by rw [fr (by omega)]; exact H.2.2.2.1.2 i (by omega)⟩, by rw [fr (by omega)]; exact H.2.2.2.2⟩
theorem VR.cut {h : pH} {c : Cfg} {und : Nat} {P : Nat → Cfg} {S : Nat → Option Cfg} {len m : Nat} {B : Nat → Nat} {pl : Int32} (g1 : ∀ i, i < und → GCc (P i)) (g2 : ∀ i c', S i = some c' → GCc c') (hm : m ≤ len) (H : VR h c und P S len B pl) : VR (sI h 79 2 (nI m)) c und P S m B pl := by
  have fr : ∀ {o a : Nat}, ¬ (o = 79 ∧ a = 2) → hI (sI h 79 2 (nI m)) o a = hI h o a := fun h1 => hI_n h1
  exact ⟨H.1.fr (fun k => fr (by omega)), H.2.1.fr g1 (fun o k q => by unfold Qu at q; exact fr (by omega)), H.2.2.1.fr g2 (fun o k q => by unfold Qs at q; exact fr (by omega)), ⟨hI_s, fun i hi => by rw [fr (by omega)]; exact H.2.2.2.1.2 i (by omega)⟩, by rw [fr (by omega)]; exact H.2.2.2.2.1, H.2.2.2.2.2⟩
theorem sp_back (hKC : Kst KC) (hKD : Kst KD) (hKE : Kst KE) : Sp_back (JJ KC KD KE) := by
  intro n h hn HJ x
  have HJ' := HJ
  obtain ⟨c, und, P, S, len, B, pl, g, vc, vr⟩ := HJ
  have hlen := g.2.2.2.2.1
  unfold f_C_back f_R_back
  rw [vc.len]
  by_cases h0 : x < 0
  · rw [if_pos h0]
    exact ⟨-1, h, h, rfl, by rw [if_pos h0], HJ'.mono hKC hKD hKE⟩
  · rw [if_neg h0]
    obtain ⟨j, hj, rfl⟩ := nI_of h0
    by_cases h1 : j ≤ len
    · have hsub : nI len - nI j = nI (len - j) := pk_sub h1
      rw [if_pos (nI_le h1 (by omega)), hsub, hI_s]
      have v1 := vc.cut hKC hKD hKE (m := len - j) (by omega)
      have w1 := (vr.sr g (SR.rfl'.set (o := 1) (k := 1) (v := nI (len - j)) (by decide))).cut g.2.2.1 g.2.2.2.1 (m := len - j) (by omega)
      refine ⟨nI (len - j), sI h 1 1 (nI (len - j)), sI (sI h 1 1 (nI (len - j))) 79 2 (nI (len - j)), rfl, ?_, ⟨c, und, P, S, len - j, B, pl, ⟨g.1, g.2.1, g.2.2.1, g.2.2.2.1, by omega, fun i hi => g.2.2.2.2.2 i (by omega)⟩, ?_, w1⟩⟩
      · have e : hI (sI h 1 1 (nI (len - j))) 79 2 = nI len := by rw [hI_n (by omega)]; exact vr.len
        rw [if_neg h0, e, if_pos (nI_le h1 (by omega)), hsub, hI_s]
      · have t : SC (sI h 1 1 (nI (len - j))) (sI (sI h 1 1 (nI (len - j))) 79 2 (nI (len - j))) := SC.rfl'.set (by decide)
        exact v1.sc hKC hKD hKE (by omega) t
    · rw [if_neg (nI_ge (by omega) hj)]
      exact ⟨-1, h, h, rfl, by rw [if_neg h0, vr.len, if_neg (nI_ge (by omega) hj)], HJ'.mono hKC hKD hKE⟩
theorem sp_place (hKC : Kst KC) (hKD : Kst KD) (hKE : Kst KE) : Sp_place (JJ KC KD KE) := by
  intro n h hn HJ
  have HJ' := HJ
  obtain ⟨c, und, P, S, len, B, pl, g, vc, vr⟩ := HJ
  exact ⟨pl, vc.2.2.2.2, vr.2.2.2.2.1, HJ'.mono hKC hKD hKE⟩
end TP
