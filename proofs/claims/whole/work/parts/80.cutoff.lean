/-! cutOff, isCutOff, splits -/
def ptB (l : List (Nat × Nat)) (s : Nat) : Bool := !ex (fun k => decide (bad (l.getD k (0, 0)) s)) l.length
theorem gD (l : List (Nat × Nat)) (d : Nat × Nat) {k : Nat} (hk : k < l.length) : l.getD k d = l[k] := by
  simp [List.getD, hk]
theorem ptB_iff {l : List (Nat × Nat)} {s : Nat} : ptB l s = true ↔ ∀ ab, ab ∈ l → ¬ bad ab s := by
  unfold ptB
  rw [Bool.not_eq_true', ex_no]
  constructor
  · intro H ab m
    obtain ⟨k, hk, e⟩ := List.mem_iff_getElem.mp m
    have := H k hk
    rw [decide_eq_false_iff_not] at this
    rw [gD _ _ hk, e] at this
    exact this
  · intro H k hk
    rw [decide_eq_false_iff_not, gD _ _ hk]
    exact H _ (List.getElem_mem hk)
theorem two_lt {p n : Nat} (hp : p < n) (hn : n ≤ 12) : 2 ^ p < 2 ^ 12 := Nat.pow_lt_pow_right (by decide) (by omega)
section PB
variable {n g : Nat} {X Y : Nat → Int} {h h0 : pH}
theorem mt_lt (hn : n ≤ 12) {ab : Nat × Nat} (h : ab ∈ mt n X Y) : ab.1 < 4096 ∧ ab.2 < 4096 := by
  have t := fun p (hp : p < n) => two_lt hp hn
  rcases mt_cases h with ⟨p, q, r, hp, hq, hr, w, rfl⟩ | ⟨p, q, r, u, hp, hq, hr, hu, n1, n2, n3, w, rfl⟩ | ⟨p, q, r, u, hp, hq, hr, hu, hur, n1, n2, w, rfl⟩
  · exact ⟨t p hp, Nat.or_lt_two_pow (n := 12) (t q hq) (t r (by omega))⟩
  · exact ⟨t p hp, Nat.or_lt_two_pow (n := 12) (Nat.or_lt_two_pow (t q hq) (t r (by omega))) (t u (by omega))⟩
  · exact ⟨Nat.or_lt_two_pow (n := 12) (t u (by omega)) (t p hp), Nat.or_lt_two_pow (n := 12) (t r (by omega)) (t q hq)⟩
theorem areParted_ok {l : List (Nat × Nat)} (M : ML h0 h l) (hl : l.length ≤ 899) (hb : ∀ ab, ab ∈ l → ab.1 < 4096 ∧ ab.2 < 4096) {s : Nat} (hs : s < 4096) : f_R_areParted (nI s) h = some (if ptB l s then 1 else 0) := by
  unfold f_R_areParted
  have := lp_any (f := fun t => f_R_areParted_L1 (nI s) h t) (fun k => nI k) (fun k => decide (bad (l.getD k (0, 0)) s)) l.length (r1 := 0) (r0 := 1) (fun k hk => by
    show f_R_areParted_L1 (nI s) h (nI k) = _
    unfold f_R_areParted_L1 f_R_areParted_J2
    have e := gD l (0, 0) hk
    have b := hb _ (List.getElem_mem hk)
    rw [← e] at b
    rw [M.2.1, if_neg (lt_no hk (by omega)), if_neg (gd (by omega) (by omega)), cla (by omega), (M.2.2 k hk).1, (M.2.2 k hk).2, nI_and, nI_and, nI_1]
    generalize l.getD k (0, 0) = ab at *
    obtain ⟨a, c⟩ := ab
    have b : a < 4096 ∧ c < 4096 := b
    have l1 : a &&& s < 4096 := and_lt4 hs
    have l2 : c &&& s < 4096 := and_lt4 hs
    simp only [nI_z l1, nI_z l2, nI_eqI (show a &&& s ≤ 100000 by omega) (show a ≤ 100000 by omega), nI_eqI (show c &&& s ≤ 100000 by omega) (show c ≤ 100000 by omega)]
    by_cases c1 : a &&& s = a
    · by_cases c2 : c &&& s = 0
      · simp [c1, c2]
      · rw [if_pos c1, if_neg c2]
        by_cases c3 : a &&& s = 0
        · by_cases c4 : c &&& s = c
          · rw [if_pos c3, if_pos c4, if_pos (by simp [c3, c4])]
          · rw [if_pos c3, if_neg c4, if_neg (by simp [c2, c4])]
        · rw [if_neg c3, if_neg (by simp [c2, c3])]
    · rw [if_neg c1]
      by_cases c3 : a &&& s = 0
      · by_cases c4 : c &&& s = c
        · rw [if_pos c3, if_pos c4, if_pos (by simp [c3, c4])]
        · rw [if_pos c3, if_neg c4, if_neg (by simp [c1, c4])]
      · rw [if_neg c3, if_neg (by simp [c1, c3])]) (by
    show f_R_areParted_L1 (nI s) h (nI l.length) = _
    unfold f_R_areParted_L1
    rw [M.2.1, if_pos (ge_yes (Nat.le_refl _) (by omega))]) (by unfold lpN; omega)
  rw [show lp (fun t => f_R_areParted_L1 (nI s) h t) lpN 0 = _ from this]
  unfold ptB
  cases ex (fun k => decide (bad (l.getD k (0, 0)) s)) l.length <;> rfl
theorem pt_nomeet (G : GC n g X Y) (s : Nat) : ptB (mt n X Y) s = true ↔ NoMeet X Y n (fun i => s.testBit i) := ptB_iff.trans (parted_iff G.2.2.2 s)
end PB
def KCc (h : pH) (c : Cfg) : Prop := ∀ t, t < 2 ^ c.1 → wbit h 23 t = ptB (mt c.1 c.2.2.1 c.2.2.2) t
theorem KCc_on (h h' : pH) (c : Cfg) (A : ∀ k, hI h' 23 k = hI h 23 k) (H : KCc h c) : KCc h' c := fun t ht => by
  have := H t ht
  unfold wbit at this ⊢
  rw [A]
  exact this
theorem Kst_KCc : Kst KCc := fun h h' c A H => KCc_on h h' c (fun k => A 23 k (by unfold krel; simp)) H
theorem KDd_on (h h' : pH) (c : Cfg) (A : ∀ k, hI h' 17 k = hI h 17 k) (B : ∀ k, hI h' 18 k = hI h 18 k) (H : KDd h c) : KDd h' c := by
  unfold KDd at H ⊢
  rw [A, A, A, A]
  exact ⟨H.1, H.2.1, H.2.2.1, H.2.2.2.1, fun u hu => by rw [B]; exact H.2.2.2.2 u hu⟩
/-- a count over all sets -/
theorem lp_ct0 {ρ : Type} {f : Int32 × Int32 → Option ((Int32 × Int32) ⊕ ρ)} (n : Nat) (P : Nat → Bool) {r : ρ} (hs : ∀ k, k < n → ∀ a : Nat, f (nI a, nI k) = some (.inl (nI (a + if P k then 1 else 0), nI (k + 1)))) (hx : f (nI (ctn P n), nI n) = some (.inr r)) (hn : n < lpN) : lp f lpN (0, 0) = some r :=
  lp_run (f := f) (fun k => (nI (ctn P k), nI k)) n (r := r) (fun k hk => hs k hk _) hx hn
theorem all_end {n t : Nat} (hn : n ≤ 12) (ht : t ≤ 2 ^ n) : nI (2 ^ n - 1) < nI t ↔ t = 2 ^ n := by
  have h1 := p12 hn
  have h2 : 0 < 2 ^ n := Nat.two_pow_pos n
  rw [nI_ltI (by omega) (by omega)]
  omega
section CO
variable {KD KE : pH → Cfg → Prop} {h : pH} {c : Cfg}
theorem find_ok {k : Nat} (hk : k ≤ 512) (V : VCl KCc KD KE k h c) (G : GCc c) : ∃ h', f_Cuts_find 8 h = some h' ∧ Fs [21, 23] h h' ∧ hI h' 21 1 = hI h 8 4 ∧ KCc h' c := by
  obtain ⟨st, cc, hs, ⟨a1, b1, b2, b3, b4⟩, -, -⟩ := V
  by_cases e : hI h 21 1 = hI h 8 4
  · refine ⟨h, by unfold f_Cuts_find; rw [if_pos e], Fs.rfl', e, b4 ?_⟩
    rw [b1, hs.1, nI_iI, iI_eq (by unfold InR; omega) (by unfold InR; omega)] at e
    exact e
  · obtain ⟨h', e1, e2, e3, e4⟩ := find_new cc G e
    refine ⟨h', e1, e2, e3, fun t ht => ?_⟩
    apply Bool.eq_iff_iff.mpr
    rw [e4 t (Nat.lt_of_lt_of_le ht (p12 G.1)), cm_iff G ht, pt_nomeet G]
theorem VC.fd (sD : ∀ h h' c, (∀ k, hI h' 17 k = hI h 17 k) → (∀ k, hI h' 18 k = hI h 18 k) → KD h c → KD h' c) (sE : ∀ h h' c, (∀ k, hI h' 26 k = hI h 26 k) → KE h c → KE h' c) {k : Nat} {h' : pH} {und : Nat} {P : Nat → Cfg} {S : Nat → Option Cfg} {len : Nat} {B : Nat → Nat} {pl : Int32} (H : VC KCc KD KE k h c und P S len B pl) (F : Fs [21, 23] h h') (e3 : hI h' 21 1 = hI h 8 4) (kc : KCc h' c) : VC KCc KD KE (k + 1) h' c und P S len B pl := by
  obtain ⟨⟨st, cc, hs, ⟨a1, b1, b2, b3, b4⟩, ⟨a2, d1, d2, d3, d4⟩, ⟨a3, f1, f2, f3, f4⟩⟩, h2, h3, h4, h5⟩ := H
  refine ⟨⟨st, CC.fs cc F (by decide) (by rw [rf8_0]; decide) (by rw [rf8_1]; decide), ⟨by rw [F.1 8 4 (by decide)]; exact hs.1, by omega⟩, ⟨st, by rw [e3, hs.1, nI_iI], by omega, by omega, fun _ => kc⟩, ⟨a2, by rw [F.1 17 3 (by decide)]; exact d1, d2, d3, fun e => sD h h' c (fun k => F.1 17 k (by decide)) (fun k => F.1 18 k (by decide)) (d4 e)⟩, ⟨a3, by rw [F.1 26 1 (by decide)]; exact f1, f2, f3, fun e => sE h h' c (fun k => F.1 26 k (by decide)) (f4 e)⟩⟩, h2.fr (fun o k q => F.1 o k ?_), h3.fr (fun o k q => F.1 o k ?_), h4.fr (fun o k q => F.1 o k ?_), by rw [F.1 3 1 (by decide)]; exact h5⟩
  · intro x
    simp only [List.mem_cons, List.not_mem_nil, or_false] at x
    unfold Pu at q
    omega
  · intro x
    simp only [List.mem_cons, List.not_mem_nil, or_false] at x
    unfold Ps at q
    omega
  · intro x
    simp only [List.mem_cons, List.not_mem_nil, or_false] at x
    unfold Pt at q
    omega
theorem sm79_c : ∀ o k, SM79 o k → ¬ Rc o k := fun o k x y => by have := Rc_lt y; unfold SM79 at x; omega
theorem sm79_r : ∀ o k, SM79 o k → ¬ Rr o k := fun o k x y => by unfold SM79 at x; unfold Rr Qu Qs Qt at y; omega
/-- a call that asks what is cut off, on both sides -/
theorem cut_go (hKD : Kst KD) (hKE : Kst KE) (sD : ∀ h h' c, (∀ k, hI h' 17 k = hI h 17 k) → (∀ k, hI h' 18 k = hI h 18 k) → KD h c → KD h' c) (sE : ∀ h h' c, (∀ k, hI h' 26 k = hI h 26 k) → KE h c → KE h' c) {k : Nat} {h : pH} (hk : k < 512) (H : JJ KCc KD KE k h) : ∃ c h1 h2, GCc c ∧ CCc h 8 c ∧ RRc h c ∧ f_Cuts_find 8 h = some h1 ∧ CCc h1 8 c ∧ KCc h1 c ∧ RRc h1 c ∧ f_R_laysMeetings h1 = some h2 ∧ RRc h2 c ∧ ML h1 h2 (mt c.1 c.2.2.1 c.2.2.2) ∧ JJ KCc KD KE (k + 1) h2 := by
  obtain ⟨c, und, P, S, len, B, pl, gs, vc, vr⟩ := H
  have G := gs.1
  obtain ⟨h1, e1, f1, e3, kc⟩ := find_ok (by omega) vc.1 G
  have vc1 := vc.fd sD sE f1 e3 kc
  have vr1 := vr.fs gs f1 (by decide)
  obtain ⟨h2, d1, d2⟩ := laysMeetings_ok vr1.1 G
  exact ⟨c, h1, h2, G, vc.cc, vr.1, e1, vc1.cc, kc, vr1.1, d1, RR.ml vr1.1 d2, d2, c, und, P, S, len, B, pl, gs, vc1.fp Kst_KCc hKD hKE (Nat.le_refl _) d2.1 sm79_c, vr1.fp gs d2.1 sm79_r⟩
theorem sp_cutOff (hKD : Kst KD) (hKE : Kst KE) (sD : ∀ h h' c, (∀ k, hI h' 17 k = hI h 17 k) → (∀ k, hI h' 18 k = hI h 18 k) → KD h c → KD h' c) (sE : ∀ h h' c, (∀ k, hI h' 26 k = hI h 26 k) → KE h c → KE h' c) : Sp_cutOff (JJ KCc KD KE) := by
  intro k h hk H a0
  obtain ⟨c, h1, h2, G, -, -, e1, C1, kc, R1, e2, R2, M, J⟩ := cut_go hKD hKE sD sE hk H
  have hn := G.1
  have l12 := p12 hn
  unfold f_C_cutOff f_R_cutOff
  rw [e1]
  simp only [Option.bind_some]
  have E1 : f_Cuts_countOfSize 8 a0 h1 = some (nI (ctn (fun t => decide (nI (pct t) = a0) && ptB (mt c.1 c.2.2.1 c.2.2.2) t) (2 ^ c.1))) := by
    unfold f_Cuts_countOfSize
    refine lp_ct0 (f := fun s => f_Cuts_countOfSize_L1 8 a0 h1 s.1 s.2) (2 ^ c.1) (fun t => decide (nI (pct t) = a0) && ptB (mt c.1 c.2.2.1 c.2.2.2) t) (fun t ht a => ?_) ?_ (by unfold lpN; omega)
    · show f_Cuts_countOfSize_L1 8 a0 h1 (nI a) (nI t) = _
      unfold f_Cuts_countOfSize_L1
      rw [every_ok C1 hn, if_neg (fun x => by have := (all_end hn (by omega)).mp x; omega), bitCount_ok (by omega), isMarked_ok rf22 (by omega), kc t ht, nI_1, nI_1]
      simp only [Option.bind_some]
      by_cases z : nI (pct t) = a0
      · rw [if_pos z]
        cases ptB (mt c.1 c.2.2.1 c.2.2.2) t <;> simp [z]
      · simp [z]
    · show f_Cuts_countOfSize_L1 8 a0 h1 _ (nI (2 ^ c.1)) = _
      unfold f_Cuts_countOfSize_L1
      rw [every_ok C1 hn, if_pos ((all_end hn (Nat.le_refl _)).mpr rfl)]
  have E2 : lp (fun s => f_R_cutOff_L1 a0 h2 s.1 s.2) lpN (0, 0) = some (nI (ctn (fun t => decide (nI (pct t) = a0) && ptB (mt c.1 c.2.2.1 c.2.2.2) t) (2 ^ c.1)), h2) := by
    refine lp_ct0 (f := fun s => f_R_cutOff_L1 a0 h2 s.1 s.2) (2 ^ c.1) (fun t => decide (nI (pct t) = a0) && ptB (mt c.1 c.2.2.1 c.2.2.2) t) (fun t ht a => ?_) ?_ (by unfold lpN; omega)
    · show f_R_cutOff_L1 a0 h2 (nI a) (nI t) = _
      unfold f_R_cutOff_L1
      rw [full_ok R2 hn, if_neg (fun x => by have := (all_end hn (by omega)).mp x; omega), bitsOf_ok (by omega), areParted_ok M (by have := mt_le G; omega) (fun ab m => mt_lt hn m) (by omega), nI_1, nI_1]
      simp only [Option.bind_some]
      by_cases z : nI (pct t) = a0
      · rw [if_pos z]
        cases ptB (mt c.1 c.2.2.1 c.2.2.2) t <;> simp [z]
      · simp [z]
    · show f_R_cutOff_L1 a0 h2 _ (nI (2 ^ c.1)) = _
      unfold f_R_cutOff_L1
      rw [full_ok R2 hn, if_pos ((all_end hn (Nat.le_refl _)).mpr rfl)]
  rw [E1]
  refine ⟨_, h1, h2, rfl, ?_, J⟩
  rw [e2]
  exact E2
theorem sp_isCutOff (hKD : Kst KD) (hKE : Kst KE) (sD : ∀ h h' c, (∀ k, hI h' 17 k = hI h 17 k) → (∀ k, hI h' 18 k = hI h 18 k) → KD h c → KD h' c) (sE : ∀ h h' c, (∀ k, hI h' 26 k = hI h 26 k) → KE h c → KE h' c) : Sp_isCutOff (JJ KCc KD KE) := by
  intro k h hk H a0
  obtain ⟨c, h1, h2, G, C, R, e1, C1, kc, R1, e2, R2, M, J⟩ := cut_go hKD hKE sD sE hk H
  have hn := G.1
  have l12 := p12 hn
  unfold f_C_isCutOff f_R_isCutOff
  rw [hasSet_ok C hn, e1]
  by_cases z : 0 ≤ a0.toInt ∧ a0.toInt < ((2 ^ c.1 : Nat) : Int)
  · obtain ⟨s, hs, rfl⟩ := pt_nat z.1 z.2
    rw [if_pos z, if_neg (by decide)]
    simp only [Option.bind_some]
    rw [isMarked_ok rf22 (by omega), kc s hs]
    simp only [Option.bind_some]
    have g : ∀ v : Int32, v = (if ptB (mt c.1 c.2.2.1 c.2.2.2) s then 1 else 0) → (if f_R_in (nI s) 0 (f_R_full h1) = 0 then some (-1, h1) else (f_R_laysMeetings h1).bind fun v_2 => (f_R_areParted (nI s) v_2).bind fun v_4 => if v_4 = 0 then some (0, v_2) else some (1, v_2)) = some (v, h2) := by
      intro v hv
      rw [inSet_ok R1 hn, if_pos z, if_neg (by decide), e2]
      simp only [Option.bind_some]
      rw [areParted_ok M (by have := mt_le G; omega) (fun ab m => mt_lt hn m) (by omega), hv]
      cases ptB (mt c.1 c.2.2.1 c.2.2.2) s <;> rfl
    cases q : ptB (mt c.1 c.2.2.1 c.2.2.2) s with
    | false => exact ⟨0, h1, h2, rfl, g 0 (by rw [q]; rfl), J⟩
    | true => exact ⟨1, h1, h2, rfl, g 1 (by rw [q]; rfl), J⟩
  · rw [if_neg z, if_pos rfl]
    refine ⟨-1, h, h, rfl, ?_, H.mono Kst_KCc hKD hKE⟩
    rw [inSet_ok R hn, if_neg z, if_pos rfl]
end CO
/-- counts from both ends -/
theorem ctn_split (P : Nat → Bool) (a b : Nat) : ctn P (a + b) = ctn P a + ctn (fun i => P (a + i)) b := by
  induction b with
  | zero => rfl
  | succ b ih =>
    show ctn P (a + b) + (if P (a + b) then 1 else 0) = ctn P a + (ctn (fun i => P (a + i)) b + (if P (a + b) then 1 else 0))
    rw [ih, Nat.add_assoc]
theorem ctn_rev (P : Nat → Bool) (b : Nat) : ctn (fun i => P (b - 1 - i)) b = ctn P b := by
  induction b generalizing P with
  | zero => rfl
  | succ b ih =>
    have e1 : ctn P (b + 1) = ctn P 1 + ctn (fun i => P (1 + i)) b := by rw [Nat.add_comm b 1, ctn_split]
    have e2 := ih (fun i => P (1 + i))
    show ctn (fun i => P (b + 1 - 1 - i)) b + (if P (b + 1 - 1 - b) then 1 else 0) = _
    rw [e1, ← e2, show b + 1 - 1 - b = 0 by omega, Nat.add_comm]
    show (if P 0 then 1 else 0) + _ = (0 + if P 0 then 1 else 0) + _
    rw [Nat.zero_add]
    congr 1
    exact ctn_cong (fun i hi => by rw [show b + 1 - 1 - i = 1 + (b - 1 - i) by omega])
theorem ctn_not (P : Nat → Bool) (n : Nat) : ctn P n + ctn (fun i => !P i) n = n := by
  induction n with
  | zero => rfl
  | succ n ih =>
    unfold ctn
    cases P n
    · simp only [Bool.false_eq_true, if_false, Bool.not_false, if_true]; omega
    · simp only [if_true, Bool.not_true, Bool.false_eq_true, if_false]; omega
theorem ctn_even (P : Nat → Bool) (N : Nat) (H : ∀ i, i < N → P (N + i) = P (N - 1 - i)) : ctn P (N + N) = 2 * ctn P N := by
  rw [ctn_split, ctn_cong H, ctn_rev]
  omega
theorem NoMeet.neg {X Y : Nat → Int} {n : Nat} {M N : Nat → Bool} (H : NoMeet X Y n M) (E : ∀ i, i < n → N i = !M i) : NoMeet X Y n N := by
  obtain ⟨h1, h2, h3⟩ := H
  have ne : ∀ i j, i < n → j < n → (N i ≠ N j ↔ M i ≠ M j) := fun i j hi hj => by rw [E i hi, E j hj]; cases M i <;> cases M j <;> decide
  have eq : ∀ i j, i < n → j < n → (N i = N j ↔ M i = M j) := fun i j hi hj => by rw [E i hi, E j hj]; cases M i <;> cases M j <;> decide
  exact ⟨fun i j k hi hj hk a b => h1 i j k hi hj hk ((ne i j hi hj).mp a) ((eq j k hj hk).mp b), fun i j k l hi hj hk hl a b d => h2 i j k l hi hj hk hl ((ne i j hi hj).mp a) ((eq j k hj hk).mp b) ((eq j l hj hl).mp d), fun i j k l hi hj hk hl a b d => h3 i j k l hi hj hk hl ((eq i j hi hj).mp a) ((eq k l hk hl).mp b) ((ne i k hi hk).mp d)⟩
section SP
variable {KD KE : pH → Cfg → Prop}
theorem pt_neg {n g : Nat} {X Y : Nat → Int} (G : GC n g X Y) {t : Nat} (ht : t < 2 ^ n) : ptB (mt n X Y) (2 ^ n - (t + 1)) = ptB (mt n X Y) t := by
  apply Bool.eq_iff_iff.mpr
  rw [pt_nomeet G, pt_nomeet G]
  have tb := fun i => Nat.testBit_two_pow_sub_succ ht i
  constructor
  · exact fun H => NoMeet.neg H (fun i hi => by show t.testBit i = !(2 ^ n - (t + 1)).testBit i; rw [tb i]; simp [hi])
  · exact fun H => NoMeet.neg H (fun i hi => by show (2 ^ n - (t + 1)).testBit i = !t.testBit i; rw [tb i]; simp [hi])
theorem sp_splits (hKD : Kst KD) (hKE : Kst KE) (sD : ∀ h h' c, (∀ k, hI h' 17 k = hI h 17 k) → (∀ k, hI h' 18 k = hI h 18 k) → KD h c → KD h' c) (sE : ∀ h h' c, (∀ k, hI h' 26 k = hI h 26 k) → KE h c → KE h' c) : Sp_splits (JJ KCc KD KE) := by
  intro k h hk H
  have refpart : ∀ (c : Cfg) (h1 h2 : pH), GCc c → RRc h2 c → ML h1 h2 (mt c.1 c.2.2.1 c.2.2.2) → lp (fun s => f_R_splits_L1 h2 s.1 s.2) lpN (0, 0) = some (nI (ctn (fun t => !ptB (mt c.1 c.2.2.1 c.2.2.2) t) (2 ^ c.1) / 2), h2) := by
    intro c h1 h2 G R2 M
    have hn := G.1
    have l12 := p12 hn
    refine lp_ct0 (f := fun s => f_R_splits_L1 h2 s.1 s.2) (2 ^ c.1) (fun t => !ptB (mt c.1 c.2.2.1 c.2.2.2) t) (fun t ht a => ?_) ?_ (by unfold lpN; omega)
    · show f_R_splits_L1 h2 (nI a) (nI t) = _
      unfold f_R_splits_L1
      rw [full_ok R2 hn, if_neg (fun x => by have := (all_end hn (by omega)).mp x; omega), areParted_ok M (by have := mt_le G; omega) (fun ab m => mt_lt hn m) (by omega), nI_1, nI_1]
      simp only [Option.bind_some]
      cases ptB (mt c.1 c.2.2.1 c.2.2.2) t <;> rfl
    · show f_R_splits_L1 h2 _ (nI (2 ^ c.1)) = _
      unfold f_R_splits_L1
      have := ctn_le (fun t => !ptB (mt c.1 c.2.2.1 c.2.2.2) t) (2 ^ c.1)
      rw [full_ok R2 hn, if_pos ((all_end hn (Nat.le_refl _)).mpr rfl), show (2 : Int32) = nI 2 from rfl, pk_div (by omega) (by omega) (by omega)]
  by_cases z : ∃ c, CCc h 8 c ∧ GCc c ∧ 2 ≤ c.1
  · obtain ⟨c, h1, h2, G, C, R, e1, C1, kc, R1, e2, R2, M, J⟩ := cut_go hKD hKE sD sE hk H
    have hn := G.1
    have l12 := p12 hn
    have h2n : 2 ≤ c.1 := by
      obtain ⟨c', C', G', z⟩ := z
      have : nI c.1 = nI c'.1 := C.1.symm.trans C'.1
      have hn' := G'.1
      have := (nI_eqI (by omega) (by omega)).mp this
      omega
    unfold f_C_splits f_R_splits
    rw [C.1, if_pos (show (2 : Int32) ≤ nI c.1 from nI_le (a := 2) h2n (by omega)), e1]
    simp only [Option.bind_some]
    have E1 : f_Cuts_countAll 8 h1 = some (nI (ctn (fun t => ptB (mt c.1 c.2.2.1 c.2.2.2) t) (2 ^ c.1))) := by
      unfold f_Cuts_countAll
      refine lp_ct0 (f := fun s => f_Cuts_countAll_L1 8 h1 s.1 s.2) (2 ^ c.1) (fun t => ptB (mt c.1 c.2.2.1 c.2.2.2) t) (fun t ht a => ?_) ?_ (by unfold lpN; omega)
      · show f_Cuts_countAll_L1 8 h1 (nI a) (nI t) = _
        unfold f_Cuts_countAll_L1
        rw [every_ok C1 hn, if_neg (fun x => by have := (all_end hn (by omega)).mp x; omega), isMarked_ok rf22 (by omega), kc t ht, nI_1, nI_1]
        simp only [Option.bind_some]
        cases ptB (mt c.1 c.2.2.1 c.2.2.2) t <;> rfl
      · show f_Cuts_countAll_L1 8 h1 _ (nI (2 ^ c.1)) = _
        unfold f_Cuts_countAll_L1
        rw [every_ok C1 hn, if_pos ((all_end hn (Nat.le_refl _)).mpr rfl)]
    rw [E1]
    simp only [Option.bind_some]
    obtain ⟨m, hm⟩ : ∃ m, c.1 = m + 1 := ⟨c.1 - 1, by omega⟩
    have p2 : 2 ^ c.1 = 2 ^ m + 2 ^ m := by rw [hm, Nat.pow_succ]; omega
    have ev : ctn (fun t => ptB (mt c.1 c.2.2.1 c.2.2.2) t) (2 ^ c.1) = 2 * ctn (fun t => ptB (mt c.1 c.2.2.1 c.2.2.2) t) (2 ^ m) := by
      conv => lhs; rw [p2]
      refine ctn_even _ _ (fun i hi => ?_)
      have := pt_neg G (t := 2 ^ m + i) (by omega)
      rw [← this]
      congr 1
      omega
    have one : 1 ≤ ctn (fun t => ptB (mt c.1 c.2.2.1 c.2.2.2) t) (2 ^ m) := by
      have p0 : ptB (mt c.1 c.2.2.1 c.2.2.2) 0 = true := (pt_nomeet G 0).mpr (const_nomeet (fun i j _ _ => by simp))
      have := ctn_lt (P := fun _ => false) (Q := fun t => ptB (mt c.1 c.2.2.1 c.2.2.2) t) (n := 2 ^ m) (fun k _ x => absurd x (by decide)) (j := 0) (Nat.two_pow_pos m) rfl p0
      omega
    have nt := ctn_not (fun t => ptB (mt c.1 c.2.2.1 c.2.2.2) t) (2 ^ c.1)
    have le := ctn_le (fun t => ptB (mt c.1 c.2.2.1 c.2.2.2) t) (2 ^ m)
    have r := refpart c h1 h2 G R2 M
    rw [C1.1]
    refine ⟨_, h1, h2, rfl, ?_, J⟩
    rw [e2]
    simp only [Option.bind_some]
    rw [r]
    have s1 : nI c.1 - 1 = nI m := by rw [hm, show (1 : Int32) = nI 1 from rfl, pk_sub (by omega)]; congr 1
    rw [s1, jshl_ok m (by omega), show (1 : Int32) = nI 1 from rfl, pk_sub (Nat.two_pow_pos m), show (2 : Int32) = nI 2 from rfl, pk_sub (by omega), pk_div (by omega) (by omega) (by omega), pk_sub (by omega)]
    congr 3
    omega
  · obtain ⟨c, und, P, S, len, B, pl, gs, vc, vr⟩ := H
    have G := gs.1
    have C := vc.cc
    have hn := G.1
    have h1n : c.1 < 2 := by
      by_cases q : c.1 < 2
      · exact q
      · exact absurd ⟨c, C, G, by omega⟩ z
    unfold f_C_splits f_R_splits
    obtain ⟨h2, d1, d2⟩ := laysMeetings_ok vr.1 G
    rw [C.1, if_neg (show ¬ (2 : Int32) ≤ nI c.1 from nI_ge (a := c.1) (b := 2) h1n (by omega))]
    refine ⟨0, h, h2, rfl, ?_, c, und, P, S, len, B, pl, gs, vc.fp Kst_KCc hKD hKE (by omega) d2.1 sm79_c, vr.fp gs d2.1 sm79_r⟩
    rw [d1]
    simp only [Option.bind_some]
    rw [refpart c h h2 G (RR.ml vr.1 d2) d2]
    have all : ctn (fun t => !ptB (mt c.1 c.2.2.1 c.2.2.2) t) (2 ^ c.1) = 0 := ctn_none (fun t ht => by
      have : ptB (mt c.1 c.2.2.1 c.2.2.2) t = true := (pt_nomeet G t).mpr (const_nomeet (fun i j hi hj => by rw [show i = j by omega]))
      rw [this]
      rfl)
    rw [all]
    rfl
end SP
