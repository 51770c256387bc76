/-! the reference's meaning of a point's line -/
theorem WR.z {pl pl' : Nat} {h : pH} (R : WR 0 pl h) : WR 0 pl' h := ⟨R.1, R.2.1, R.2.2.1, fun z => absurd rfl z⟩
def TLa (K P V : Nat → Nat) (W : Nat → Int64) (q : Nat) (h : pH) : Prop := ∀ j, j ≤ q → (K j < 22 ∧ P j ≤ 2000) ∧ hI h 82 j = nI (K j) ∧ hI h 83 j = nI (P j) ∧ (K j = 2 → hI h 84 j = nI (V j) ∧ V j ≤ 9999) ∧ (K j = 1 → hL h 85 j = W j)
def DRr (c : Cfg) (h : pH) : Prop := hI h 88 1 = nI c.2.1 ∧ ∀ i, i < c.1 → hI h 88 (2 + 2 * i) = iI (c.2.2.1 i) ∧ hI h 88 (3 + 2 * i) = iI (c.2.2.2 i) ∧ hI h 90 i = 1
def SMr (np : Nat) (S : SFt) (h : pH) : Prop := WR S.1 S.2.1 h ∧ hI h 88 0 = nI np ∧ (S.1 = 0 → DRr S.2.2.1 h ∧ ∀ i, i < S.2.2.1.1 → hL h 89 i = S.2.2.2.1 i)
def MDr (n : Nat) (S : SFt) (h : pH) : Prop := WR S.1 S.2.1 h ∧ hI h 88 0 = nI n ∧ (S.1 = 0 → DRr S.2.2.1 h ∧ (∀ i, i ≤ n → hL h 89 i = S.2.2.2.1 i) ∧ hI h 90 n = 1)
section PO
variable {K P V : Nat → Nat} {W : Nat → Int64} {q n : Nat} {h h' : pH}
theorem TLa.fr (A : ∀ o k, o = 82 ∨ o = 83 ∨ o = 84 → hI h' o k = hI h o k) (A2 : ∀ k, hL h' 85 k = hL h 85 k) (T : TLa K P V W q h) : TLa K P V W q h' := fun j hj => by
  rw [A 82 j (by omega), A 83 j (by omega), A 84 j (by omega), A2]
  exact T j hj
theorem FM.tla (F : FM n h h') (T : TLa K P V W q h) : TLa K P V W q h' := T.fr (fun o k ho => F.1 o k (by omega) (by omega) (by omega)) (fun k => F.2 85 k (by omega))
theorem DRr.fm {c : Cfg} (F : FM n h h') (hc : c.1 ≤ n) (D : DRr c h) : DRr c h' := ⟨by rw [F.1 88 1 (by omega) (by omega) (by omega)]; exact D.1, fun i hi => by rw [F.1 88 (2 + 2 * i) (by omega) (by omega) (by omega), F.1 88 (3 + 2 * i) (by omega) (by omega) (by omega), F.1 90 i (by omega) (by omega) (by omega)]; exact D.2 i hi⟩
theorem sf_pl (hP : ∀ j, j ≤ q → P j ≤ 2000) : ∀ k, k ≤ q → (sfK K P V W k).2.1 ≤ 2000 := by
  intro k
  induction k with
  | zero => intro _; exact Nat.zero_le _
  | succ k ih =>
    intro hk
    have a := ih (by omega)
    have pk := hP k (by omega)
    by_cases z : (sfK K P V W k).1 = 0
    · rcases e : sfK K P V W k with ⟨f, pl, c, w, x, m⟩
      rw [e] at z a
      have z : f = 0 := z
      have a : pl ≤ 2000 := a
      subst z
      rw [sf_s e]
      have X : ∀ S : SFt, (S.2.1 = pl ∨ S.2.1 = P k) → S.2.1 ≤ 2000 := by
        intro S h
        omega
      apply X
      unfold sstP numS
      repeat' split
      all_goals simp
    · rw [sf_bad z]
      exact a
theorem np_keep {i j : Nat} (hij : i ≤ j) (hk : ∀ m, i ≤ m → m < j → K m ≠ 20) : npK K j = npK K i := by
  induction j with
  | zero => rw [show i = 0 by omega]
  | succ j ih =>
    by_cases c : i = j + 1
    · rw [c]
    · show npK K j + (if K j = 20 then 1 else 0) = _
      rw [if_neg (hk j (by omega) (by omega)), ih (by omega) (fun m a b => hk m a (by omega)), Nat.add_zero]
theorem P_mono (hP : ∀ j, j < q → P j < P (j + 1)) {i j : Nat} (hij : i ≤ j) (hj : j ≤ q) : P i ≤ P j := by
  induction j with
  | zero => rw [show i = 0 by omega]; exact Nat.le_refl _
  | succ j ih =>
    by_cases c : i = j + 1
    · rw [c]; exact Nat.le_refl _
    · have := hP j (by omega)
      have := ih (by omega) (by omega)
      omega
/-- what holds of the meaning at a place that stands well -/
theorem sf_in (hg : ∀ j, j < q → gdK K j) {i : Nat} (hi : i ≤ q) {pl : Nat} {c : Cfg} {w : Nat → Int64} {x : Int} {m : Bool} (e : sfK K P V W i = (0, pl, c, w, x, m)) : GCc c ∧ npK K i = c.1 + (if 1 ≤ ssK K i ∧ ssK K i ≤ 5 then 1 else 0) ∧ (ssK K i = 4 ∨ ssK K i = 5 → -50 ≤ x ∧ x ≤ 50) := by
  have := sfI_all (P := P) (V := V) (W := W) i (fun j hj => hg j (by omega))
  rw [e] at this
  obtain ⟨a, b, d, -⟩ := this rfl
  exact ⟨a, b, d⟩
theorem sf_0 {i : Nat} (z : (sfK K P V W i).1 = 0) : ∃ pl c w x m, sfK K P V W i = (0, pl, c, w, x, m) := by
  rcases e : sfK K P V W i with ⟨f, pl, c, w, x, m⟩
  rw [e] at z
  have z : f = 0 := z
  subst z
  exact ⟨pl, c, w, x, m, rfl⟩
theorem md_name (hg : ∀ j, j < q → gdK K j) {e : Nat} (he : e + 2 ≤ q) (es : ssK K e = 0) (k20 : K e = 20) (k1 : K (e + 1) = 1) (en : npK K e = n) (R : SMr n (sfK K P V W e) h) (F : FM n h h') (a1 : ∀ k, hI h' 88 k = hI h 88 k) (a2 : hL h' 89 n = W (e + 1)) (a3 : WR (if (sfK K P V W e).1 ≠ 0 then (sfK K P V W e).1 else if ex (fun i => decide (hL h 89 i = W (e + 1))) n then 3 else 0) (if (sfK K P V W e).1 ≠ 0 then (sfK K P V W e).2.1 else P (e + 1)) h') (a4 : (sfK K P V W e).1 = 0 → ex (fun i => decide (hL h 89 i = W (e + 1))) n = false → hI h' 90 n = 1) : MDr n (sfK K P V W (e + 2)) h' := by
  obtain ⟨r1, r2, r3⟩ := R
  by_cases z : (sfK K P V W e).1 = 0
  · obtain ⟨pl, c, w, x, m, E⟩ := sf_0 z
    obtain ⟨G, s2, -⟩ := sf_in hg (by omega) E
    rw [es, if_neg (by omega), en] at s2
    have s2 : n = c.1 := s2
    rw [E] at r3 a3 a4
    obtain ⟨d1, d2⟩ := r3 rfl
    have d1 : DRr c h := d1
    have d2 : ∀ i, i < c.1 → hL h 89 i = w i := d2
    have a3 : WR (if ex (fun i => decide (hL h 89 i = W (e + 1))) n then 3 else 0) (P (e + 1)) h' := a3
    have a4 := a4 rfl
    have E1 := sf_s E
    rw [k20, sstP_o (by decide)] at E1
    have E2 : sfK K P V W (e + 2) = _ := sf_s E1
    rw [k1, sstP_1] at E2
    have ec : ex (fun i => decide (hL h 89 i = W (e + 1))) n = ex (fun i => decide (w i = W (e + 1))) c.1 := by
      rw [s2]
      exact ex_cong (fun i hi => by rw [d2 i hi])
    rw [ec] at a3 a4
    by_cases y : ex (fun i => decide (w i = W (e + 1))) c.1 = true
    · rw [if_pos y] at E2 a3
      rw [E2]
      exact ⟨a3, by rw [a1]; exact r2, fun q => absurd q (show ¬ (3 : Nat) = 0 by decide)⟩
    · rw [if_neg y] at E2 a3
      rw [E2]
      refine ⟨a3.z, by rw [a1]; exact r2, fun _ => ⟨d1.fm F (show c.1 ≤ n by omega), fun i hi => ?_, a4 (by simpa using y)⟩⟩
      show hL h' 89 i = if i = c.1 then W (e + 1) else w i
      by_cases j : i = n
      · rw [if_pos (by omega), j]; exact a2
      · rw [if_neg (by omega), F.2 89 i (by omega)]; exact d2 i (by omega)
  · rw [if_pos z, if_pos z] at a3
    have E1 := sf_bad z
    have E2 : sfK K P V W (e + 2) = sfK K P V W e := by
      have : sfK K P V W (e + 1 + 1) = _ := sf_bad (by rw [E1]; exact z)
      exact this.trans E1
    rw [E2]
    exact ⟨a3, by rw [a1]; exact r2, fun y => absurd y z⟩
theorem zr' {p : Prop} [Decidable p] {v : Nat} : (-50 ≤ (if p then -(v : Int) else (v : Int)) ∧ (if p then -(v : Int) else (v : Int)) ≤ 50) ↔ v ≤ 50 := by
  by_cases c : p
  · rw [if_pos c]; omega
  · rw [if_neg c]; omega
theorem md_x (hg : ∀ j, j < q → gdK K j) (hq : ssK K q = 0) {i a : Nat} (hi : i ≤ q) (es : ssK K i = 2) (en : npK K i = n + 1) (sf1 : (sfK K P V W i).1 ≠ 0 → sfK K P V W (a + 1) = sfK K P V W i) (sf2 : ∀ pl c w x m, sfK K P V W i = (0, pl, c, w, x, m) → ∃ st, (st = 2 ∨ st = 3) ∧ sfK K P V W (a + 1) = numS st (P a) (if K i = 5 then -(V a : Int) else (V a : Int)) pl c w x) (R : MDr n (sfK K P V W i) h) (F : FM n h h') (a1 : hI h' 88 (2 + 2 * n) = iI (if K i = 5 then -(V a : Int) else (V a : Int))) (a2 : ∀ k, k ≠ 2 + 2 * n → hI h' 88 k = hI h 88 k) (a3 : ∀ o k, hL h' o k = hL h o k) (a4 : WR (if (sfK K P V W i).1 ≠ 0 then (sfK K P V W i).1 else if V a ≤ 50 then 0 else 5) (if (sfK K P V W i).1 ≠ 0 then (sfK K P V W i).2.1 else P a) h') (a5 : V a ≤ 50 → hI h' 90 n = hI h 90 n) : MDr n (sfK K P V W (a + 1)) h' ∧ ((sfK K P V W (a + 1)).1 = 0 → hI h' 88 (2 + 2 * n) = iI (sfK K P V W (a + 1)).2.2.2.2.1) := by
  obtain ⟨r1, r2, r3⟩ := R
  have e0 : hI h' 88 0 = nI n := by rw [a2 0 (by omega)]; exact r2
  by_cases z : (sfK K P V W i).1 = 0
  · obtain ⟨pl, c, w, x, m, E⟩ := sf_0 z
    obtain ⟨G, s2, -⟩ := sf_in hg (by omega) E
    rw [es, if_pos (by omega), en] at s2
    rw [E] at r3 a4
    obtain ⟨d1, d2, d3⟩ := r3 rfl
    have d1 : DRr c h := d1
    have a4 : WR (if V a ≤ 50 then 0 else 5) (P a) h' := a4
    obtain ⟨st, hst, E2⟩ := sf2 _ _ _ _ _ E
    rw [numS_x hst] at E2
    by_cases c5 : V a ≤ 50
    · rw [if_pos (zr'.mpr c5)] at E2
      rw [if_pos c5] at a4
      rw [E2]
      exact ⟨⟨a4.z, e0, fun _ => ⟨d1.fm F (show c.1 ≤ n by omega), fun i hi => by rw [a3]; exact d2 i hi, by rw [a5 c5]; exact d3⟩⟩, fun _ => a1⟩
    · rw [if_neg (fun y => c5 (zr'.mp y))] at E2
      rw [if_neg c5] at a4
      rw [E2]
      exact ⟨⟨a4, e0, fun y => absurd y (show ¬ (5 : Nat) = 0 by decide)⟩, fun y => absurd y (show ¬ (5 : Nat) = 0 by decide)⟩
  · rw [if_pos z, if_pos z] at a4
    rw [sf1 z]
    exact ⟨⟨a4, e0, fun y => absurd y z⟩, fun y => absurd y z⟩
theorem md_y (hg : ∀ j, j < q → gdK K j) (hq : ssK K q = 0) (hP : ∀ j, j < q → P j < P (j + 1)) (hn : n < 12) {i b : Nat} (hi : i ≤ q) (hib : i ≤ b) (hbq : b ≤ q) (hq4 : q ≤ 400) (T : TLa K P V W q h) (es : ssK K i = 4) (en : npK K i = n + 1) (kb : K b = 2) (hs : (b = i ∧ K i ≠ 5) ∨ (b = i + 1 ∧ K i = 5)) (sf1 : (sfK K P V W i).1 ≠ 0 → sfK K P V W (b + 1) = sfK K P V W i) (sf2 : ∀ pl c w x m, sfK K P V W i = (0, pl, c, w, x, m) → ∃ st, (st = 4 ∨ st = 5) ∧ sfK K P V W (b + 1) = numS st (P b) (if K i = 5 then -(V b : Int) else (V b : Int)) pl c w x) (R : MDr n (sfK K P V W i) h) (hx : (sfK K P V W i).1 = 0 → hI h 88 (2 + 2 * n) = iI (sfK K P V W i).2.2.2.2.1) : ∃ h1 h', f_R_meansPoint_L2 (nI n) (nI i) (nI 1) h = some (.inl (nI (b + 1), nI 2, h1)) ∧ lp (fun s => f_R_meansPoint_L5 (nI n) (nI (b + 1)) s.1 s.2) lpN (0, h1) = some h' ∧ FM n h h' ∧ SMr (n + 1) (sfK K P V W (b + 1)) h' := by
  obtain ⟨r1, r2, r3⟩ := R
  obtain ⟨⟨t1, -⟩, t2, -⟩ := T i (by omega)
  obtain ⟨⟨-, u1⟩, -, u2, u3, -⟩ := T b (by omega)
  obtain ⟨u3, u4⟩ := u3 kb
  have pm := P_mono hP hib hbq
  have pq : (sfK K P V W i).1 ≠ 0 → (sfK K P V W i).2.1 < P b := fun z => by
    have := (sf_place (K := K) (V := V) (W := W) hP i hi).2 z
    omega
  have pl2 := sf_pl (K := K) (V := V) (W := W) (fun j hj => (T j hj).1.2) i hi
  obtain ⟨h1, l1, F1, a1, a2, a3, a4, a5⟩ := num_ok (x4 := 1) hn (by omega) hs t2 t1 (by omega) u3 u4 u2 u1 r1 pl2 pq
  have l1 : f_R_meansPoint_L2 (nI n) (nI i) (nI 1) h = some (.inl (nI (b + 1), nI 2, h1)) := l1
  have F1 : FM n h h1 := F1
  have e0 : hI h1 88 0 = nI n := by rw [a2 0 (by omega)]; exact r2
  have ax : hI h1 88 (2 + 2 * n) = hI h 88 (2 + 2 * n) := a2 _ (by omega)
  have a1 : hI h1 88 (3 + 2 * n) = iI (if K i = 5 then -(V b : Int) else (V b : Int)) := by
    rw [← a1, show 2 + 2 * n + 1 = 3 + 2 * n by omega]
  have e83 : hI h1 83 b = nI (P b) := by rw [F1.1 83 b (by omega) (by omega) (by omega)]; exact u2
  by_cases z : (sfK K P V W i).1 = 0
  · obtain ⟨pl, c, w, x, m, E⟩ := sf_0 z
    obtain ⟨G, s2, s3⟩ := sf_in hg (by omega) E
    rw [es, if_pos (by omega), en] at s2
    have s3 := s3 (Or.inl es)
    rw [E] at r3 a4 hx
    obtain ⟨d1, d2, d3⟩ := r3 rfl
    have d1 : DRr c h := d1
    have d1 : DRr c h1 := d1.fm F1 (show c.1 ≤ n by omega)
    have d2 : ∀ i, i ≤ n → hL h 89 i = w i := d2
    have hx : hI h 88 (2 + 2 * n) = iI x := hx rfl
    have a4 : WR (if V b ≤ 50 then 0 else 5) (P b) h1 := a4
    obtain ⟨st, hst, E2⟩ := sf2 _ _ _ _ _ E
    rw [numS_y hst] at E2
    have vin : InR (if K i = 5 then -(V b : Int) else (V b : Int)) := by
      unfold InR
      split <;> omega
    have dn : ∀ k, k < n → dupM n h1 k = isAt c x (if K i = 5 then -(V b : Int) else (V b : Int)) k := by
      intro k hk
      obtain ⟨v1, v2, v3⟩ := d1.2 k (by omega)
      obtain ⟨p1, p2⟩ := pt_in G (i := k) (by omega)
      unfold dupM isAt
      rw [v1, v2, v3, ax, hx, a1]
      apply decide_eq_decide.mpr
      rw [iI_eq p1 (by unfold InR; omega), iI_eq p2 vin]
      simp
    have ed : ex (dupM n h1) n = tkn c x (if K i = 5 then -(V b : Int) else (V b : Int)) := by
      unfold tkn
      rw [show c.1 = n by omega]
      exact ex_cong dn
    obtain ⟨h', l2, F2, b1, b2, b3, b4, b5⟩ := dup_ok hn (show b < 403 by omega) a4 u1 e83 u1 e0 (by
      intro y
      right
      intro k hk
      rw [dn k hk]
      by_cases c5 : V b ≤ 50
      · rw [if_pos c5] at y; exact absurd rfl y
      · have g := G.2.2.1 k (by omega)
        unfold isAt
        by_cases k5 : K i = 5
        · simp only [if_pos k5]
          simp
          intro _
          omega
        · simp only [if_neg k5]
          simp
          intro _
          omega)
    have F2 : FM n h1 h' := F2
    refine ⟨h1, h', l1, l2, F1.trans F2, ?_⟩
    by_cases c5 : V b ≤ 50
    · have zin := (zr' (p := K i = 5)).mpr c5
      rw [if_pos zin] at E2
      rw [if_pos c5] at b4 b5
      have b5 := b5 rfl
      rw [ed] at b4 b5
      have b4 : WR (if tkn c x (if K i = 5 then -(V b : Int) else (V b : Int)) then 3 else 0) (P b) h' := b4
      have fr : frB c x (if K i = 5 then -(V b : Int) else (V b : Int)) = !(tkn c x (if K i = 5 then -(V b : Int) else (V b : Int))) := by
        unfold frB
        rw [decide_eq_true s3, decide_eq_true zin]
        rfl
      rw [fr] at E2
      by_cases y : tkn c x (if K i = 5 then -(V b : Int) else (V b : Int)) = true
      · rw [if_pos y] at b4
        rw [y, if_neg (by decide)] at E2
        rw [E2]
        exact ⟨b4, b2, fun y => absurd y (show ¬ (3 : Nat) = 0 by decide)⟩
      · have y : tkn c x (if K i = 5 then -(V b : Int) else (V b : Int)) = false := by simpa using y
        rw [y, if_neg (by decide)] at b4
        rw [y, if_pos (by decide)] at E2
        rw [E2]
        refine ⟨b4.z, b2, fun _ => ⟨⟨?_, ?_⟩, ?_⟩⟩
        · show hI h' 88 1 = nI c.2.1
          rw [b1 1 (by omega)]; exact d1.1
        · show ∀ i, i < c.1 + 1 → hI h' 88 (2 + 2 * i) = iI (updF c.2.2.1 c.1 x i) ∧ hI h' 88 (3 + 2 * i) = iI (updF c.2.2.2 c.1 _ i) ∧ hI h' 90 i = 1
          intro k hk
          rw [b1 _ (by omega), b1 _ (by omega)]
          unfold updF
          by_cases kn : k = c.1
          · have kn' : k = n := by omega
            rw [if_pos kn, if_pos kn, kn', ax, hx, a1, b5 y, a5 c5]
            exact ⟨rfl, rfl, d3⟩
          · rw [if_neg kn, if_neg kn, F2.1 90 k (by omega) (by omega) (by omega)]
            exact d1.2 k (by omega)
        · show ∀ i, i < c.1 + 1 → hL h' 89 i = w i
          intro k hk
          rw [b3, a3]
          exact d2 k (by omega)
    · rw [if_neg (fun y => c5 (zr'.mp y))] at E2
      rw [if_neg c5] at b4
      rw [E2]
      exact ⟨b4, b2, fun y => absurd y (show ¬ (5 : Nat) = 0 by decide)⟩
  · rw [if_pos z, if_pos z] at a4
    obtain ⟨h', l2, F2, b1, b2, b3, b4, b5⟩ := dup_ok hn (show b < 403 by omega) a4 pl2 e83 u1 e0 (fun y => Or.inl (pq z))
    rw [if_pos z, if_pos z] at b4
    rw [sf1 z]
    exact ⟨h1, h', l1, l2, F1.trans F2, b4, b2, fun y => absurd y z⟩
/-- a line that tells a point -/
theorem mpt_ok (hg : ∀ j, j < q → gdK K j) (hq : ssK K q = 0) (hP : ∀ j, j < q → P j < P (j + 1)) (hq4 : q ≤ 400) (T : TLa K P V W q h) {e : Nat} (he : e < q) (es : ssK K e = 0) (k20 : K e = 20) (R : SMr (npK K e) (sfK K P V W e) h) : ∃ h' e', f_R_meansPoint (nI (e + 1)) h = some h' ∧ FM (npK K e) h h' ∧ npK K e < 12 ∧ e' ≤ q ∧ e < e' ∧ ssK K e' = 0 ∧ (∀ j, e < j → j < e' → K j ≠ 20 ∧ K j ≠ 21) ∧ SMr (npK K e') (sfK K P V W e') h' := by
  obtain ⟨k1, e2, s1, s2⟩ := pt_shape hg hq he es k20
  obtain ⟨a, ia, aq, ka, sa, ha, fa1, fa2⟩ := num_shape (P := P) (V := V) (W := W) hg hq (i := e + 2) (s := 2) (s1 := 3) (s2 := 4) (by omega) e2 s2
  obtain ⟨b, ib, bq, kb, sb, hb, fb1, fb2⟩ := num_shape (P := P) (V := V) (W := W) hg hq (i := a + 1) (s := 4) (s1 := 5) (s2 := 7) (by omega) (by omega) sa
  obtain ⟨k4, bq2, sb2, fb3⟩ := end_shape (P := P) (V := V) (W := W) hg hq (i := b + 1) (by omega) sb
  have hn : npK K e < 12 := by
    have := (npK_le e (fun j hj => hg j (by omega))).1
    have := (gdK_fol (hg e he)).2
    omega
  have kj : ∀ j, e < j → j < b + 2 → K j ≠ 20 ∧ K j ≠ 21 := by
    intro j j1 j2
    have c : j = e + 1 ∨ (j = e + 2 ∧ K j = 5) ∨ j = a ∨ (j = a + 1 ∧ K j = 5) ∨ j = b ∨ j = b + 1 := by
      rcases ha with ⟨u1, u2⟩ | ⟨u1, u2⟩
      · rcases hb with ⟨v1, v2⟩ | ⟨v1, v2⟩
        · omega
        · by_cases w : j = a + 1
          · exact Or.inr (Or.inr (Or.inr (Or.inl ⟨w, by rw [w]; exact v2⟩)))
          · omega
      · by_cases w : j = e + 2
        · exact Or.inr (Or.inl ⟨w, by rw [w]; exact u2⟩)
        · rcases hb with ⟨v1, v2⟩ | ⟨v1, v2⟩
          · omega
          · by_cases w : j = a + 1
            · exact Or.inr (Or.inr (Or.inr (Or.inl ⟨w, by rw [w]; exact v2⟩)))
            · omega
    rcases c with c | ⟨-, c⟩ | c | ⟨-, c⟩ | c | c
    · rw [c, k1]; omega
    · omega
    · rw [c, ka]; omega
    · omega
    · rw [c, kb]; omega
    · rw [c, k4]; omega
  have n1 : npK K (e + 1) = npK K e + 1 := by
    show npK K e + (if K e = 20 then 1 else 0) = _
    rw [if_pos k20]
  have nj : ∀ j, e < j → j ≤ b + 2 → npK K j = npK K e + 1 := fun j j1 j2 => by
    rw [← n1]
    exact np_keep (by omega) (fun m m1 m2 => (kj m (by omega) (by omega)).1)
  generalize en : npK K e = n at hn R nj ⊢
  have pl0 := sf_pl (K := K) (V := V) (W := W) (fun j hj => (T j hj).1.2) e (by omega)
  have pp := sf_place (K := K) (V := V) (W := W) hP
  obtain ⟨⟨-, u1⟩, -, u2, -, u3⟩ := T (e + 1) (by omega)
  have u3 := u3 k1
  have p1 : P e ≤ P (e + 1) := P_mono hP (by omega) (by omega)
  have F0 : FM n h (sI h 90 n 1) := FM.rfl'.set (by omega)
  have goal : ∃ h', f_R_meansPoint (nI (e + 1)) h = some h' ∧ FM n h h' ∧ SMr (n + 1) (sfK K P V W (b + 1)) h' := by
    unfold f_R_meansPoint
    rw [R.2.1, if_neg (gd hn (by omega)), cla (by omega), nb1]
    refine names_ok (h := sI h 90 n 1) (w := W (e + 1)) hn (show e + 1 < 403 by omega) u3 (by rw [hI_n (by omega)]; exact u2) u1 (R.1.fr (fun j _ => by rw [hI_n (by omega)])) pl0 (fun z => by have := (pp e (by omega)).2 z; omega) hI_s (fun h' => FM n h h' ∧ SMr (n + 1) (sfK K P V W (b + 1)) h') ?_
    intro h1 F1 a1 a2 a3 a4
    have M1 : MDr n (sfK K P V W (e + 2)) h1 := md_name (h := h) hg e2 es k20 k1 en R (F0.trans F1) (fun k => by rw [a1, hI_n (by omega)]) a2 a3 a4
    have F1 : FM n h h1 := F0.trans F1
    have T1 := F1.tla T
    obtain ⟨⟨x1, -⟩, x2, -⟩ := T1 (e + 2) (by omega)
    obtain ⟨⟨-, y1⟩, -, y2, y3, -⟩ := T1 a (by omega)
    obtain ⟨y3, y4⟩ := y3 ka
    have pa := P_mono hP ia (by omega)
    have pl2 := sf_pl (K := K) (V := V) (W := W) (fun j hj => (T j hj).1.2) (e + 2) (by omega)
    obtain ⟨h2, l2, F2, b1, b2, b3, b4, b5⟩ := num_ok (x4 := 0) hn (by omega) ha x2 x1 (by omega) y3 y4 y2 y1 M1.1 pl2 (fun z => by have := (pp (e + 2) (by omega)).2 z; omega)
    have F2 : FM n h1 h2 := F2
    obtain ⟨M2, M3⟩ := md_x hg hq (by omega) s2 (nj _ (by omega) (by omega)) fa1 fa2 M1 F2 b1 b2 b3 b4 b5
    obtain ⟨h3, h4, l3, l4, F3, M4⟩ := md_y hg hq hP hn (i := a + 1) (b := b) (by omega) (by omega) (by omega) hq4 (F2.tla T1) sa (nj _ (by omega) (by omega)) kb hb fb1 fb2 M2 M3
    refine ⟨h4, ?_, (F1.trans F2).trans F3, M4⟩
    have l2 : f_R_meansPoint_L2 (nI n) (nI (e + 2)) 0 h1 = some (.inl (nI (a + 1), nI 1, h2)) := l2
    show lp (fun s => f_R_meansPoint_L2 (nI n) s.1 s.2.1 s.2.2) (19997 + 1 + 1 + 1) (nI (e + 2), 0, h1) = some h4
    rw [lp_inl (f := fun s => f_R_meansPoint_L2 (nI n) s.1 s.2.1 s.2.2) (s := (nI (e + 2), 0, h1)) (s' := (nI (a + 1), nI 1, h2)) l2, lp_inl (f := fun s => f_R_meansPoint_L2 (nI n) s.1 s.2.1 s.2.2) (s := (nI (a + 1), nI 1, h2)) (s' := (nI (b + 1), nI 2, h3)) l3]
    refine lp_inr ?_
    show f_R_meansPoint_L2 (nI n) (nI (b + 1)) (nI 2) h3 = _
    unfold f_R_meansPoint_L2
    rw [if_pos (show (2 : Int32) ≤ nI 2 by decide), l4]
    rfl
  obtain ⟨h', g1, g2, g3⟩ := goal
  refine ⟨h', b + 2, g1, g2, hn, bq2, by omega, sb2, kj, ?_⟩
  rw [nj (b + 2) (by omega) (by omega), show sfK K P V W (b + 2) = sfK K P V W (b + 1) from fb3]
  exact g3
end PO
