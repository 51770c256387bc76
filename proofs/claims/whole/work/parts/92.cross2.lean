/-! the crossings in the reference; crossing, bends -/
def LRk (X Y : Nat → Int) (h : pH) (k : Nat) (y : Nat × Nat) : Prop := hI h 98 k = iI (ovr X Y y) ∧ hI h 99 k = nI (unr X Y y) ∧ hI h 100 k = nI y.1 ∧ hI h 101 k = nI y.2
def LRs (X Y : Nat → Int) (h0 h : pH) (s : Sq) : Prop := Fs [98, 99, 100, 101] h0 h ∧ ∀ k, k < s.1 → LRk X Y h k (s.2 k)
section CT
variable {n g : Nat} {X Y : Nat → Int} {h h0 : pH}
theorem R_ins_ok (G : GC n g X Y) {m : Nat} {S : Nat → Nat × Nat} {x : Nat × Nat} (hm : m < 66) (V : VS n X (m, S)) (hx : okp n X x) (L : LRs X Y h0 h (m, S)) : ∃ h', f_R_laysCrossings_J3 (nI m) (nI x.1) (nI x.2) (nI (unp X x)) (iI (ovp X Y x)) h = some (Sum.inl (nI (m + 1), nI (x.2 + 1), h')) ∧ LRs X Y h0 h' (m + 1, insS S (psn X Y S x m) x) := by
  obtain ⟨p1, p2, p3⟩ := psn_ok (X := X) (Y := Y) S x m
  obtain ⟨b1, b2⟩ := ov_in G hx
  obtain ⟨g1, g2, g3, g4, g5, -⟩ := gc_ok G hx
  obtain ⟨r1, r2⟩ := or_in G hx
  generalize psn X Y S x m = a at *
  have d1 : iI (ovp X Y x) / nI (gcp X Y x) = iI (ovr X Y x) := by
    rw [g3]
    exact idiv_ok g1 (by omega) (by omega)
  have d2 : nI (unp X x) / nI (gcp X Y x) = nI (unr X Y x) := pk_div (by omega) g1 (by omega)
  have gz : ¬ nI (gcp X Y x) = 0 := fun e => by have := (nI_eqI (b := 0) (by omega) (by omega)).mp e; omega
  have x66 : x.2 ≤ 12 := by have := hx.2.1; have := G.1; omega
  unfold f_R_laysCrossings_J3
  rw [measure_ok (by omega) (by omega)]
  simp only [Option.bind_some]
  rw [show Nat.gcd (ovp X Y x).natAbs (unp X x) = gcp X Y x from rfl]
  -- the place is free
  have J : ∀ h' i, i ≤ m → Fs [98, 99, 100, 101] h0 h' → (∀ k, k < m + 1 → k ≠ i → LRk X Y h' k (insS S i x k)) → ∃ h'', f_R_laysCrossings_J5 (nI m) (nI x.1) (nI x.2) (nI (unp X x)) (iI (ovp X Y x)) (nI (gcp X Y x)) (nI i) h' = some (Sum.inl (nI (m + 1), nI (x.2 + 1), h'')) ∧ LRs X Y h0 h'' (m + 1, insS S i x) := by
    intro h' i hi F H
    unfold f_R_laysCrossings_J5
    rw [if_neg gz, if_neg (gd (by omega) (by omega)), if_neg gz, cla (by omega), d1, d2, nI_1, nI_1]
    refine ⟨_, rfl, (((F.set (by decide)).set (by decide)).set (by decide)).set (by decide), fun k hk => ?_⟩
    have hk : k < m + 1 := hk
    by_cases c : k = i
    · subst c
      rw [show (m + 1, insS S k x).2 k = x from by show insS S k x k = x; unfold insS; rw [if_neg (by omega), if_pos rfl]]
      exact ⟨by rw [hI_n (by omega), hI_n (by omega), hI_n (by omega), hI_s], by rw [hI_n (by omega), hI_n (by omega), hI_s], by rw [hI_n (by omega), hI_s], by rw [hI_s]⟩
    · obtain ⟨q1, q2, q3, q4⟩ := H k hk c
      exact ⟨by rw [hI_n (by omega), hI_n (by omega), hI_n (by omega), hI_n (by omega)]; exact q1, by rw [hI_n (by omega), hI_n (by omega), hI_n (by omega), hI_n (by omega)]; exact q2, by rw [hI_n (by omega), hI_n (by omega), hI_n (by omega), hI_n (by omega)]; exact q3, by rw [hI_n (by omega), hI_n (by omega), hI_n (by omega), hI_n (by omega)]; exact q4⟩
  obtain ⟨r, e1, h'', rfl, e2⟩ := lp_inv (f := fun s => f_R_laysCrossings_L4 (nI m) (nI x.1) (nI x.2) (nI (unp X x)) (iI (ovp X Y x)) (nI (gcp X Y x)) s.1 s.2) (fun t s => s.1 = nI (m - t) ∧ Fs [98, 99, 100, 101] h0 s.2 ∧ ∀ k, k < m + 1 → k ≠ m - t → LRk X Y s.2 k (insS S (m - t) x k)) (fun r => ∃ h'', r = Sum.inl (nI (m + 1), nI (x.2 + 1), h'') ∧ LRs X Y h0 h'' (m + 1, insS S a x)) (m - a) (by
    rintro t ⟨b, h'⟩ ht ⟨rfl, F, H⟩
    have F : Fs [98, 99, 100, 101] h0 h' := F
    have H : ∀ k, k < m + 1 → k ≠ m - t → LRk X Y h' k (insS S (m - t) x k) := H
    obtain ⟨i, hi⟩ : ∃ i, m - t = i + 1 := ⟨m - t - 1, by omega⟩
    have hi2 : m - (t + 1) = i := by omega
    show ∃ s', f_R_laysCrossings_L4 (nI m) (nI x.1) (nI x.2) (nI (unp X x)) (iI (ovp X Y x)) (nI (gcp X Y x)) (nI (m - t)) h' = some (.inl s') ∧ s'.1 = nI (m - (t + 1)) ∧ Fs [98, 99, 100, 101] h0 s'.2 ∧ ∀ k, k < m + 1 → k ≠ m - (t + 1) → LRk X Y s'.2 k (insS S (m - (t + 1)) x k)
    rw [hi] at H
    rw [hi, hi2]
    unfold f_R_laysCrossings_L4
    have s1 : nI (i + 1) - 1 = nI i := by rw [show (1 : Int32) = nI 1 from rfl, pk_sub (by omega)]; congr 1
    have s2 : nI (i + 1) + -1 = nI i := by rw [nI_iI, nI_iI, show (-1 : Int32) = iI (-1) from rfl, iI_add]; congr 1; omega
    have kl : klp X Y x (S i) := p2 (i + 1) (by omega) (by omega)
    have oS := V i (show i < m by omega)
    have oS : okp n X (S i) := oS
    have hS := H i (by omega) (by omega)
    rw [show insS S (i + 1) x i = S i from by unfold insS; rw [if_pos (by omega)]] at hS
    obtain ⟨q1, q2, q3, q4⟩ := hS
    obtain ⟨t1, t2⟩ := or_in G oS
    have m1 := mul_b (a := ovr X Y (S i)) (b := (unr X Y x : Int)) (A := 100) (B := 100) t1 (by omega)
    have m2 := mul_b (a := ovr X Y x) (b := (unr X Y (S i) : Int)) (A := 100) (B := 100) r1 (by omega)
    have le : ¬ iI (ovr X Y (S i)) * nI (unr X Y x) ≤ iI (ovr X Y x) * nI (unr X Y (S i)) := by
      rw [nI_iI, nI_iI, iI_mul, iI_mul, iI_le (by unfold InR; omega) (by unfold InR; omega)]
      exact fun z => (red_kl G hx oS).mp z kl
    rw [if_neg (show ¬ nI (i + 1) ≤ 0 from nI_ge (a := 0) (by omega) (by omega)), s1, if_neg (gd (by omega) (by omega)), if_neg gz, if_neg gz, cla (by omega), d1, d2, q1, q2, if_neg le, if_neg (gd (by omega) (by omega)), cla (by omega), s2]
    refine ⟨_, rfl, rfl, (((F.set (by decide)).set (by decide)).set (by decide)).set (by decide), fun k hk hk2 => ?_⟩
    show LRk X Y (sI (sI (sI (sI h' 98 (i + 1) _) 99 (i + 1) _) 100 (i + 1) _) 101 (i + 1) _) k (insS S i x k)
    by_cases c : k = i + 1
    · subst c
      rw [show insS S i x (i + 1) = S i from by unfold insS; rw [if_neg (by omega), if_neg (by omega)]; rfl]
      refine ⟨?_, ?_, ?_, ?_⟩
      · rw [hI_n (by omega), hI_n (by omega), hI_n (by omega), hI_s]
      · rw [hI_n (by omega), hI_n (by omega), hI_s, hI_n (by omega)]; exact q2
      · rw [hI_n (by omega), hI_s, hI_n (by omega), hI_n (by omega)]; exact q3
      · rw [hI_s, hI_n (by omega), hI_n (by omega), hI_n (by omega)]; exact q4
    · have e : insS S i x k = insS S (i + 1) x k := by
        unfold insS
        by_cases c3 : k < i
        · rw [if_pos (by omega), if_pos (by omega)]
        · rw [if_neg (by omega), if_neg hk2, if_neg (by omega), if_neg c]
      rw [e]
      obtain ⟨w1, w2, w3, w4⟩ := H k hk c
      exact ⟨by rw [hI_n (by omega), hI_n (by omega), hI_n (by omega), hI_n (by omega)]; exact w1, by rw [hI_n (by omega), hI_n (by omega), hI_n (by omega), hI_n (by omega)]; exact w2, by rw [hI_n (by omega), hI_n (by omega), hI_n (by omega), hI_n (by omega)]; exact w3, by rw [hI_n (by omega), hI_n (by omega), hI_n (by omega), hI_n (by omega)]; exact w4⟩) (by
    rintro ⟨b, h'⟩ ⟨rfl, F, H⟩
    have F : Fs [98, 99, 100, 101] h0 h' := F
    have H : ∀ k, k < m + 1 → k ≠ m - (m - a) → LRk X Y h' k (insS S (m - (m - a)) x k) := H
    rw [show m - (m - a) = a by omega] at H
    obtain ⟨h'', j1, j2⟩ := J h' a p1 F H
    show ∃ r, f_R_laysCrossings_L4 (nI m) (nI x.1) (nI x.2) (nI (unp X x)) (iI (ovp X Y x)) (nI (gcp X Y x)) (nI (m - (m - a))) h' = some (.inr r) ∧ _
    rw [show m - (m - a) = a by omega]
    unfold f_R_laysCrossings_L4
    by_cases z : a = 0
    · subst z
      rw [if_pos (show nI 0 ≤ 0 by decide), j1]
      exact ⟨_, rfl, h'', rfl, j2⟩
    · have s1 : nI a - 1 = nI (a - 1) := by rw [show (1 : Int32) = nI 1 from rfl, pk_sub (by omega)]
      have kl := p3.resolve_left z
      have oS : okp n X (S (a - 1)) := V (a - 1) (show a - 1 < m by omega)
      have hS := H (a - 1) (by omega) (by omega)
      rw [show insS S a x (a - 1) = S (a - 1) from by unfold insS; rw [if_pos (by omega)]] at hS
      obtain ⟨q1, q2, q3, q4⟩ := hS
      obtain ⟨t1, t2⟩ := or_in G oS
      have m1 := mul_b (a := ovr X Y (S (a - 1))) (b := (unr X Y x : Int)) (A := 100) (B := 100) t1 (by omega)
      have m2 := mul_b (a := ovr X Y x) (b := (unr X Y (S (a - 1)) : Int)) (A := 100) (B := 100) r1 (by omega)
      have le : iI (ovr X Y (S (a - 1))) * nI (unr X Y x) ≤ iI (ovr X Y x) * nI (unr X Y (S (a - 1))) := by
        rw [nI_iI, nI_iI, iI_mul, iI_mul, iI_le (by unfold InR; omega) (by unfold InR; omega)]
        exact (red_kl G hx oS).mpr kl
      rw [if_neg (show ¬ nI a ≤ 0 from nI_ge (a := 0) (by omega) (by omega)), s1, if_neg (gd (by omega) (by omega)), if_neg gz, if_neg gz, cla (by omega), d1, d2, q1, q2, if_pos le, j1]
      exact ⟨_, rfl, h'', rfl, j2⟩) (n := lpN) (s := (nI m, h)) ⟨rfl, L.1, fun k hk hk2 => by
        have hk2 : k ≠ m := hk2
        show LRk X Y h k (insS S m x k)
        rw [show insS S m x k = S k from by unfold insS; rw [if_pos (by omega)]]
        exact L.2 k (show k < m by omega)⟩ (by unfold lpN; omega)
  exact ⟨h'', e1, e2⟩
theorem laysCrossings_ok (C : RR h n g X Y) (G : GC n g X Y) : ∃ h', f_R_laysCrossings h = some (nI (stO n X Y n).1, h') ∧ LRs X Y h h' (stO n X Y n) := by
  have hn := G.1
  unfold f_R_laysCrossings
  obtain ⟨⟨r1, r2⟩, e1, e2, e3⟩ := lp_inv (f := fun s => f_R_laysCrossings_L1 s.1 s.2.1 s.2.2) (fun p s => s.1 = nI (stO n X Y p).1 ∧ s.2.1 = nI p ∧ LRs X Y h s.2.2 (stO n X Y p)) (fun r => r.1 = nI (stO n X Y n).1 ∧ LRs X Y h r.2 (stO n X Y n)) n (by
    rintro p ⟨a, b, h'⟩ hp ⟨rfl, rfl, L⟩
    have L : LRs X Y h h' (stO n X Y p) := L
    have C' : RR h' n g X Y := C.fs L.1 (by decide)
    show ∃ s', f_R_laysCrossings_L1 (nI (stO n X Y p).1) (nI p) h' = some (.inl s') ∧ s'.1 = nI (stI X Y p (stO n X Y p) (n - (p + 1))).1 ∧ s'.2.1 = nI (p + 1) ∧ LRs X Y h s'.2.2 (stI X Y p (stO n X Y p) (n - (p + 1)))
    unfold f_R_laysCrossings_L1 f_R_all
    rw [C'.1, if_neg (lt_no hp (by omega)), nI_1]
    obtain ⟨r, e1, s2, rfl, e2, e3, e4⟩ := lp_inv (f := fun s => f_R_laysCrossings_L2 (nI p) s.1 s.2.1 s.2.2) (fun d s => s.1 = nI (stI X Y p (stO n X Y p) d).1 ∧ s.2.1 = nI (p + 1 + d) ∧ LRs X Y h s.2.2 (stI X Y p (stO n X Y p) d)) (fun r => ∃ s' : Int32 × Int32 × pH, r = .inl s' ∧ s'.1 = nI (stI X Y p (stO n X Y p) (n - (p + 1))).1 ∧ s'.2.1 = nI (p + 1) ∧ LRs X Y h s'.2.2 (stI X Y p (stO n X Y p) (n - (p + 1)))) (n - (p + 1)) (by
      rintro d ⟨a, b, h'⟩ hd ⟨rfl, rfl, L⟩
      have L : LRs X Y h h' (stI X Y p (stO n X Y p) d) := L
      have C' : RR h' n g X Y := C.fs L.1 (by decide)
      have hq : p + 1 + d < n := by omega
      have m66 := lt66 (X := X) (Y := Y) hn hq
      have V : VS n X (stI X Y p (stO n X Y p) d) := vs_stI hp (vs_stO p (by omega)) d (by omega)
      show ∃ s', f_R_laysCrossings_L2 (nI p) (nI (stI X Y p (stO n X Y p) d).1) (nI (p + 1 + d)) h' = some (.inl s') ∧ s'.1 = nI (stp X Y (stI X Y p (stO n X Y p) d) (p, p + 1 + d)).1 ∧ s'.2.1 = nI (p + 1 + d + 1) ∧ LRs X Y h s'.2.2 (stp X Y (stI X Y p (stO n X Y p) d) (p, p + 1 + d))
      generalize hq' : p + 1 + d = q at *
      generalize stI X Y p (stO n X Y p) d = s at *
      obtain ⟨m, S⟩ := s
      have m66 : m < 66 := m66
      have b1 := G.2.2.1 p hp
      have b2 := G.2.2.1 q hq
      show ∃ s', f_R_laysCrossings_L2 (nI p) (nI m) (nI q) h' = _ ∧ _
      unfold f_R_laysCrossings_L2 f_R_all
      rw [C'.1, if_neg (lt_no hq (by omega)), R_x_ok C' hn hp, R_x_ok C' hn hq, R_y_ok C' hn hp, R_y_ok C' hn hq]
      simp only [Option.bind_some]
      rw [iI_sub, iI_sub, nI_1]
      simp only [e0 (show InR (X p - X q) by unfold InR; omega), ge0 (show InR (X p - X q) by unfold InR; omega)]
      unfold stp
      by_cases z : X p = X q
      · rw [if_pos (show X p - X q = 0 by omega), if_pos z]
        exact ⟨_, rfl, rfl, rfl, L⟩
      · rw [if_neg (show ¬ X p - X q = 0 by omega), if_neg z]
        have hx : okp n X (p, q) := ⟨show p < q by omega, hq, z⟩
        obtain ⟨h2, j1, j2⟩ := R_ins_ok (h0 := h) G m66 V hx L
        by_cases y : 0 ≤ X p - X q
        · have eu : iI (X p - X q) = nI (unp X (p, q)) := by
            rw [nI_iI]
            congr 1
            show X p - X q = ((X p - X q).natAbs : Int)
            omega
          have eo : Y p - Y q = ovp X Y (p, q) := by
            unfold ovp
            rw [if_pos (show X q ≤ X p by omega)]
          rw [if_pos y, eu, eo]
          exact ⟨_, j1, rfl, rfl, j2⟩
        · have eu : -iI (X p - X q) = nI (unp X (p, q)) := by
            rw [nI_iI, iI_neg]
            congr 1
            show -(X p - X q) = ((X p - X q).natAbs : Int)
            omega
          have eo : -iI (Y p - Y q) = iI (ovp X Y (p, q)) := by
            unfold ovp
            rw [if_neg (show ¬ X q ≤ X p by omega), iI_neg]
          rw [if_neg y, eu, eo]
          exact ⟨_, j1, rfl, rfl, j2⟩) (by
      rintro ⟨a, b, h'⟩ ⟨rfl, rfl, L⟩
      have L : LRs X Y h h' (stI X Y p (stO n X Y p) (n - (p + 1))) := L
      have C' : RR h' n g X Y := C.fs L.1 (by decide)
      show ∃ r, f_R_laysCrossings_L2 (nI p) (nI (stI X Y p (stO n X Y p) (n - (p + 1))).1) (nI (p + 1 + (n - (p + 1)))) h' = some (.inr r) ∧ _
      unfold f_R_laysCrossings_L2 f_R_all
      rw [C'.1, show p + 1 + (n - (p + 1)) = n by omega, if_pos (ge_yes (Nat.le_refl _) (by omega)), nI_1]
      exact ⟨_, rfl, _, rfl, rfl, rfl, L⟩) (n := lpN) (s := (nI (stO n X Y p).1, nI (p + 1), h')) ⟨rfl, rfl, L⟩ (by unfold lpN; omega)
    rw [e1]
    exact ⟨s2, rfl, e2, e3, e4⟩) (by
    rintro ⟨a, b, h'⟩ ⟨rfl, rfl, L⟩
    have L : LRs X Y h h' (stO n X Y n) := L
    have C' : RR h' n g X Y := C.fs L.1 (by decide)
    show ∃ r, f_R_laysCrossings_L1 (nI (stO n X Y n).1) (nI n) h' = some (.inr r) ∧ _
    unfold f_R_laysCrossings_L1 f_R_all
    rw [C'.1, if_pos (ge_yes (Nat.le_refl _) (by omega))]
    exact ⟨_, rfl, rfl, L⟩) (n := lpN) (s := (0, 0, h)) ⟨rfl, rfl, Fs.rfl', fun k hk => absurd hk (by show ¬ k < 0; omega)⟩ (by unfold lpN; omega)
  have e2 : r1 = nI (stO n X Y n).1 := e2
  subst e2
  exact ⟨r2, e1, e3⟩
end CT
