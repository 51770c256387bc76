/-! both begin alike -/
theorem J0_ok : JJ KCc KDd KEe 0 hp0 := by
  have a8 : hI hp0 8 2 = nI 0 ∧ hI hp0 8 3 = nI 10 ∧ hI hp0 8 4 = nI 0 := ⟨rfl, rfl, rfl⟩
  refine ⟨(0, 10, fun _ => 0, fun _ => 0), 0, fun _ => (0, 10, fun _ => 0, fun _ => 0), fun _ => none, 0, fun _ => 0, -1, ?_, ?_, ?_⟩
  · exact ⟨⟨Nat.zero_le _, ⟨(by decide), (by decide)⟩, fun i hi => absurd hi (by show ¬ i < 0; omega), fun i j hi => absurd hi (by show ¬ i < 0; omega)⟩, Nat.zero_le _, fun i hi => absurd hi (Nat.not_lt_zero i), fun i c' e => absurd e (by simp), Nat.zero_le _, fun i hi => absurd hi (Nat.not_lt_zero i)⟩
  · refine ⟨⟨0, ?_, ⟨rfl, by omega⟩, ⟨-1, rfl, by omega, by omega, fun e => by omega⟩, ⟨-1, rfl, by omega, by omega, fun e => by omega⟩, ⟨-1, rfl, by omega, by omega, fun e => by omega⟩⟩, ⟨0, ⟨rfl, rfl, by omega⟩, fun i hi => by omega⟩, fun i hi => ⟨?_, fun c' e => absurd e (by simp)⟩, ⟨rfl, fun i hi => by omega⟩, rfl⟩
    · rw [CCc_8]
      exact ⟨rfl, rfl, fun i hi => absurd hi (by show ¬ i < 0; omega)⟩
    · have : i = 0 ∨ i = 1 ∨ i = 2 := by omega
      rcases this with rfl | rfl | rfl <;> rfl
  · refine ⟨⟨rfl, rfl, fun i hi => absurd hi (by show ¬ i < 0; omega)⟩, ⟨0, ⟨rfl, rfl, by omega⟩, fun i hi => by omega⟩, fun i hi => ⟨?_, fun c' e => absurd e (by simp)⟩, ⟨rfl, fun i hi => by omega⟩, rfl, rfl, rfl⟩
    have : i = 0 ∨ i = 1 ∨ i = 2 := by omega
    rcases this with rfl | rfl | rfl <;> rfl
theorem all_but (hr : Sp_read (JJ KCc KDd KEe)) : SpAll (JJ KCc KDd KEe) :=
  ⟨sp_feed Kst_KCc Kst_KDd Kst_KEe, sp_back Kst_KCc Kst_KDd Kst_KEe, hr, sp_place Kst_KCc Kst_KDd Kst_KEe, sp_add Kst_KCc Kst_KDd Kst_KEe, sp_goes Kst_KCc Kst_KDd Kst_KEe, sp_move Kst_KCc Kst_KDd Kst_KEe, sp_turn Kst_KCc Kst_KDd Kst_KEe, sp_undo Kst_KCc Kst_KDd Kst_KEe, sp_point Kst_KCc Kst_KDd Kst_KEe, sp_turned Kst_KCc Kst_KDd Kst_KEe, sp_sides Kst_KCc Kst_KDd Kst_KEe, sp_corner Kst_KCc Kst_KDd Kst_KEe, sp_layer Kst_KCc Kst_KDd Kst_KEe, sp_edges Kst_KCc Kst_KDd Kst_KEe, sp_halving Kst_KCc Kst_KDd Kst_KEe, sp_cutOff Kst_KDd Kst_KEe KDd_on KEe_on, sp_isCutOff Kst_KDd Kst_KEe KDd_on KEe_on, sp_depth Kst_KCc Kst_KDd Kst_KEe, sp_deepest Kst_KCc Kst_KEe KCc_on KEe_on, sp_region Kst_KCc Kst_KEe KCc_on KEe_on, sp_triangles Kst_KCc Kst_KDd Kst_KEe, sp_order Kst_KCc Kst_KDd Kst_KEe, sp_crossing Kst_KCc Kst_KDd Kst_KEe, sp_bends Kst_KCc Kst_KDd Kst_KEe, sp_fit Kst_KCc Kst_KDd Kst_KEe, sp_best Kst_KCc Kst_KDd KCc_on KDd_on, sp_halvingBoth Kst_KCc Kst_KDd Kst_KEe, sp_four Kst_KCc Kst_KDd Kst_KEe, sp_keeping Kst_KCc Kst_KDd Kst_KEe, sp_splits Kst_KDd Kst_KEe KDd_on KEe_on, sp_fresh Kst_KCc Kst_KDd Kst_KEe, sp_hold Kst_KCc Kst_KDd Kst_KEe, sp_restore Kst_KCc Kst_KDd Kst_KEe, sp_count Kst_KCc Kst_KEe KCc_on KEe_on, fun _ _ h => h.mono Kst_KCc Kst_KDd Kst_KEe⟩
