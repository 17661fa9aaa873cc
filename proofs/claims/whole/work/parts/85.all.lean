/-! all of them, and the first state -/
theorem all_ok : ALL Inv := ⟨eq_grass, eq_ledge, eq_set, eq_goat, eq_of, eq_change, eq_birth, eq_ask, eq_go, eq_now, eq_who, eq_ahead, eq_learns, eq_lost, eq_meet, eq_reach, eq_put, eq_kindFor, eq_growsFor, eq_cover, eq_price, eq_censor, eq_kinds, eq_fits, eq_slips, eq_odds, eq_seed, eq_feed, eq_wipe, eq_text, eq_hold, eq_as, eq_sheet, eq_write, eq_copy, eq_load, eq_judge, eq_image, eq_undo, eq_tear, eq_count, eq_status⟩
theorem z_go : ∀ g, g < 8 → S0 42 (17 + 6 * g) = 0 ∧ S0 42 (18 + 6 * g) = 0 ∧ S0 42 (19 + 6 * g) = 0 := by decide
theorem z_sp : ∀ k, k < 10 → S0 42 (65 + k) = -1 := by decide
theorem z_r1 : ∀ j, j < 12 → S0 (1 + 1) j = S0 42 (5 + j) := by decide
theorem z_r2 : ∀ g, g < 8 → S0 (1 + 2) g = S0 42 (17 + 6 * g) ∧ S0 (1 + 3) g = S0 42 (18 + 6 * g) ∧ S0 (1 + 4) g = S0 42 (19 + 6 * g) ∧ S0 (1 + 5) g = S0 42 (20 + 6 * g) ∧ S0 (1 + 6) g = S0 42 (21 + 6 * g) ∧ S0 (1 + 7) g = S0 42 (22 + 6 * g) := by decide
theorem z_r3 : ∀ k, k < 10 → S0 (1 + 8) k = S0 42 (65 + k) := by decide
theorem z_sh : ∀ i, i < 4 → S0 (32 + 2 * i) 2 = nI 0 ∧ S0 49 i = nI 0 ∧ S0 (32 + 2 * i) 1 = 0 ∧ S0 48 i = -1 := by decide
theorem z_fd : ∀ k, k < 7 → S0 40 k = S0 46 (k + 1) := by decide
theorem inv_0 : Inv 0 S0 := by
  refine ⟨⟨⟨VT.of ⟨0, by decide, by decide⟩ (fun g hg => ⟨⟨0, by decide, (z_go g hg).1⟩, ⟨0, by decide, (z_go g hg).2.1⟩, ⟨0, by decide, (z_go g hg).2.2⟩⟩), ⟨0, by decide, by decide⟩, fun k hk => Or.inl (z_sp k hk)⟩, ?_⟩, ⟨by decide, Or.inl (by decide)⟩, ⟨0, by decide, by decide, by decide, fun j hj => absurd hj (by omega)⟩, fun i hi => ?_, z_fd, by decide⟩
  · exact ⟨z_r1, fun g hg => (z_r2 g hg).1, fun g hg => (z_r2 g hg).2.1, fun g hg => (z_r2 g hg).2.2.1, fun g hg => (z_r2 g hg).2.2.2.1, fun g hg => (z_r2 g hg).2.2.2.2.1, fun g hg => (z_r2 g hg).2.2.2.2.2, z_r3, by decide, by decide, by decide, by decide, by decide, by decide⟩
  · obtain ⟨h1, h2, h3, h4⟩ := z_sh i hi
    exact ⟨0, by decide, h1, h2, Or.inl ⟨h3, h4⟩, fun j hj => absurd hj (by omega)⟩
