/-! seed, wipe -/
theorem eq_seed : EQ1 Inv fX4_seed fX5_seed := by
  intro n S a1 hI hn
  refine ⟨S 42 2, up2 S (1 + 0) 13 a1, up2 (up2 S (1 + 0) 13 a1) 42 2 a1, ?_, ?_, hI.w1 (i := 0) (by omega) hI.R.s_zz (hI.1.1.up.lo (by omega) (by omega))⟩
  · unfold fX4_seed
    rw [bnd_s, bnd_s, hI.R.zz]
  · have q := becomes_n (S := up2 S (1 + 0) 13 a1) (k := 2) (by omega) a1
    rw [up2_qn (a := 42) (by omega)] at q
    have q' : fX5_becomes 2 a1 (up2 S (1 + 0) 13 a1) = some (S 42 2, up2 (up2 S (1 + 0) 13 a1) 42 2 a1) := q
    unfold fX5_seed
    rw [cl_s q']
theorem eq_wipe : EQ0 Inv fX4_wipe fX5_wipe := by
  intro n S hI hn
  obtain ⟨a, b, ⟨t, t1, t2, t3, t4⟩, d, f⟩ := hI
  have e : ∀ k, k ≠ 28 → k ≠ 41 → up2 (up2 S 28 1 0) 41 7 0 k = S k := fun k h1 h2 => by rw [up2_qn h2, up2_qn h1]
  have e41 : up2 (up2 S 28 1 0) 41 7 0 41 = upd (S 41) 7 0 := by rw [up2_qq, up2_qn (by omega)]
  have e28 : up2 (up2 S 28 1 0) 41 7 0 28 = upd (S 28) 1 0 := by rw [up2_qn (by omega), up2_qq]
  refine ⟨nI t, up2 S 28 1 0, up2 (up2 S 28 1 0) 41 7 0, ?_, ?_, ⟨?_, ?_⟩, ?_, ⟨0, by omega, ?_, ?_, fun j hj => absurd hj (by omega)⟩, d.fr (fun k h1 h2 => e k (by omega) (by omega)) (e 48 (by omega) (by omega)) (e 49 (by omega) (by omega)) (e 50 (by omega) (by omega)), f.fr (e 40 (by omega) (by omega)) (e 46 (by omega) (by omega))⟩
  · unfold fX4_wipe
    rw [bnd_s, bnd_s, t2]
  · unfold fX5_wipe
    rw [bnd_s, bnd_s, up2_qn (by omega), t3]
  · rw [e 42 (by omega) (by omega)]
    exact a.1.up
  · rw [e 42 (by omega) (by omega)]
    exact a.2.fr (fun i hi => e _ (by omega) (by omega))
  · obtain ⟨h1, h2⟩ := b.up
    refine ⟨?_, ?_⟩
    · rw [e 0 (by omega) (by omega), e41, upd_n (by omega)]
      exact h1
    · rw [e 0 (by omega) (by omega), e 43 (by omega) (by omega)]
      rcases h2 with h2 | ⟨p, q, r⟩
      · exact Or.inl h2
      · exact Or.inr ⟨p, q, r.fr (fun i hi => e _ (by omega) (by omega))⟩
  · rw [e28, upd_s]
    rfl
  · rw [e41, upd_s]
    rfl
