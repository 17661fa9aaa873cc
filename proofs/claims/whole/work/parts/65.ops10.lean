/-! tear -/
theorem tear_inv {n : Nat} {S : St} (hI : Inv n S) : Inv (n + 1) (up2 (up2 S 0 3 0) 41 4 0) := by
  have e : ∀ k, k ≠ 0 → k ≠ 41 → up2 (up2 S 0 3 0) 41 4 0 k = S k := fun k h1 h2 => by rw [up2_qn h2, up2_qn h1]
  have e41 : up2 (up2 S 0 3 0) 41 4 0 41 = upd (S 41) 4 0 := by rw [up2_qq, up2_qn (by omega)]
  have e0 : up2 (up2 S 0 3 0) 41 4 0 0 = upd (S 0) 3 0 := by rw [up2_qn (by omega), up2_qq]
  obtain ⟨a, b, ⟨t, t1, t2, t3, t4⟩, d, f⟩ := hI
  refine ⟨⟨?_, ?_⟩, ⟨?_, Or.inl ?_⟩, ⟨t, t1, ?_, ?_, ?_⟩, d.fr (fun k h1 h2 => e k (by omega) (by omega)) (e 48 (by omega) (by omega)) (e 49 (by omega) (by omega)) (e 50 (by omega) (by omega)), f.fr (e 40 (by omega) (by omega)) (e 46 (by omega) (by omega))⟩
  · rw [e 42 (by omega) (by omega)]
    exact a.1.up
  · rw [e 42 (by omega) (by omega)]
    exact a.2.fr (fun i hi => e _ (by omega) (by omega))
  · rw [e0, e41, upd_s, upd_s]
  · rw [e0, upd_s]
  · rw [e 28 (by omega) (by omega)]
    exact t2
  · rw [e41, upd_n (by omega)]
    exact t3
  · rw [e 29 (by omega) (by omega), e 47 (by omega) (by omega)]
    exact t4
theorem eq_tear : EQ0 Inv fX4_tear fX5_tear := by
  intro n S hI hn
  have k1 := hI.2.1.1
  by_cases h : S 0 3 = 0
  · refine ⟨0, up2 S 0 3 0, up2 (up2 S 0 3 0) 41 4 0, ?_, ?_, tear_inv hI⟩
    · unfold fX4_tear fX4_tear_L12
      rw [if_pos h, bnd_s]
    · unfold fX5_tear fX5_tear_L19
      rw [bnd_s, bnd_s, up2_qn (a := 41) (by omega), ← k1, if_pos h]
  · refine ⟨1, up2 S 0 3 0, up2 (up2 S 0 3 0) 41 4 0, ?_, ?_, tear_inv hI⟩
    · unfold fX4_tear fX4_tear_L12
      rw [if_neg h, bnd_s]
    · unfold fX5_tear fX5_tear_L19
      rw [bnd_s, bnd_s, up2_qn (a := 41) (by omega), ← k1, if_neg h]
