/-! image, undo -/
theorem eq_undo : EQ0 Inv fX4_undo fX5_undo := by
  intro n S hI hn
  obtain ⟨k1, k2⟩ := hI.2.1
  rcases k2 with k2 | ⟨k2, k3, k4⟩
  · refine ⟨-1000004, cnC 3 S, cnM 3 (cnC 3 S), ?_, ?_, hI.cn (by decide)⟩
    · unfold fX4_undo
      rw [if_pos k2, cl_s (fo4 S)]
    · have e : cnC 3 S 41 4 = 0 := by
        rw [show cnC 3 S 41 = S 41 from up2_qn (by omega), ← k1, k2]
      unfold fX5_undo
      rw [if_pos e, cl_s (fq4 _)]
  · obtain ⟨S1, p1, p2, p3⟩ := become_c (b := 1) k4 (by omega)
    obtain ⟨S2, r1, r2, r3⟩ := copyRow_m (p := 43) (q := 42) (by decide) S1
    rw [p3 43 (by omega)] at r3
    refine ⟨S 43 1, S1, S2, ?_, ?_, ?_⟩
    · unfold fX4_undo
      rw [if_neg (by rw [k2]; decide), cl_s p1, p2.dy]
    · unfold fX5_undo
      rw [if_neg (by rw [p3 41 (by omega), ← k1, k2]; decide), cl_s r1, rd1, r3 1 (by omega)]
    · refine hI.row (T := S2 42) (m := n) (fun q h1 h2 h3 h4 h5 => ?_) rfl ?_ (k3.eqT r3) (by omega)
      · rw [r2 q h3]
        exact p3 q (by omega)
      · exact (p2.eqT r3).fr (fun i hi => r2 _ (by omega))
theorem eq_image : EQ0 Inv fX4_image fX5_image := by
  intro n S hI hn
  obtain ⟨S1, p1, p2, p3⟩ := become_c (b := 19) hI.R (by omega)
  obtain ⟨S2, r1, r2, r3⟩ := copyRow_m (p := 42) (q := 43) (by decide) (up2 S1 0 3 1)
  have e : ∀ k, k ≠ 0 → k ≠ 41 → k ≠ 43 → (k < 19 ∨ 28 ≤ k) → up2 S2 41 4 1 k = S k := fun k h0 h1 h2 h3 => by
    rw [up2_qn h1, r2 k h2, up2_qn h0, p3 k (by omega)]
  have e41 : up2 S2 41 4 1 41 = upd (S 41) 4 1 := by
    rw [up2_qq, r2 41 (by omega), up2_qn (by omega), p3 41 (by omega)]
  have e0 : up2 S2 41 4 1 0 = upd (S1 0) 3 1 := by
    rw [up2_qn (by omega), r2 0 (by omega), up2_qq]
  have e43 : EqT (S 42) (up2 S2 41 4 1 43) := by
    rw [up2_qn (by omega)]
    rw [up2_qn (by omega), p3 42 (by omega)] at r3
    exact r3
  obtain ⟨a, b, ⟨t, t1, t2, t3, t4⟩, d, f⟩ := hI
  refine ⟨1, up2 S1 0 3 1, up2 S2 41 4 1, ?_, ?_, ⟨?_, ?_⟩, ⟨?_, Or.inr ⟨?_, ?_, ?_⟩⟩, ⟨t, t1, ?_, ?_, ?_⟩, d.fr (fun k h1 h2 => e k (by omega) (by omega) (by omega) (by omega)) (e 48 (by omega) (by omega) (by omega) (by omega)) (e 49 (by omega) (by omega) (by omega) (by omega)) (e 50 (by omega) (by omega) (by omega) (by omega)), f.fr (e 40 (by omega) (by omega) (by omega) (by omega)) (e 46 (by omega) (by omega) (by omega) (by omega))⟩
  · unfold fX4_image
    rw [cl_s p1, bnd_s]
  · unfold fX5_image
    rw [cl_s r1, bnd_s]
  · rw [e 42 (by omega) (by omega) (by omega) (by omega)]
    exact a.1.up
  · rw [e 42 (by omega) (by omega) (by omega) (by omega)]
    exact a.2.fr (fun i hi => e _ (by omega) (by omega) (by omega) (by omega))
  · rw [e0, e41, upd_s, upd_s]
  · rw [e0, upd_s]
  · exact a.1.up.eqT e43
  · refine (p2.eqT e43).fr (fun i hi => ?_)
    rw [up2_qn (by omega), r2 _ (by omega), up2_qn (by omega)]
  · rw [e 28 (by omega) (by omega) (by omega) (by omega)]
    exact t2
  · rw [e41, upd_n (by omega)]
    exact t3
  · rw [e 29 (by omega) (by omega) (by omega) (by omega), e 47 (by omega) (by omega) (by omega) (by omega)]
    exact t4
