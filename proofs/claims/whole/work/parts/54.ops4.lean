/-! goat, birth -/
theorem come_0 {T : Row} {k l v : Int32} : comeT T k l v 0 = T 0 + 1 := upd_s
theorem ne8 {m : Nat} (h : m ≤ 8) (h8 : ¬ m = 8) : ¬ nI m = (8 : Int32) := fun q => h8 ((nI_eq (a := m) (b := 8) (by omega) (by decide)).mp q)
theorem Inv.come {n : Nat} {S S1 : St} {k l v : Int32} (hI : Inv n S) (p3 : Fr 1 S S1) (p2 : Rep 1 (comeT (S 42) k l v) 0 S1) (h8 : nN (S 42) < 8) (hk : ∃ j, j < 7 ∧ k = nI j) (hl : ∃ j, j < 12 ∧ l = nI j) (hv : ∃ j, j < 65536 ∧ v = nI j) : Inv (n + 1) (upR S1 42 (comeT (S 42) k l v)) := by
  refine hI.row (T := comeT (S 42) k l v) (m := n) (fun q h1 h2 h3 h4 h5 => ?_) ?_ ?_ (come_V hI.1.1 h8 hk hl hv).1 (by omega)
  · rw [upR_qn h3]
    exact p3 q (by omega)
  · rw [upR_qq]
  · exact p2.fr (fun i hi => upR_qn (by omega))
theorem eq_goat : EQ2 Inv fX4_goat fX5_goat := by
  intro n S a1 a2 hI hn
  have hn8 := hI.V.n8
  by_cases h : inR a1 7
  · by_cases h2 : inR a2 12
    · by_cases h8 : nN (S 42) = 8
      · refine ⟨-1000002, cnC 1 S, cnM 1 (cnC 1 S), ?_, ?_, hI.cn (by decide)⟩
        · unfold fX4_goat
          rw [cl_s (kindG_c _ S), b2i_t h, if_neg one_ne, cl_s (ledgeG_c _ S), b2i_t h2, if_neg one_ne, cl_s (full_c hI.R hI.V), b2i_t h8, if_neg one_ne, cl_s (fo2 S)]
        · have e42 : cnC 1 S 42 = S 42 := up2_qn (by omega)
          have e8 : S 42 0 = 8 := by rw [hI.V.n, h8]; rfl
          unfold fX5_goat
          rw [cl_s (isIn6 _ _), b2i_t h, if_neg one_ne, cl_s (ledgeG_m _ _), b2i_t h2, if_neg one_ne, rd0, e42, if_pos e8, cl_s (fq2 _)]
      · obtain ⟨S1, p1, p2, p3⟩ := add_c (k := a1) (l := a2) hI.R hI.V (by omega)
        have e42 : S1 42 = S 42 := p3 42 (by omega)
        have hc := comes_m (S := S1) (k := a1) (l := a2) (v := 0) (by rw [e42]; exact hI.V) (by rw [e42]; omega)
        rw [e42] at hc
        refine ⟨nI (nN (S 42)), S1, upR S1 42 (comeT (S 42) a1 a2 0), ?_, ?_, hI.come p3 p2 (by omega) (inR_n (m := 7) (by decide) h) (inR_n (m := 12) (by decide) h2) ⟨0, by decide, rfl⟩⟩
        · unfold fX4_goat
          rw [cl_s (kindG_c _ S), b2i_t h, if_neg one_ne, cl_s (ledgeG_c _ S), b2i_t h2, if_neg one_ne, cl_s (full_c hI.R hI.V), b2i_f h8, if_pos rfl, cl_s p1]
        · have e8 : ¬ S 42 0 = 8 := by
            rw [hI.V.n]
            exact ne8 hn8 h8
          unfold fX5_goat
          rw [cl_s (isIn6 _ _), b2i_t h, if_neg one_ne, cl_s (ledgeG_m _ _), b2i_t h2, if_neg one_ne, rd0, e42, if_neg e8, cl_s hc, rd0, upR_qq, come_0, hI.V.n, nI_1, nI_pred]
    · refine hI.bad ?_ ?_
      · unfold fX4_goat fX4_goat_L14
        rw [cl_s (kindG_c _ S), b2i_t h, if_neg one_ne, cl_s (ledgeG_c _ S), b2i_f h2, if_pos rfl, cl_s (fo1 S)]
      · intro S1 _
        unfold fX5_goat fX5_goat_L19
        rw [cl_s (isIn6 _ _), b2i_t h, if_neg one_ne, cl_s (ledgeG_m _ _), b2i_f h2, if_pos rfl, cl_s (fq1 S1)]
  · refine hI.bad ?_ ?_
    · unfold fX4_goat fX4_goat_L14
      rw [cl_s (kindG_c _ S), b2i_f h, if_pos rfl, cl_s (fo1 S)]
    · intro S1 _
      unfold fX5_goat fX5_goat_L19
      rw [cl_s (isIn6 _ _), b2i_f h, if_pos rfl, cl_s (fq1 S1)]
theorem low_256 : ∀ w, w < 256 → nI w &&& ((nI w &&& (-nI w)) ^^^ (-1)) = nI w &&& (nI w - 1) := by decide +kernel
theorem come_up {T : Row} {k l y : Int32} : EqT (upd (comeT T k l 0) (19 + 6 * nN T) y) (comeT T k l y) := by
  intro j hj
  unfold comeT comeR upd
  repeat' split
  all_goals first | rfl | (exfalso; omega)
theorem eq_birth : EQ1 Inv fX4_birth fX5_birth := by
  intro n S a1 hI hn
  have hn8 := hI.V.n8
  by_cases h : inR a1 (S 42 0)
  · by_cases h8 : nN (S 42) = 8
    · refine ⟨-1000002, cnC 1 S, cnM 1 (cnC 1 S), ?_, ?_, hI.cn (by decide)⟩
      · unfold fX4_birth
        rw [cl_s (goatG_c _ hI.R), b2i_t h, if_neg one_ne, cl_s (full_c hI.R hI.V), b2i_t h8, if_neg one_ne, cl_s (fo2 S)]
      · have e42 : cnC 1 S 42 = S 42 := up2_qn (by omega)
        have e8 : S 42 0 = 8 := by rw [hI.V.n, h8]; rfl
        unfold fX5_birth
        rw [cl_s (goatG_m _ _), e42, b2i_t h, if_neg one_ne, rd0, e42, if_pos e8, cl_s (fq2 _)]
    · obtain ⟨g, hg, hgn, rfl⟩ := goatN hI h
      obtain ⟨hk, ek⟩ := hI.V.kn hg
      obtain ⟨S1, p1, p2, p3⟩ := add_c (k := 6) (l := S 42 (18 + 6 * g)) hI.R hI.V (by omega)
      have ew : S 42 (19 + 6 * g) &&& 255 = nI (knN (S 42) g &&& 255) := by
        rw [ek]
        exact n_and _ 255
      have hw : knN (S 42) g &&& 255 < 256 := by
        have := @Nat.and_le_right (knN (S 42) g) 255
        omega
      generalize hwd : knN (S 42) g &&& 255 = w at ew hw
      obtain ⟨y, hy, ey⟩ := and16 w (by omega) (nI w - 1)
      have q2 := p2.s_kn (v := nI w &&& (nI w - 1)) (k := nN (S 42)) (by omega)
      have q3 := q2.eqT come_up
      have q4 : Fr 1 S (up2 S1 (1 + 4) (nN (S 42)) (nI w &&& (nI w - 1))) := p3.tr (Fr.up (by omega))
      have e42 : up2 S1 (1 + 4) (nN (S 42)) (nI w &&& (nI w - 1)) 42 = S 42 := q4 42 (by omega)
      have hc := comes_m (S := up2 S1 (1 + 4) (nN (S 42)) (nI w &&& (nI w - 1))) (k := 6) (l := S 42 (18 + 6 * g)) (v := nI w &&& (nI w - 1)) (by rw [e42]; exact hI.V) (by rw [e42]; omega)
      rw [e42] at hc
      refine ⟨nI (nN (S 42)), up2 S1 (1 + 4) (nN (S 42)) (nI w &&& (nI w - 1)), _, ?_, ?_, hI.come q4 q3 (by omega) ⟨6, by decide, rfl⟩ ⟨_, hI.V.ld hg⟩ ⟨y, hy, ey⟩⟩
      · unfold fX4_birth fX4_leastBit
        rw [cl_s (goatG_c _ hI.R), b2i_t h, if_neg one_ne, cl_s (full_c hI.R hI.V), b2i_f h8, if_pos rfl, rd_n hg (by decide), bnd_s, rd_n hg (by decide), hI.R.kn hg, hI.R.ld hg, cl_s p1, ew, cl_sm, wr_n (by omega) (by decide), low_256 w hw]
      · have e8 : ¬ S 42 0 = 8 := by
          rw [hI.V.n]
          exact ne8 hn8 h8
        unfold fX5_birth
        rw [cl_s (goatG_m _ _), e42, b2i_t h, if_neg one_ne, rd0, e42, if_neg e8, cl_s (its2 hg _), e42, bnd_s, cl_s (its1 hg _), e42, ew, cl_s hc, rd0, upR_qq, come_0, hI.V.n, nI_1, nI_pred]
  · refine hI.bad ?_ ?_
    · unfold fX4_birth
      rw [cl_s (goatG_c _ hI.R), b2i_f h, if_pos rfl, cl_s (fo1 S)]
    · intro S1 hS1
      have e42 : S1 42 = S 42 := by rw [hS1]; exact up2_qn (by omega)
      unfold fX5_birth
      rw [cl_s (goatG_m _ _), e42, b2i_f h, if_pos rfl, cl_s (fq1 S1)]
