/-! meet -/
theorem meet_st (m : Nat) (x1 x2 x3 : Int32) (S : St) : fX5_meet_L41 (m + 1) x1 x2 x3 S = if 100 < x3 then fX5_meet_L73 x3 S else cl (fX5_its x1 1 S) fun v1 S1 => cl (fX5_its x2 1 S1) fun v2 S2 => if v1 = v2 then fX5_meet_L73 x3 S2 else cl (fX5_dayBut 0 S2) fun _ S3 => bnd (x3 + 1) fun v3 => fX5_meet_L41 m x1 x2 v3 S3 := rfl
theorem eq_meet : EQ2 Inv fX4_meet fX5_meet := by
  intro n S a1 a2 hI hn
  by_cases h : inR a1 (S 42 0)
  · by_cases h2 : inR a2 (S 42 0)
    · by_cases hd : a1 = a2
      · refine hI.bad ?_ ?_
        · unfold fX4_meet fX4_meet_L21
          rw [cl_s (goatG_c _ hI.R), b2i_t h, if_neg one_ne, cl_s (goatG_c _ hI.R), b2i_t h2, if_neg one_ne, if_pos hd, cl_s (fo1 S)]
        · intro S1 hS1
          have e42 : S1 42 = S 42 := by rw [hS1]; exact up2_qn (by omega)
          unfold fX5_meet fX5_meet_L21
          rw [cl_s (goatG_m _ _), e42, b2i_t h, if_neg one_ne, cl_s (goatG_m _ _), e42, b2i_t h2, if_neg one_ne, if_pos hd, cl_s (fq1 S1)]
      · obtain ⟨g, hg, hgn, rfl⟩ := goatN hI h
        obtain ⟨q, hq, hqn, rfl⟩ := goatN hI h2
        refine until_ok (C := fun T => decide (T (18 + 6 * g) = T (18 + 6 * q))) (k := 2) (a := nI g) (b := nI q) (L := fun m x S => fX5_meet_L41 m (nI g) (nI q) x S) (fin := fX5_meet_L73) hI hn ?_ ?_ ?_ ?_ ?_
        · intro S T hR hV
          unfold fX4_hasCome fX4_hasCome_L85
          rw [if_neg (by decide), if_neg (by decide), if_pos rfl, rd_n hg (by decide), rd_n hq (by decide), hR.ld hg, hR.ld hq, retN_1, retN_0]
          by_cases w : T (18 + 6 * g) = T (18 + 6 * q)
          · rw [if_pos w, b2i_t (decide_eq_true w)]
          · rw [if_neg w, b2i_f (fun r => w (of_decide_eq_true r))]
        · intro m i S hi hV
          show fX5_meet_L41 (m + 1) (nI g) (nI q) (nI i) S = _
          rw [meet_st]
          rw [cl_s (its1 hg S), cl_s (its1 hq S)]
          by_cases w : S 42 (18 + 6 * g) = S 42 (18 + 6 * q)
          · rw [if_pos w, if_pos (decide_eq_true w)]
          · rw [if_neg w, if_neg (fun r => w (of_decide_eq_true r))]
            simp only [bnd_s, nI_1]
        · intro x S
          rfl
        · unfold fX4_meet
          rw [cl_s (goatG_c _ hI.R), b2i_t h, if_neg one_ne, cl_s (goatG_c _ hI.R), b2i_t h2, if_neg one_ne, if_neg hd]
        · intro S1 e42
          unfold fX5_meet
          rw [cl_s (goatG_m _ _), e42, b2i_t h, if_neg one_ne, cl_s (goatG_m _ _), e42, b2i_t h2, if_neg one_ne, if_neg hd]
    · refine hI.bad ?_ ?_
      · unfold fX4_meet fX4_meet_L21
        rw [cl_s (goatG_c _ hI.R), b2i_t h, if_neg one_ne, cl_s (goatG_c _ hI.R), b2i_f h2, if_pos rfl, cl_s (fo1 S)]
      · intro S1 hS1
        have e42 : S1 42 = S 42 := by rw [hS1]; exact up2_qn (by omega)
        unfold fX5_meet fX5_meet_L21
        rw [cl_s (goatG_m _ _), e42, b2i_t h, if_neg one_ne, cl_s (goatG_m _ _), e42, b2i_f h2, if_pos rfl, cl_s (fq1 S1)]
  · refine hI.bad ?_ ?_
    · unfold fX4_meet fX4_meet_L21
      rw [cl_s (goatG_c _ hI.R), b2i_f h, if_pos rfl, cl_s (fo1 S)]
    · intro S1 hS1
      have e42 : S1 42 = S 42 := by rw [hS1]; exact up2_qn (by omega)
      unfold fX5_meet fX5_meet_L21
      rw [cl_s (goatG_m _ _), e42, b2i_f h, if_pos rfl, cl_s (fq1 S1)]
