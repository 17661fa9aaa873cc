/-! count -/
theorem Inv.tp {n : Nat} {S : St} (h : Inv n S) : S 28 1 = S 41 7 := by
  obtain ⟨t, t1, t2, t3, t4⟩ := h.2.2.1
  rw [t2, t3]
theorem eq_count : EQ1 Inv fX4_count fX5_count := by
  intro n S a1 hI hn
  obtain ⟨w, hw, ew⟩ := hI.V.knF (0 ^^^ (-1))
  have ew2 : kaF (S 42) 0 = nI w := ew
  have sp1 : fX0_spotsInUse 1 S = some (spF (S 42) 10, S) := sp_c hI.R FU 0 (by omega) (by unfold FU; omega)
  have sp2 : fX5_count_L96 FU 0 0 S = some (spF (S 42) 10, S) := sp_m FU 0 (by omega) (by unfold FU; omega)
  by_cases h0 : a1 = 0
  · refine hI.sme (r := S 42 1) ?_ ?_
    · unfold fX4_count
      rw [if_pos h0, hI.R.dy]
    · unfold fX5_count
      rw [if_pos h0, rd1]
  by_cases h1 : a1 = 1
  · refine hI.sme (r := S 42 0) ?_ ?_
    · unfold fX4_count
      rw [if_neg h0, if_pos h1, hI.R.n]
    · unfold fX5_count
      rw [if_neg h0, if_pos h1, rd0]
  by_cases h2 : a1 = 2
  · refine hI.sme (r := nI (bcN w)) ?_ ?_
    · unfold fX4_count
      rw [if_neg h0, if_neg h1, if_pos h2, cl_s (pkn_eq hI.R hI.V), ew2, cl_s (bitCount_eq hw S)]
    · unfold fX5_count
      rw [if_neg h0, if_neg h1, if_pos h2, cl_s (ka_eq hI.V), ew2, cl_s (many_eq hw S)]
  by_cases h3 : a1 = 3
  · refine hI.sme (r := S 42 4) ?_ ?_
    · unfold fX4_count
      rw [if_neg h0, if_neg h1, if_neg h2, if_pos h3, hI.R.sa]
    · unfold fX5_count
      rw [if_neg h0, if_neg h1, if_neg h2, if_pos h3, rd4]
  by_cases h4 : a1 = 4
  · refine hI.sme (r := gsF (S 42) 12) ?_ ?_
    · unfold fX4_count
      rw [if_neg h0, if_neg h1, if_neg h2, if_neg h3, if_pos h4, cl_s (grassAll_c hI.R)]
    · unfold fX5_count
      rw [if_neg h0, if_neg h1, if_neg h2, if_neg h3, if_pos h4, cl_s (grassAll_m S)]
  by_cases h5 : a1 = 5
  · refine hI.sme (r := S 28 1) ?_ ?_
    · unfold fX4_count
      rw [if_neg h0, if_neg h1, if_neg h2, if_neg h3, if_neg h4, if_pos h5]
    · unfold fX5_count
      rw [if_neg h0, if_neg h1, if_neg h2, if_neg h3, if_neg h4, if_pos h5, hI.tp]
  by_cases h6 : a1 = 6
  · refine hI.sme (r := S 42 2) ?_ ?_
    · unfold fX4_count
      rw [if_neg h0, if_neg h1, if_neg h2, if_neg h3, if_neg h4, if_neg h5, if_pos h6, hI.R.zz]
    · unfold fX5_count
      rw [if_neg h0, if_neg h1, if_neg h2, if_neg h3, if_neg h4, if_neg h5, if_pos h6, rd2]
  by_cases h7 : a1 = 7
  · refine hI.sme (r := spF (S 42) 10) ?_ ?_
    · unfold fX4_count
      rw [if_neg h0, if_neg h1, if_neg h2, if_neg h3, if_neg h4, if_neg h5, if_neg h6, if_pos h7, cl_s sp1]
    · unfold fX5_count
      rw [if_neg h0, if_neg h1, if_neg h2, if_neg h3, if_neg h4, if_neg h5, if_neg h6, if_pos h7, sp2]
  refine hI.bad ?_ ?_
  · unfold fX4_count
    rw [if_neg h0, if_neg h1, if_neg h2, if_neg h3, if_neg h4, if_neg h5, if_neg h6, if_neg h7, cl_s (fo1 S)]
  · intro S1 _
    unfold fX5_count
    rw [if_neg h0, if_neg h1, if_neg h2, if_neg h3, if_neg h4, if_neg h5, if_neg h6, if_neg h7, cl_s (fq1 S1)]
