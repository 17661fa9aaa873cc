/-! The operations, one by one: first what is read and what is set. -/
theorem fo1 (S : St) : fX4_found (-1000001) S = some (-1000001, cnC 0 S) := found_c (by decide) (by decide) S
theorem fm1 (S : St) : fX5_finds (-1000001) S = some (-1000001, cnM 0 S) := finds_m (by decide) (by decide) S
theorem fo2 (S : St) : fX4_found (-1000002) S = some (-1000002, cnC 1 S) := found_c (by decide) (by decide) S
theorem fm2 (S : St) : fX5_finds (-1000002) S = some (-1000002, cnM 1 S) := finds_m (by decide) (by decide) S
theorem fo3 (S : St) : fX4_found (-1000003) S = some (-1000003, cnC 2 S) := found_c (by decide) (by decide) S
theorem fm3 (S : St) : fX5_finds (-1000003) S = some (-1000003, cnM 2 S) := finds_m (by decide) (by decide) S
theorem fo4 (S : St) : fX4_found (-1000004) S = some (-1000004, cnC 3 S) := found_c (by decide) (by decide) S
theorem fm4 (S : St) : fX5_finds (-1000004) S = some (-1000004, cnM 3 S) := finds_m (by decide) (by decide) S
/-- a bad call, refused by both -/
theorem Inv.bad {n : Nat} {S : St} (h : Inv n S) {f g : St → Option (Int32 × St)} (hf : f S = some (-1000001, cnC 0 S)) (hg : ∀ S1 : St, S1 = cnC 0 S → g S1 = some (-1000001, cnM 0 S1)) : ∃ (r : Int32) (S1 S2 : St), f S = some (r, S1) ∧ g S1 = some (r, S2) ∧ Inv (n + 1) S2 :=
  ⟨_, _, _, hf, hg _ rfl, h.cn (by decide)⟩
/-- nothing changed -/
theorem Inv.sme {n : Nat} {S : St} (h : Inv n S) {f g : St → Option (Int32 × St)} {r : Int32} (hf : f S = some (r, S)) (hg : g S = some (r, S)) : ∃ (r : Int32) (S1 S2 : St), f S = some (r, S1) ∧ g S1 = some (r, S2) ∧ Inv (n + 1) S2 :=
  ⟨_, _, _, hf, hg, inv_stay _ _ h⟩
theorem eq_who : EQ1 Inv fX4_who fX5_who := by
  intro n S a1 hI hn
  by_cases h : inR a1 16
  · obtain ⟨p, hp, rfl⟩ := inR_n (m := 16) (by decide) h
    refine hI.sme (r := whF (S 42) 0 p (nN (S 42))) ?_ ?_
    · unfold fX4_who
      rw [cl_s (pageG_c _ S), b2i_t h, if_neg one_ne, cl_s (who_c hI.R hI.V (by omega))]
    · unfold fX5_who
      rw [cl_s (pageG_m _ S), b2i_t h, if_neg one_ne, who_m hI.V (by omega)]
  · refine hI.bad ?_ ?_
    · unfold fX4_who
      rw [cl_s (pageG_c _ S), b2i_f h, if_pos rfl, cl_s (fo1 S)]
    · intro S1 _
      unfold fX5_who
      rw [cl_s (pageG_m _ S1), b2i_f h, if_pos rfl, cl_s (fm1 S1)]
theorem eq_now : EQ1 Inv fX4_now fX5_now := by
  intro n S a1 hI hn
  by_cases h0 : a1 = 0
  · refine hI.sme (r := S 42 1) ?_ ?_
    · unfold fX4_now
      rw [if_pos h0, hI.R.dy]
    · unfold fX5_now
      rw [if_pos h0, rd1]
  by_cases h1 : a1 = 1
  · refine hI.sme (r := kaF (S 42) 0) ?_ ?_
    · unfold fX4_now
      rw [if_neg h0, if_pos h1, cl_s (pkn_eq hI.R hI.V)]
    · unfold fX5_now
      rw [if_neg h0, if_pos h1, cl_s (ka_eq hI.V)]
  by_cases h2 : a1 = 2
  · refine hI.sme (r := 65535 &&& (kaF (S 42) 0 ^^^ (-1))) ?_ ?_
    · unfold fX4_now
      rw [if_neg h0, if_neg h1, if_pos h2, cl_s (pkn_eq hI.R hI.V)]
    · unfold fX5_now
      rw [if_neg h0, if_neg h1, if_pos h2, cl_s (ka_eq hI.V)]
  by_cases h3 : a1 = 3
  · refine hI.sme (r := gsF (S 42) 12) ?_ ?_
    · unfold fX4_now
      rw [if_neg h0, if_neg h1, if_neg h2, if_pos h3, cl_s (grassAll_c hI.R)]
    · unfold fX5_now
      rw [if_neg h0, if_neg h1, if_neg h2, if_pos h3, cl_s (grassAll_m S)]
  by_cases h4 : a1 = 4
  · refine hI.sme (r := fsF (S 42) (nN (S 42))) ?_ ?_
    · unfold fX4_now
      rw [if_neg h0, if_neg h1, if_neg h2, if_neg h3, if_pos h4, cl_s (fedAll_c hI.R hI.V)]
    · unfold fX5_now
      rw [if_neg h0, if_neg h1, if_neg h2, if_neg h3, if_pos h4, fedAll_m hI.V]
  by_cases h5 : a1 = 5
  · refine hI.sme (r := lsF (S 42) (nN (S 42))) ?_ ?_
    · unfold fX4_now
      rw [if_neg h0, if_neg h1, if_neg h2, if_neg h3, if_neg h4, if_pos h5, cl_s (lived_c hI.R hI.V)]
    · unfold fX5_now
      rw [if_neg h0, if_neg h1, if_neg h2, if_neg h3, if_neg h4, if_pos h5, cl_s (lived_m hI.V)]
  by_cases h6 : a1 = 6
  · refine hI.sme (r := wsI (S 42)) ?_ ?_
    · unfold fX4_now
      rw [if_neg h0, if_neg h1, if_neg h2, if_neg h3, if_neg h4, if_neg h5, if_pos h6, cl_s (wisest_c hI.R hI.V)]
    · unfold fX5_now
      rw [if_neg h0, if_neg h1, if_neg h2, if_neg h3, if_neg h4, if_neg h5, if_pos h6, cl_s (wisest_m hI.V)]
  refine hI.bad ?_ ?_
  · unfold fX4_now
    rw [if_neg h0, if_neg h1, if_neg h2, if_neg h3, if_neg h4, if_neg h5, if_neg h6, cl_s (fo1 S)]
  · intro S1 _
    unfold fX5_now
    rw [if_neg h0, if_neg h1, if_neg h2, if_neg h3, if_neg h4, if_neg h5, if_neg h6, cl_s (fm1 S1)]
theorem isIn2 (a : Int32) (S : St) : fX5_isIn a.toInt64 0 2 S = some (b2i (inR a 3), S) := isIn_n a 2 (by decide) rfl S
theorem within2 (a : Int32) (S : St) : fX4_isWithin a 2 S = some (b2i (inR a 3), S) := within_n a 2 (by decide) S
theorem isIn99 (a : Int32) (S : St) : fX5_isIn a.toInt64 0 99 S = some (b2i (inR a 100), S) := isIn_n a 99 (by decide) rfl S
theorem within99 (a : Int32) (S : St) : fX4_isWithin a 99 S = some (b2i (inR a 100), S) := within_n a 99 (by decide) S
theorem isIn20 (a : Int32) (S : St) : fX5_isIn a.toInt64 0 20 S = some (b2i (inR a 21), S) := isIn_n a 20 (by decide) rfl S
theorem within20 (a : Int32) (S : St) : fX4_isWithin a 20 S = some (b2i (inR a 21), S) := within_n a 20 (by decide) S
theorem isIn9999 (a : Int32) (S : St) : fX5_isIn a.toInt64 0 9999 S = some (b2i (inR a 10000), S) := isIn_n a 9999 (by decide) rfl S
theorem within9999 (a : Int32) (S : St) : fX4_isWithin a 9999 S = some (b2i (inR a 10000), S) := within_n a 9999 (by decide) S
theorem isIn6 (a : Int32) (S : St) : fX5_isIn a.toInt64 0 6 S = some (b2i (inR a 7), S) := isIn_n a 6 (by decide) rfl S
theorem isIn1 (a : Int32) (S : St) : fX5_isIn a.toInt64 0 1 S = some (b2i (inR a 2), S) := isIn_n a 1 (by decide) rfl S
theorem eq_ledge : EQ2 Inv fX4_ledge fX5_ledge := by
  intro n S a1 a2 hI hn
  by_cases h : inR a1 12
  · by_cases h2 : inR a2 3
    · obtain ⟨l, hl, rfl⟩ := inR_n (m := 12) (by decide) h
      by_cases c0 : a2 = 0
      · refine hI.sme (r := S 42 (5 + l)) ?_ ?_
        · unfold fX4_ledge
          rw [cl_s (ledgeG_c _ S), b2i_t h, if_neg one_ne, cl_s (within2 _ S), b2i_t h2, if_neg one_ne, if_pos c0, rd_n hl (by decide), hI.R.gr hl]
        · unfold fX5_ledge fX5_ledge_L63
          rw [cl_s (ledgeG_m _ S), b2i_t h, if_neg one_ne, cl_s (isIn2 _ S), b2i_t h2, if_neg one_ne, if_pos c0, n5, rd_n (by omega) (by decide)]
      by_cases c1 : a2 = 1
      · refine hI.sme (r := onF (S 42) 0 (nI l) (nN (S 42))) ?_ ?_
        · unfold fX4_ledge
          rw [cl_s (ledgeG_c _ S), b2i_t h, if_neg one_ne, cl_s (within2 _ S), b2i_t h2, if_neg one_ne, if_neg c0, if_pos c1, cl_s (on_eq _ hI.R hI.V)]
        · unfold fX5_ledge fX5_ledge_L63
          rw [cl_s (ledgeG_m _ S), b2i_t h, if_neg one_ne, cl_s (isIn2 _ S), b2i_t h2, if_neg one_ne, if_neg c0, if_pos c1, cl_s (there_eq _ hI.V)]
      refine hI.sme (r := knF (S 42) (onF (S 42) 0 (nI l) (nN (S 42))) (nN (S 42))) ?_ ?_
      · unfold fX4_ledge
        rw [cl_s (ledgeG_c _ S), b2i_t h, if_neg one_ne, cl_s (within2 _ S), b2i_t h2, if_neg one_ne, if_neg c0, if_neg c1, cl_s (pon_eq _ hI.R hI.V)]
      · unfold fX5_ledge fX5_ledge_L63
        rw [cl_s (ledgeG_m _ S), b2i_t h, if_neg one_ne, cl_s (isIn2 _ S), b2i_t h2, if_neg one_ne, if_neg c0, if_neg c1, cl_s (there_eq _ hI.V), cl_s (known_eq _ hI.V)]
    · refine hI.bad ?_ ?_
      · unfold fX4_ledge fX4_ledge_L15
        rw [cl_s (ledgeG_c _ S), b2i_t h, if_neg one_ne, cl_s (within2 _ S), b2i_f h2, if_pos rfl, cl_s (fo1 S)]
      · intro S1 _
        unfold fX5_ledge fX5_ledge_L19
        rw [cl_s (ledgeG_m _ S1), b2i_t h, if_neg one_ne, cl_s (isIn2 _ S1), b2i_f h2, if_pos rfl, cl_s (fm1 S1)]
  · refine hI.bad ?_ ?_
    · unfold fX4_ledge fX4_ledge_L15
      rw [cl_s (ledgeG_c _ S), b2i_f h, if_pos rfl, cl_s (fo1 S)]
    · intro S1 _
      unfold fX5_ledge fX5_ledge_L19
      rw [cl_s (ledgeG_m _ S1), b2i_f h, if_pos rfl, cl_s (fm1 S1)]
