/-! The operations, one by one: first what is read and what is set. -/
theorem fo1 (S : St) : fX4_found (-1000001) S = some (-1000001, cnC 0 S) := found_c (by decide) (by decide) S
theorem fq1 (S : St) : fX5_finds (-1000001) S = some (-1000001, cnM 0 S) := finds_m (by decide) (by decide) S
theorem fo2 (S : St) : fX4_found (-1000002) S = some (-1000002, cnC 1 S) := found_c (by decide) (by decide) S
theorem fq2 (S : St) : fX5_finds (-1000002) S = some (-1000002, cnM 1 S) := finds_m (by decide) (by decide) S
theorem fo3 (S : St) : fX4_found (-1000003) S = some (-1000003, cnC 2 S) := found_c (by decide) (by decide) S
theorem fq3 (S : St) : fX5_finds (-1000003) S = some (-1000003, cnM 2 S) := finds_m (by decide) (by decide) S
theorem fo4 (S : St) : fX4_found (-1000004) S = some (-1000004, cnC 3 S) := found_c (by decide) (by decide) S
theorem fq4 (S : St) : fX5_finds (-1000004) S = some (-1000004, cnM 3 S) := finds_m (by decide) (by decide) S
/-- a bad call, refused by both -/
theorem Inv.bad {n : Nat} {S : St} (h : Inv n S) {f g : St → Option (Int32 × St)} (hf : f S = some (-1000001, cnC 0 S)) (hg : ∀ S1 : St, S1 = cnC 0 S → g S1 = some (-1000001, cnM 0 S1)) : ∃ (r : Int32) (S1 S2 : St), f S = some (r, S1) ∧ g S1 = some (r, S2) ∧ Inv (n + 1) S2 :=
  ⟨_, _, _, hf, hg _ rfl, h.cn (by decide)⟩
/-- nothing changed -/
theorem Inv.sme {n : Nat} {S : St} (h : Inv n S) {f g : St → Option (Int32 × St)} {r : Int32} (hf : f S = some (r, S)) (hg : g S = some (r, S)) : ∃ (r : Int32) (S1 S2 : St), f S = some (r, S1) ∧ g S1 = some (r, S2) ∧ Inv (n + 1) S2 :=
  ⟨_, _, _, hf, hg, inv_stay _ _ h⟩
theorem eq_who : EQ1 Inv fX4_who fX5_who := by
  intro n S a1 hI hn
  by_cases h : inR a1 16
  · obtain ⟨p, hp, rfl⟩ := inR_n (m := 16) (by decide) h
    refine hI.sme (r := whF (S 42) 0 p (nN (S 42))) ?_ ?_
    · unfold fX4_who
      rw [cl_s (pageG_c _ S), b2i_t h, if_neg one_ne, cl_s (who_c hI.R hI.V (by omega))]
    · unfold fX5_who
      rw [cl_s (pageG_m _ S), b2i_t h, if_neg one_ne, who_m hI.V (by omega)]
  · refine hI.bad ?_ ?_
    · unfold fX4_who
      rw [cl_s (pageG_c _ S), b2i_f h, if_pos rfl, cl_s (fo1 S)]
    · intro S1 _
      unfold fX5_who
      rw [cl_s (pageG_m _ S1), b2i_f h, if_pos rfl, cl_s (fq1 S1)]
theorem eq_now : EQ1 Inv fX4_now fX5_now := by
  intro n S a1 hI hn
  by_cases h0 : a1 = 0
  · refine hI.sme (r := S 42 1) ?_ ?_
    · unfold fX4_now
      rw [if_pos h0, hI.R.dy]
    · unfold fX5_now
      rw [if_pos h0, rd1]
  by_cases h1 : a1 = 1
  · refine hI.sme (r := kaF (S 42) 0) ?_ ?_
    · unfold fX4_now
      rw [if_neg h0, if_pos h1, cl_s (pkn_eq hI.R hI.V)]
    · unfold fX5_now
      rw [if_neg h0, if_pos h1, cl_s (ka_eq hI.V)]
  by_cases h2 : a1 = 2
  · refine hI.sme (r := 65535 &&& (kaF (S 42) 0 ^^^ (-1))) ?_ ?_
    · unfold fX4_now
      rw [if_neg h0, if_neg h1, if_pos h2, cl_s (pkn_eq hI.R hI.V)]
    · unfold fX5_now
      rw [if_neg h0, if_neg h1, if_pos h2, cl_s (ka_eq hI.V)]
  by_cases h3 : a1 = 3
  · refine hI.sme (r := gsF (S 42) 12) ?_ ?_
    · unfold fX4_now
      rw [if_neg h0, if_neg h1, if_neg h2, if_pos h3, cl_s (grassAll_c hI.R)]
    · unfold fX5_now
      rw [if_neg h0, if_neg h1, if_neg h2, if_pos h3, cl_s (grassAll_m S)]
  by_cases h4 : a1 = 4
  · refine hI.sme (r := fsF (S 42) (nN (S 42))) ?_ ?_
    · unfold fX4_now
      rw [if_neg h0, if_neg h1, if_neg h2, if_neg h3, if_pos h4, cl_s (fedAll_c hI.R hI.V)]
    · unfold fX5_now
      rw [if_neg h0, if_neg h1, if_neg h2, if_neg h3, if_pos h4, fedAll_m hI.V]
  by_cases h5 : a1 = 5
  · refine hI.sme (r := lsF (S 42) (nN (S 42))) ?_ ?_
    · unfold fX4_now
      rw [if_neg h0, if_neg h1, if_neg h2, if_neg h3, if_neg h4, if_pos h5, cl_s (lived_c hI.R hI.V)]
    · unfold fX5_now
      rw [if_neg h0, if_neg h1, if_neg h2, if_neg h3, if_neg h4, if_pos h5, cl_s (lived_m hI.V)]
  by_cases h6 : a1 = 6
  · refine hI.sme (r := wsI (S 42)) ?_ ?_
    · unfold fX4_now
      rw [if_neg h0, if_neg h1, if_neg h2, if_neg h3, if_neg h4, if_neg h5, if_pos h6, cl_s (wisest_c hI.R hI.V)]
    · unfold fX5_now
      rw [if_neg h0, if_neg h1, if_neg h2, if_neg h3, if_neg h4, if_neg h5, if_pos h6, cl_s (wisest_m hI.V)]
  refine hI.bad ?_ ?_
  · unfold fX4_now
    rw [if_neg h0, if_neg h1, if_neg h2, if_neg h3, if_neg h4, if_neg h5, if_neg h6, cl_s (fo1 S)]
  · intro S1 _
    unfold fX5_now
    rw [if_neg h0, if_neg h1, if_neg h2, if_neg h3, if_neg h4, if_neg h5, if_neg h6, cl_s (fq1 S1)]
theorem isIn2 (a : Int32) (S : St) : fX5_isIn a.toInt64 0 2 S = some (b2i (inR a 3), S) := isIn_n a 2 (by decide) rfl S
theorem within2 (a : Int32) (S : St) : fX4_isWithin a 2 S = some (b2i (inR a 3), S) := within_n a 2 (by decide) S
theorem isIn99 (a : Int32) (S : St) : fX5_isIn a.toInt64 0 99 S = some (b2i (inR a 100), S) := isIn_n a 99 (by decide) rfl S
theorem within99 (a : Int32) (S : St) : fX4_isWithin a 99 S = some (b2i (inR a 100), S) := within_n a 99 (by decide) S
theorem isIn20 (a : Int32) (S : St) : fX5_isIn a.toInt64 0 20 S = some (b2i (inR a 21), S) := isIn_n a 20 (by decide) rfl S
theorem within20 (a : Int32) (S : St) : fX4_isWithin a 20 S = some (b2i (inR a 21), S) := within_n a 20 (by decide) S
theorem isIn9999 (a : Int32) (S : St) : fX5_isIn a.toInt64 0 9999 S = some (b2i (inR a 10000), S) := isIn_n a 9999 (by decide) rfl S
theorem within9999 (a : Int32) (S : St) : fX4_isWithin a 9999 S = some (b2i (inR a 10000), S) := within_n a 9999 (by decide) S
theorem isIn6 (a : Int32) (S : St) : fX5_isIn a.toInt64 0 6 S = some (b2i (inR a 7), S) := isIn_n a 6 (by decide) rfl S
theorem isIn1 (a : Int32) (S : St) : fX5_isIn a.toInt64 0 1 S = some (b2i (inR a 2), S) := isIn_n a 1 (by decide) rfl S
theorem eq_ledge : EQ2 Inv fX4_ledge fX5_ledge := by
  intro n S a1 a2 hI hn
  by_cases h : inR a1 12
  · by_cases h2 : inR a2 3
    · obtain ⟨l, hl, rfl⟩ := inR_n (m := 12) (by decide) h
      by_cases c0 : a2 = 0
      · refine hI.sme (r := S 42 (5 + l)) ?_ ?_
        · unfold fX4_ledge
          rw [cl_s (ledgeG_c _ S), b2i_t h, if_neg one_ne, cl_s (within2 _ S), b2i_t h2, if_neg one_ne, if_pos c0, rd_n hl (by decide), hI.R.gr hl]
        · unfold fX5_ledge fX5_ledge_L63
          rw [cl_s (ledgeG_m _ S), b2i_t h, if_neg one_ne, cl_s (isIn2 _ S), b2i_t h2, if_neg one_ne, if_pos c0, n5, rd_n (by omega) (by decide)]
      by_cases c1 : a2 = 1
      · refine hI.sme (r := onF (S 42) 0 (nI l) (nN (S 42))) ?_ ?_
        · unfold fX4_ledge
          rw [cl_s (ledgeG_c _ S), b2i_t h, if_neg one_ne, cl_s (within2 _ S), b2i_t h2, if_neg one_ne, if_neg c0, if_pos c1, cl_s (on_eq _ hI.R hI.V)]
        · unfold fX5_ledge fX5_ledge_L63
          rw [cl_s (ledgeG_m _ S), b2i_t h, if_neg one_ne, cl_s (isIn2 _ S), b2i_t h2, if_neg one_ne, if_neg c0, if_pos c1, cl_s (there_eq _ hI.V)]
      refine hI.sme (r := knF (S 42) (onF (S 42) 0 (nI l) (nN (S 42))) (nN (S 42))) ?_ ?_
      · unfold fX4_ledge
        rw [cl_s (ledgeG_c _ S), b2i_t h, if_neg one_ne, cl_s (within2 _ S), b2i_t h2, if_neg one_ne, if_neg c0, if_neg c1, cl_s (pon_eq _ hI.R hI.V)]
      · unfold fX5_ledge fX5_ledge_L63
        rw [cl_s (ledgeG_m _ S), b2i_t h, if_neg one_ne, cl_s (isIn2 _ S), b2i_t h2, if_neg one_ne, if_neg c0, if_neg c1, cl_s (there_eq _ hI.V), cl_s (known_eq _ hI.V)]
    · refine hI.bad ?_ ?_
      · unfold fX4_ledge fX4_ledge_L15
        rw [cl_s (ledgeG_c _ S), b2i_t h, if_neg one_ne, cl_s (within2 _ S), b2i_f h2, if_pos rfl, cl_s (fo1 S)]
      · intro S1 _
        unfold fX5_ledge fX5_ledge_L19
        rw [cl_s (ledgeG_m _ S1), b2i_t h, if_neg one_ne, cl_s (isIn2 _ S1), b2i_f h2, if_pos rfl, cl_s (fq1 S1)]
  · refine hI.bad ?_ ?_
    · unfold fX4_ledge fX4_ledge_L15
      rw [cl_s (ledgeG_c _ S), b2i_f h, if_pos rfl, cl_s (fo1 S)]
    · intro S1 _
      unfold fX5_ledge fX5_ledge_L19
      rw [cl_s (ledgeG_m _ S1), b2i_f h, if_pos rfl, cl_s (fq1 S1)]
theorem becomes_n {S : St} {k : Nat} (hk : k < 75) (v : Int32) : fX5_becomes (nI k) v S = some (S 42 k, up2 S 42 k v) := by
  unfold fX5_becomes
  rw [rd_n hk (by decide), wr_n hk (by decide)]
/-- a place of the row that is neither a goat's nor a spot's, nor the number of goats, nor the day -/
theorem RwI.lo {n k : Nat} {T : Row} {v : Int32} (h : RwI n T) (h2 : 2 ≤ k) (h17 : k < 17) : RwI n (upd T k v) := by
  obtain ⟨a, ⟨d, d1, d2⟩, c⟩ := h
  have e0 : upd T k v 0 = T 0 := upd_n (by omega)
  refine ⟨a.to e0 (fun g hg => ⟨Or.inl (upd_n (by omega)), Or.inl (upd_n (by omega)), Or.inl (upd_n (by omega))⟩), ⟨d, d1, ?_⟩, ?_⟩
  · rw [upd_n (by omega)]
    exact d2
  · intro j hj
    rw [upd_n (by omega), nN_eq e0]
    exact c j hj
/-- one place of the cliff and the same of the row -/
theorem Inv.w1 {n i k kk : Nat} {S : St} {v : Int32} (h : Inv n S) (hi : i < 9) (hR : Rep 1 (upd (S 42) kk v) 0 (up2 S (1 + i) k v)) (hT : RwI (n + 1) (upd (S 42) kk v)) : Inv (n + 1) (up2 (up2 S (1 + i) k v) 42 kk v) := by
  refine h.row (T := upd (S 42) kk v) (m := n + 1) (fun q h1 h2 h3 h4 h5 => ?_) ?_ ?_ hT (Nat.le_refl _)
  · rw [up2_qn h3, up2_qn (by omega)]
  · rw [up2_qq, up2_qn (by omega)]
  · exact hR.fr (fun j hj => up2_qn (by omega))
theorem eq_grass : EQ2 Inv fX4_grass fX5_grass := by
  intro n S a1 a2 hI hn
  by_cases h : inR a1 12
  · by_cases h2 : inR a2 100
    · obtain ⟨l, hl, rfl⟩ := inR_n (m := 12) (by decide) h
      refine ⟨S 42 (5 + l), up2 S (1 + 1) l a2, up2 (up2 S (1 + 1) l a2) 42 (5 + l) a2, ?_, ?_, hI.w1 (i := 1) (by omega) (hI.R.s_gr hl) (hI.1.1.up.lo (by omega) (by omega))⟩
      · unfold fX4_grass
        rw [cl_s (ledgeG_c _ S), b2i_t h, if_neg one_ne, cl_s (within99 _ S), b2i_t h2, if_neg one_ne, rd_n hl (by decide), wr_n hl (by decide), hI.R.gr hl]
      · unfold fX5_grass fX5_grass_L36
        rw [cl_s (ledgeG_m _ _), b2i_t h, if_neg one_ne, cl_s (isIn99 _ _), b2i_t h2, if_neg one_ne, n5, cl_s (becomes_n (by omega) _), up2_qn (a := 42) (by omega)]
    · refine hI.bad ?_ ?_
      · unfold fX4_grass fX4_grass_L16
        rw [cl_s (ledgeG_c _ S), b2i_t h, if_neg one_ne, cl_s (within99 _ S), b2i_f h2, if_pos rfl, cl_s (fo1 S)]
      · intro S1 _
        unfold fX5_grass fX5_grass_L30 fX5_grass_L36
        rw [cl_s (ledgeG_m _ S1), b2i_t h, if_neg one_ne, cl_s (isIn99 _ S1), b2i_f h2, if_pos rfl, cl_s (fq1 S1)]
  · refine hI.bad ?_ ?_
    · unfold fX4_grass fX4_grass_L16
      rw [cl_s (ledgeG_c _ S), b2i_f h, if_pos rfl, cl_s (fo1 S)]
    · intro S1 _
      unfold fX5_grass fX5_grass_L30 fX5_grass_L36
      rw [cl_s (ledgeG_m _ S1), b2i_f h, if_pos rfl, cl_s (fq1 S1)]
theorem set_c0 (a2 : Int32) (S : St) (h : ¬ inR a2 21) : fX4_set 0 a2 S = some (-1000001, cnC 0 S) := by
  unfold fX4_set fX4_set_L31 fX4_set_L64
  rw [if_pos rfl, cl_s (within20 _ S), b2i_f h, if_pos rfl, if_neg (by decide), cl_s (fo1 S)]
theorem eq_set : EQ2 Inv fX4_set fX5_set := by
  intro n S a1 a2 hI hn
  by_cases c0 : a1 = 0
  · subst c0
    by_cases h2 : inR a2 21
    · refine ⟨S 42 3, up2 S (1 + 0) 10 a2, up2 (up2 S (1 + 0) 10 a2) 42 3 a2, ?_, ?_, hI.w1 (i := 0) (by omega) hI.R.s_gw (hI.1.1.up.lo (by omega) (by omega))⟩
      · unfold fX4_set
        rw [if_pos rfl, cl_s (within20 _ S), b2i_t h2, if_neg one_ne, bnd_s, bnd_s, hI.R.gw]
      · unfold fX5_set fX5_set_L26 fX5_set_L49
        rw [cl_s (isIn1 _ _), b2i_t (by decide), if_neg one_ne, if_pos rfl, cl_s (isIn20 _ _), b2i_t h2, if_neg one_ne, show (3 + 0 : Int32) = nI 3 from rfl, cl_s (becomes_n (by omega) _), up2_qn (a := 42) (by omega)]
    · refine hI.bad (set_c0 a2 S h2) ?_
      intro S1 _
      unfold fX5_set fX5_set_L26 fX5_set_L43 fX5_set_L49
      rw [cl_s (isIn1 _ _), b2i_t (by decide), if_neg one_ne, if_pos rfl, cl_s (isIn20 _ _), b2i_f h2, if_pos rfl, cl_s (fq1 S1)]
  by_cases c1 : a1 = 1
  · subst c1
    by_cases h2 : inR a2 10000
    · refine ⟨S 42 4, up2 S (1 + 0) 11 a2, up2 (up2 S (1 + 0) 11 a2) 42 4 a2, ?_, ?_, hI.w1 (i := 0) (by omega) hI.R.s_sa (hI.1.1.up.lo (by omega) (by omega))⟩
      · unfold fX4_set fX4_set_L31
        rw [if_neg c0, if_pos rfl, cl_s (within9999 _ S), b2i_t h2, if_neg one_ne, bnd_s, bnd_s, hI.R.sa]
      · unfold fX5_set fX5_set_L26 fX5_set_L49
        rw [cl_s (isIn1 _ _), b2i_t (by decide), if_neg one_ne, if_neg c0, cl_s (isIn9999 _ _), b2i_t h2, if_neg one_ne, show (3 + 1 : Int32) = nI 4 from rfl, cl_s (becomes_n (by omega) _), up2_qn (a := 42) (by omega)]
    · refine hI.bad ?_ ?_
      · unfold fX4_set fX4_set_L31 fX4_set_L64
        rw [if_neg c0, if_pos rfl, cl_s (within9999 _ S), b2i_f h2, if_pos rfl, cl_s (fo1 S)]
      · intro S1 _
        unfold fX5_set fX5_set_L26 fX5_set_L43 fX5_set_L49
        rw [cl_s (isIn1 _ _), b2i_t (by decide), if_neg one_ne, if_neg c0, cl_s (isIn9999 _ _), b2i_f h2, if_pos rfl, cl_s (fq1 S1)]
  have h : ¬ inR a1 2 := by
    intro q
    obtain ⟨j, hj, e⟩ := inR_n (m := 2) (by decide) q
    have hj' : j = 0 ∨ j = 1 := by omega
    rcases hj' with rfl | rfl
    · exact c0 e
    · exact c1 e
  refine hI.bad ?_ ?_
  · unfold fX4_set fX4_set_L31 fX4_set_L64
    rw [if_neg c0, if_neg c1, cl_s (fo1 S)]
  · intro S1 _
    unfold fX5_set fX5_set_L43 fX5_set_L49
    rw [cl_s (isIn1 _ _), b2i_f h, if_pos rfl, cl_s (fq1 S1)]
