/-! of, ask -/
theorem isIn9 (a : Int32) (S : St) : fX5_isIn a.toInt64 0 9 S = some (b2i (inR a 10), S) := isIn_n a 9 (by decide) rfl S
theorem within9 (a : Int32) (S : St) : fX4_isWithin a 9 S = some (b2i (inR a 10), S) := within_n a 9 (by decide) S
theorem eq_of : EQ2 Inv fX4_of fX5_of := by
  intro n S a1 a2 hI hn
  by_cases h : inR a1 (S 42 0)
  · by_cases h2 : inR a2 10
    · obtain ⟨g, hg, hgn, rfl⟩ := goatN hI h
      by_cases c6 : a2 = 6
      · refine hI.sme (r := csT (S 42) g) ?_ ?_
        · unfold fX4_of
          rw [cl_s (goatG_c _ hI.R), b2i_t h, if_neg one_ne, cl_s (within9 _ S), b2i_t h2, if_neg one_ne, if_pos c6, cl_s (costs_c hI.R hI.V hg)]
        · unfold fX5_of
          rw [cl_s (goatG_m _ _), b2i_t h, if_neg one_ne, cl_s (isIn9 _ S), b2i_t h2, if_neg one_ne, if_pos c6, cl_s (costs_m hI.V hg)]
      by_cases c7 : a2 = 7
      · refine hI.sme (r := grz (S 42 (17 + 6 * g))) ?_ ?_
        · unfold fX4_of
          rw [cl_s (goatG_c _ hI.R), b2i_t h, if_neg one_ne, cl_s (within9 _ S), b2i_t h2, if_neg one_ne, if_neg c6, if_pos c7, cl_s (grazes_c hI.R hg)]
        · unfold fX5_of
          rw [cl_s (goatG_m _ _), b2i_t h, if_neg one_ne, cl_s (isIn9 _ S), b2i_t h2, if_neg one_ne, if_neg c6, if_pos c7, cl_s (grazes_m hg S)]
      by_cases c8 : a2 = 8
      · refine hI.sme (r := nI (clT (S 42) g)) ?_ ?_
        · unfold fX4_of
          rw [cl_s (goatG_c _ hI.R), b2i_t h, if_neg one_ne, cl_s (within9 _ S), b2i_t h2, if_neg one_ne, if_neg c6, if_neg c7, if_pos c8, cl_s (climb_c hI.R hI.V hg)]
        · unfold fX5_of
          rw [cl_s (goatG_m _ _), b2i_t h, if_neg one_ne, cl_s (isIn9 _ S), b2i_t h2, if_neg one_ne, if_neg c6, if_neg c7, if_pos c8, cl_s (climb_m hI.V hg)]
      by_cases c9 : a2 = 9
      · refine hI.sme (r := qT (S 42) g) ?_ ?_
        · unfold fX4_of
          rw [cl_s (goatG_c _ hI.R), b2i_t h, if_neg one_ne, cl_s (within9 _ S), b2i_t h2, if_neg one_ne, if_neg c6, if_neg c7, if_neg c8, if_pos c9, cl_s (quotes_c hI.R hg)]
        · unfold fX5_of
          rw [cl_s (goatG_m _ _), b2i_t h, if_neg one_ne, cl_s (isIn9 _ S), b2i_t h2, if_neg one_ne, if_neg c6, if_neg c7, if_neg c8, if_pos c9, cl_s (quotes_m hI.V hg)]
      obtain ⟨w, hw, rfl⟩ := inR_n (m := 10) (by decide) h2
      have hw6 : w < 6 := by
        have d6 : w ≠ 6 := fun q => c6 (by rw [q]; rfl)
        have d7 : w ≠ 7 := fun q => c7 (by rw [q]; rfl)
        have d8 : w ≠ 8 := fun q => c8 (by rw [q]; rfl)
        have d9 : w ≠ 9 := fun q => c9 (by rw [q]; rfl)
        omega
      refine hI.sme (r := S 42 (17 + 6 * g + w)) ?_ ?_
      · unfold fX4_of
        rw [cl_s (goatG_c _ hI.R), b2i_t h, if_neg one_ne, cl_s (within9 _ S), b2i_t h2, if_neg one_ne, if_neg c6, if_neg c7, if_neg c8, if_neg c9, cl_s (trait_c hI.R hg hw6)]
      · unfold fX5_of
        rw [cl_s (goatG_m _ _), b2i_t h, if_neg one_ne, cl_s (isIn9 _ S), b2i_t h2, if_neg one_ne, if_neg c6, if_neg c7, if_neg c8, if_neg c9, cl_s (its_n hg hw6 S)]
    · refine hI.bad ?_ ?_
      · unfold fX4_of fX4_of_L17
        rw [cl_s (goatG_c _ hI.R), b2i_t h, if_neg one_ne, cl_s (within9 _ S), b2i_f h2, if_pos rfl, cl_s (fo1 S)]
      · intro S1 hS1
        have e42 : S1 42 = S 42 := by rw [hS1]; exact up2_qn (by omega)
        unfold fX5_of fX5_of_L20
        rw [cl_s (goatG_m _ _), e42, b2i_t h, if_neg one_ne, cl_s (isIn9 _ _), b2i_f h2, if_pos rfl, cl_s (fq1 S1)]
  · refine hI.bad ?_ ?_
    · unfold fX4_of fX4_of_L17
      rw [cl_s (goatG_c _ hI.R), b2i_f h, if_pos rfl, cl_s (fo1 S)]
    · intro S1 hS1
      have e42 : S1 42 = S 42 := by rw [hS1]; exact up2_qn (by omega)
      unfold fX5_of fX5_of_L20
      rw [cl_s (goatG_m _ _), e42, b2i_f h, if_pos rfl, cl_s (fq1 S1)]
theorem fo5 (S : St) : fX4_found (-1000005) S = some (-1000005, cnC 4 S) := found_c (by decide) (by decide) S
theorem fq5 (S : St) : fX5_finds (-1000005) S = some (-1000005, cnM 4 S) := finds_m (by decide) (by decide) S
/-- the row after asking goat j -/
def askT (T : Row) (j : Nat) : Row := upd (upd T 4 (T 4 - csT T j)) (22 + 6 * j) (mnI (T (22 + 6 * j) + 1) 9999)
theorem RwI.hi5 {n j : Nat} {T : Row} {v : Int32} (h : RwI n T) (hj : j < 8) : RwI n (upd T (22 + 6 * j) v) := by
  obtain ⟨a, ⟨d, d1, d2⟩, c⟩ := h
  have e0 : upd T (22 + 6 * j) v 0 = T 0 := upd_n (by omega)
  refine ⟨a.to e0 (fun g hg => ⟨Or.inl (upd_n (by omega)), Or.inl (upd_n (by omega)), Or.inl (upd_n (by omega))⟩), ⟨d, d1, ?_⟩, ?_⟩
  · rw [upd_n (by omega)]
    exact d2
  · intro k hk
    rw [upd_n (by omega), nN_eq e0]
    exact c k hk
theorem eq_ask : EQ1 Inv fX4_ask fX5_ask := by
  intro n S a1 hI hn
  have h8 := hI.V.n8
  by_cases h : inR a1 16
  · obtain ⟨p, hp, rfl⟩ := inR_n (m := 16) (by decide) h
    cases hc : chO (S 42) p (nN (S 42)) with
    | none =>
      have c : ¬ (0 : Int32) ≤ oI none := by decide
      refine ⟨-1000004, cnC 3 S, cnM 3 (cnC 3 S), ?_, ?_, hI.cn (by decide)⟩
      · unfold fX4_ask
        rw [cl_s (pageG_c _ S), b2i_t h, if_neg one_ne, cl_s (cheap_c hI.R hI.V (by omega)), hc, if_neg c, cl_s (fo4 S)]
      · have e42 : cnC 3 S 42 = S 42 := up2_qn (by omega)
        have q := cheap_m (S := cnC 3 S) (p := p) (by rw [e42]; exact hI.V) (by omega)
        rw [e42, hc] at q
        unfold fX5_ask
        rw [cl_s (pageG_m _ _), b2i_t h, if_neg one_ne, cl_s q, if_neg c, cl_s (fq4 _)]
    | some j =>
      have hj := chO_lt _ _ hc
      have c : (0 : Int32) ≤ oI (some j) := nI_le (a := 0) (b := j) (by omega) (by omega)
      have e : oI (some j) = nI j := rfl
      by_cases w : csT (S 42) j ≤ S 42 4
      · have q1 := hI.R.s_sa (v := S 42 4 - csT (S 42) j)
        have q2 := q1.s_aq (v := mnI (S 42 (22 + 6 * j) + 1) 9999) (k := j) (by omega)
        have q3 : Fr 1 S (up2 (up2 S 1 11 (S 42 4 - csT (S 42) j)) (1 + 7) j (mnI (S 42 (22 + 6 * j) + 1) 9999)) := Fr.up0.tr (Fr.up (by omega))
        generalize hS1 : up2 (up2 S 1 11 (S 42 4 - csT (S 42) j)) (1 + 7) j (mnI (S 42 (22 + 6 * j) + 1) 9999) = S1 at q2 q3
        have e42 : S1 42 = S 42 := q3 42 (by omega)
        refine ⟨nI j, S1, upR S1 42 (askT (S 42) j), ?_, ?_, ?_⟩
        · have eq := q1.aq (j := j) (by omega)
          rw [upd_n (by omega)] at eq
          unfold fX4_ask
          rw [cl_s (pageG_c _ S), b2i_t h, if_neg one_ne, cl_s (cheap_c hI.R hI.V (by omega)), hc, if_pos c, e, cl_s (costs_c hI.R hI.V (by omega)), hI.R.sa, if_pos w, bnd_s, rd_n (by omega) (by decide), wr_n (by omega) (by decide), eq, hS1]
        · have q := cheap_m (S := S1) (p := p) (by rw [e42]; exact hI.V) (by omega)
          rw [e42, hc] at q
          have k := fun S2 (h2 : S2 42 = S 42) => costs_m (S := S2) (by rw [h2]; exact hI.V) (g := j) (by omega)
          unfold fX5_ask
          rw [cl_s (pageG_m _ _), b2i_t h, if_neg one_ne, cl_s q, if_pos c, rd4, e, cl_s (k S1 e42), e42, if_pos w, rd4, cl_s (k S1 e42), e42, wr4, cl_s (ati5 j _), cl_s (its5 (by omega) _), cl_s (least_eq _ _ _), wr_n (by omega) (by decide), up2_qq, upd_n (by omega), e42, mnI_comm]
          unfold askT
          rw [upR_up2, upR_up2, upR_qq, upR_upR, e42]
        · refine hI.row (T := askT (S 42) j) (m := n) (fun r h1 h2 h3 h4 h5 => ?_) ?_ ?_ ((hI.1.1.lo (by omega) (by omega)).hi5 (by omega)) (by omega)
          · rw [upR_qn h3]
            exact q3 r (by omega)
          · rw [upR_qq]
          · exact q2.fr (fun i hi => upR_qn (by omega))
      · refine ⟨-1000005, cnC 4 S, cnM 4 (cnC 4 S), ?_, ?_, hI.cn (by decide)⟩
        · unfold fX4_ask
          rw [cl_s (pageG_c _ S), b2i_t h, if_neg one_ne, cl_s (cheap_c hI.R hI.V (by omega)), hc, if_pos c, e, cl_s (costs_c hI.R hI.V (by omega)), hI.R.sa, if_neg w, cl_s (fo5 S)]
        · have e42 : cnC 4 S 42 = S 42 := up2_qn (by omega)
          have q := cheap_m (S := cnC 4 S) (p := p) (by rw [e42]; exact hI.V) (by omega)
          rw [e42, hc] at q
          unfold fX5_ask
          rw [cl_s (pageG_m _ _), b2i_t h, if_neg one_ne, cl_s q, if_pos c, rd4, e, cl_s (costs_m (by rw [e42]; exact hI.V) (by omega)), e42, if_neg w, cl_s (fq5 _)]
  · refine hI.bad ?_ ?_
    · unfold fX4_ask
      rw [cl_s (pageG_c _ S), b2i_f h, if_pos rfl, cl_s (fo1 S)]
    · intro S1 _
      unfold fX5_ask
      rw [cl_s (pageG_m _ _), b2i_f h, if_pos rfl, cl_s (fq1 S1)]
