/-! hold, as, status -/
theorem spotG_c (a : Int32) (S : St) : fX4_isSpot a S = some (b2i (inR a 10), S) := by
  unfold fX4_isSpot fX4_isSpot_L14 fX4_isSpot_L15
  by_cases h1 : a < 0
  · rw [if_pos h1, b2i_f (fun q => q.1 h1), retN_0]
  · by_cases h2 : (10 : Int32) ≤ a
    · rw [if_neg h1, if_pos h2, b2i_f (fun q => q.2 h2), retN_0]
    · rw [if_neg h1, if_neg h2, b2i_t ⟨h1, h2⟩, retN_1]
theorem sheetG_c (a : Int32) (S : St) : fX4_isSheet a S = some (b2i (inR a 4), S) := by
  unfold fX4_isSheet fX4_isSheet_L13 fX4_isSheet_L14
  by_cases h1 : a < 0
  · rw [if_pos h1, b2i_f (fun q => q.1 h1), retN_0]
  · by_cases h2 : (4 : Int32) ≤ a
    · rw [if_neg h1, if_pos h2, b2i_f (fun q => q.2 h2), retN_0]
    · rw [if_neg h1, if_neg h2, b2i_t ⟨h1, h2⟩, retN_1]
theorem sheetG_m (a : Int32) (S : St) : fX5_isSheet a S = some (b2i (inR a 4), S) := by
  unfold fX5_isSheet fX5_isSheet_L13 fX5_isSheet_L14
  by_cases h1 : a < 0
  · rw [if_pos h1, b2i_f (fun q => q.1 h1), retN_0]
  · by_cases h2 : (4 : Int32) ≤ a
    · rw [if_neg h1, if_pos h2, b2i_f (fun q => q.2 h2), retN_0]
    · rw [if_neg h1, if_neg h2, b2i_t ⟨h1, h2⟩, retN_1]
theorem RwI.sp {n k : Nat} {T : Row} {v : Int32} (h : RwI n T) (hk : k < 10) (hv : v = -1 ∨ ∃ g, g < nN T ∧ v = nI g) : RwI n (upd T (65 + k) v) := by
  obtain ⟨a, ⟨d, d1, d2⟩, c⟩ := h
  have e0 : upd T (65 + k) v 0 = T 0 := upd_n (by omega)
  refine ⟨a.to e0 (fun g hg => ⟨Or.inl (upd_n (by omega)), Or.inl (upd_n (by omega)), Or.inl (upd_n (by omega))⟩), ⟨d, d1, ?_⟩, ?_⟩
  · rw [upd_n (by omega)]
    exact d2
  · intro j hj
    rw [nN_eq e0]
    by_cases e : j = k
    · subst e
      rw [upd_s]
      exact hv
    · rw [upd_n (by omega)]
      exact c j hj
theorem eq_hold : EQ2 Inv fX4_hold fX5_hold := by
  intro n S a1 a2 hI hn
  by_cases h : inR a1 10
  · obtain ⟨k, hk, rfl⟩ := inR_n (m := 10) (by decide) h
    by_cases c : a2 = -1
    · refine ⟨1, up2 S (1 + 8) k a2, up2 (up2 S (1 + 8) k a2) 42 (65 + k) a2, ?_, ?_, hI.w1 (i := 8) (by omega) (hI.R.s_sp hk) (hI.1.1.up.sp hk (Or.inl c))⟩
      · unfold fX4_hold fX4_hold_L27
        rw [cl_s (spotG_c _ S), b2i_t h, if_neg one_ne, if_pos c, wr_n hk (by decide)]
      · unfold fX5_hold fX5_hold_L32
        rw [cl_s (isIn9 _ _), b2i_t h, if_neg one_ne, if_pos c, n65, wr_n (by omega) (by decide)]
    · by_cases h2 : inR a2 (S 42 0)
      · obtain ⟨g, hg, hgn, e⟩ := goatN hI h2
        refine ⟨1, up2 S (1 + 8) k a2, up2 (up2 S (1 + 8) k a2) 42 (65 + k) a2, ?_, ?_, hI.w1 (i := 8) (by omega) (hI.R.s_sp hk) (hI.1.1.up.sp hk (Or.inr ⟨g, hgn, e⟩))⟩
        · unfold fX4_hold fX4_hold_L27
          rw [cl_s (spotG_c _ S), b2i_t h, if_neg one_ne, if_neg c, cl_s (goatG_c _ hI.R), b2i_t h2, if_neg one_ne, wr_n hk (by decide)]
        · have e42 : up2 S (1 + 8) k a2 42 = S 42 := up2_qn (by omega)
          unfold fX5_hold fX5_hold_L32
          rw [cl_s (isIn9 _ _), b2i_t h, if_neg one_ne, if_neg c, cl_s (goatG_m _ _), e42, b2i_t h2, if_neg one_ne, n65, wr_n (by omega) (by decide)]
      · refine hI.bad ?_ ?_
        · unfold fX4_hold fX4_hold_L20
          rw [cl_s (spotG_c _ S), b2i_t h, if_neg one_ne, if_neg c, cl_s (goatG_c _ hI.R), b2i_f h2, if_pos rfl, cl_s (fo1 S)]
        · intro S1 hS1
          have e42 : S1 42 = S 42 := by rw [hS1]; exact up2_qn (by omega)
          unfold fX5_hold fX5_hold_L25
          rw [cl_s (isIn9 _ _), b2i_t h, if_neg one_ne, if_neg c, cl_s (goatG_m _ _), e42, b2i_f h2, if_pos rfl, cl_s (fq1 S1)]
  · refine hI.bad ?_ ?_
    · unfold fX4_hold fX4_hold_L20
      rw [cl_s (spotG_c _ S), b2i_f h, if_pos rfl, cl_s (fo1 S)]
    · intro S1 _
      unfold fX5_hold fX5_hold_L25
      rw [cl_s (isIn9 _ _), b2i_f h, if_pos rfl, cl_s (fq1 S1)]
/-! as -/
theorem fo6 (S : St) : fX4_found (-1000006) S = some (-1000006, cnC 5 S) := found_c (by decide) (by decide) S
theorem fq6 (S : St) : fX5_finds (-1000006) S = some (-1000006, cnM 5 S) := finds_m (by decide) (by decide) S
theorem fo7 (S : St) : fX4_found (-1000007) S = some (-1000007, cnC 6 S) := found_c (by decide) (by decide) S
theorem fq7 (S : St) : fX5_finds (-1000007) S = some (-1000007, cnM 6 S) := finds_m (by decide) (by decide) S
def unB (k w : Nat) : Bool := w == 0 || k == w || (w == 2 && (k == 3 || k == 4)) || (w == 3 && k == 4) || (w == 1 && k == 6)
theorem w7 {w : Nat} (h : w < 7) : w = 0 ∨ w = 1 ∨ w = 2 ∨ w = 3 ∨ w = 4 ∨ w = 5 ∨ w = 6 := by omega
theorem under_m {k w : Nat} (hk : k < 7) (hw : w < 7) (S : St) : fX5_isUnder (nI k) (nI w) S = some (b2i (unB k w = true), S) := by
  unfold fX5_isUnder fX5_isUnder_L24 fX5_isUnder_L34 fX5_isUnder_L45 fX5_isUnder_L49 fX5_isUnder_L50
  rw [retN_0, retN_1]
  rcases w7 hk with rfl | rfl | rfl | rfl | rfl | rfl | rfl <;> rcases w7 hw with rfl | rfl | rfl | rfl | rfl | rfl | rfl <;> (repeat (first | rw [if_pos (by decide)] | rw [if_neg (by decide)])) <;> rfl
theorem okd_st (n : Nat) (x1 x2 x3 : Int32) (S : St) : fX0_isOfKind_L4 (n + 1) x1 x2 x3 S = if 7 ≤ x3 then fX0_isOfKind_L30 x1 x2 S else if x2 = x1 then fX0_isOfKind_L30 x1 x2 S else if x2 = 0 then fX0_isOfKind_L30 x1 x2 S else cl (fX0_kindAbove x2 S) fun v1 S1 => bnd (x3 + 1) fun v2 => fX0_isOfKind_L4 n x1 v1 v2 S1 := rfl
theorem kd_ab {k : Nat} (hk : k < 7) (S : St) : fX0_kindAbove (nI k) S = some (nI (if k = 3 then 2 else if k = 4 then 3 else if k = 6 then 1 else 0), S) := by
  unfold fX0_kindAbove fX0_kindAbove_L38
  rcases w7 hk with rfl | rfl | rfl | rfl | rfl | rfl | rfl <;> (repeat (first | rw [if_pos (by decide)] | rw [if_neg (by decide)])) <;> rfl
theorem of_l30 {x1 x2 : Int32} (S : St) : fX0_isOfKind_L30 x1 x2 S = some (b2i (x2 = x1), S) := by
  unfold fX0_isOfKind_L30 fX0_isOfKind_L40
  rw [retN_0, retN_1]
  by_cases h : x2 = x1
  · rw [if_pos h, b2i_t h]
  · rw [if_neg h, b2i_f h]
theorem okd_c {k w : Nat} (hk : k < 7) (hw : w < 7) (S : St) : fX0_isOfKind (nI k) (nI w) S = some (b2i (unB k w = true), S) := by
  unfold fX0_isOfKind
  rw [show FU = 1020 + 1 + 1 + 1 + 1 from rfl]
  rcases w7 hk with rfl | rfl | rfl | rfl | rfl | rfl | rfl <;> rcases w7 hw with rfl | rfl | rfl | rfl | rfl | rfl | rfl <;> (repeat (first | rw [if_pos (by decide)] | rw [if_neg (by decide)] | rw [of_l30] | rw [okd_st] | rw [cl_s (kd_ab (by decide) S), bnd_s])) <;> rfl
theorem eq_as : EQ2 Inv fX4_as fX5_as := by
  intro n S a1 a2 hI hn
  have hn8 := hI.V.n8
  by_cases h : inR a1 10
  · by_cases h2 : inR a2 7
    · obtain ⟨k, hk, rfl⟩ := inR_n (m := 10) (by decide) h
      obtain ⟨w, hw, rfl⟩ := inR_n (m := 7) (by decide) h2
      rcases hI.1.1.2.2 k hk with e | ⟨g, hg, e⟩
      · have c1 : ¬ inR (-1) (S 42 0) := fun q => q.1 (by decide)
        have c2 : ¬ (0 : Int32) ≤ -1 := by decide
        refine ⟨-1000006, cnC 5 S, cnM 5 (cnC 5 S), ?_, ?_, hI.cn (by decide)⟩
        · unfold fX4_as
          rw [cl_s (spotG_c _ S), b2i_t h, if_neg one_ne, cl_s (kindG_c _ S), b2i_t h2, if_neg one_ne, rd_n hk (by decide), hI.R.sp hk, e, cl_s (goatG_c _ hI.R), b2i_f c1, if_pos rfl, cl_s (fo6 S)]
        · have e42 : cnC 5 S 42 = S 42 := up2_qn (by omega)
          unfold fX5_as
          rw [cl_s (isIn9 _ _), b2i_t h, if_neg one_ne, cl_s (isIn6 _ _), b2i_t h2, if_neg one_ne, n65, rd_n (by omega) (by decide), e42, e, if_neg c2, cl_s (fq6 _)]
      · have c1 : inR (nI g) (S 42 0) := by
          rw [hI.V.n]
          exact inR_j hg (by omega)
        have c2 : (0 : Int32) ≤ nI g := nI_pos' (by omega)
        obtain ⟨v1, v2⟩ := hI.V.kd (g := g) (by omega)
        by_cases u : unB (kdN (S 42) g) w = true
        · refine hI.sme (r := nI g) ?_ ?_
          · unfold fX4_as
            rw [cl_s (spotG_c _ S), b2i_t h, if_neg one_ne, cl_s (kindG_c _ S), b2i_t h2, if_neg one_ne, rd_n hk (by decide), hI.R.sp hk, e, cl_s (goatG_c _ hI.R), b2i_t c1, if_neg one_ne, rd_n (by omega) (by decide), hI.R.kd (by omega), v2, cl_s (okd_c v1 hw S), b2i_t u, if_neg one_ne]
          · unfold fX5_as fX5_as_L77
            rw [cl_s (isIn9 _ _), b2i_t h, if_neg one_ne, cl_s (isIn6 _ _), b2i_t h2, if_neg one_ne, n65, rd_n (by omega) (by decide), e, if_pos c2, cl_s (its0 (by omega) S), v2, cl_s (under_m v1 hw S), b2i_t u, if_neg one_ne]
        · refine ⟨-1000003, cnC 2 S, cnM 2 (cnC 2 S), ?_, ?_, hI.cn (by decide)⟩
          · unfold fX4_as
            rw [cl_s (spotG_c _ S), b2i_t h, if_neg one_ne, cl_s (kindG_c _ S), b2i_t h2, if_neg one_ne, rd_n hk (by decide), hI.R.sp hk, e, cl_s (goatG_c _ hI.R), b2i_t c1, if_neg one_ne, rd_n (by omega) (by decide), hI.R.kd (by omega), v2, cl_s (okd_c v1 hw S), b2i_f u, if_pos rfl, cl_s (fo3 S)]
          · have e42 : cnC 2 S 42 = S 42 := up2_qn (by omega)
            unfold fX5_as fX5_as_L77
            rw [cl_s (isIn9 _ _), b2i_t h, if_neg one_ne, cl_s (isIn6 _ _), b2i_t h2, if_neg one_ne, n65, rd_n (by omega) (by decide), e42, e, if_pos c2, cl_s (its0 (by omega) _), e42, v2, cl_s (under_m v1 hw _), b2i_f u, if_pos rfl, cl_s (fq3 _)]
    · refine hI.bad ?_ ?_
      · unfold fX4_as fX4_as_L14
        rw [cl_s (spotG_c _ S), b2i_t h, if_neg one_ne, cl_s (kindG_c _ S), b2i_f h2, if_pos rfl, cl_s (fo1 S)]
      · intro S1 _
        unfold fX5_as fX5_as_L24
        rw [cl_s (isIn9 _ _), b2i_t h, if_neg one_ne, cl_s (isIn6 _ _), b2i_f h2, if_pos rfl, cl_s (fq1 S1)]
  · refine hI.bad ?_ ?_
    · unfold fX4_as fX4_as_L14
      rw [cl_s (spotG_c _ S), b2i_f h, if_pos rfl, cl_s (fo1 S)]
    · intro S1 _
      unfold fX5_as fX5_as_L24
      rw [cl_s (isIn9 _ _), b2i_f h, if_pos rfl, cl_s (fq1 S1)]
/-! status -/
def smF (T : Row) : Nat → Int32
  | 0 => 0
  | k + 1 => smF T k + T k
theorem sm_c {S : St} : ∀ (f i : Nat), i ≤ 7 → 7 - i < f → fX4_status_L33 f (smF (S 40) i) (nI i) S = some (smF (S 40) 7, S)
  | 0, i, h1, h2 => by omega
  | f + 1, i, h1, h2 => by
    unfold fX4_status_L33
    by_cases hi : 7 ≤ i
    · have c : (7 : Int32) ≤ nI i := nI_le (a := 7) hi (by omega)
      rw [if_pos c, show i = 7 by omega]
    · have c : ¬ (7 : Int32) ≤ nI i := nI_ge (b := 7) (by omega) (by decide)
      rw [if_neg c, rd_n (by omega) (by decide), bnd_s, bnd_s, nI_1]
      exact sm_c (S := S) f (i + 1) (by omega) (by omega)
theorem sm_7 {T : Row} : smF T 7 = T 0 + T 1 + T 2 + T 3 + T 4 + T 5 + T 6 := by
  show (0 : Int32) + T 0 + T 1 + T 2 + T 3 + T 4 + T 5 + T 6 = _
  rw [Int32.zero_add]
theorem eq_status : EQ1 Inv fX4_status fX5_status := by
  intro n S a1 hI hn
  obtain ⟨f1, f2⟩ := hI.2.2.2.2
  have im : ∀ S1 : St, fX5_isIn a1.toInt64 (-1) 6 S1 = some (b2i (¬ a1 < -1 ∧ ¬ 6 < a1), S1) := fun S1 => isIn_l (lo := -1) (hi := 6) a1 (-1) 6 rfl rfl S1
  have e0 : (0 : Int32).toInt = 0 := by decide
  have e1 : (-1 : Int32).toInt = -1 := by decide
  have e6 : (6 : Int32).toInt = 6 := by decide
  have e7 : (7 : Int32).toInt = 7 := by decide
  by_cases h1 : a1 < -1
  · refine hI.bad ?_ ?_
    · unfold fX4_status fX4_status_L11
      rw [if_pos h1, cl_s (fo1 S)]
    · intro S1 _
      unfold fX5_status fX5_status_L31
      rw [cl_s (im S1), b2i_f (fun q => q.1 h1), if_pos rfl, cl_s (fq1 S1)]
  · by_cases h2 : a1 < 7
    · have g : ¬ a1 < -1 ∧ ¬ 6 < a1 := ⟨h1, fun q => by rw [Int32.lt_iff_toInt_lt] at q h2; omega⟩
      by_cases h0 : a1 < 0
      · have em : a1 = -1 := by
          apply Int32.toInt_inj.mp
          rw [Int32.lt_iff_toInt_lt] at h1 h0
          omega
        refine hI.sme (r := S 46 0) ?_ ?_
        · have q : fX4_status_L33 FU 0 0 S = some (smF (S 40) 7, S) := sm_c FU 0 (by omega) (by unfold FU; omega)
          unfold fX4_status
          rw [if_neg h1, if_pos h2, if_pos h0, q, sm_7, f2]
        · have c : (-1 : Int32) + 1 = nI 0 := by decide
          unfold fX5_status fX5_status_L31
          rw [cl_s (im S), b2i_t g, if_neg one_ne, em, c, rd_n (by omega) (by decide)]
      · obtain ⟨j, hj, e⟩ := nI_of h0
        have hj7 : j < 7 := by
          rw [e, Int32.lt_iff_toInt_lt, nI_toInt hj] at h2
          omega
        refine hI.sme (r := S 40 j) ?_ ?_
        · unfold fX4_status
          rw [if_neg h1, if_pos h2, if_neg h0, e, rd_n hj7 (by decide)]
        · unfold fX5_status fX5_status_L31
          rw [cl_s (im S), b2i_t g, if_neg one_ne, e, nI_1, rd_n (by omega) (by decide), f1 j hj7]
    · have g : ¬ (¬ a1 < -1 ∧ ¬ 6 < a1) := fun q => q.2 (by rw [Int32.lt_iff_toInt_lt] at h2 ⊢; omega)
      refine hI.bad ?_ ?_
      · unfold fX4_status fX4_status_L11
        rw [if_neg h1, if_neg h2, cl_s (fo1 S)]
      · intro S1 _
        unfold fX5_status fX5_status_L31
        rw [cl_s (im S1), b2i_f g, if_pos rfl, cl_s (fq1 S1)]
