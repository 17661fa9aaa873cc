/-! learns, lost, meet, reach -/
theorem retN_bi (c : Prop) [Decidable c] (S : St) : retN .boolean (b2i c) S = some (b2i c, S) := retN_b c S
theorem sh0 (x : Int32) {p : Nat} (hp : p < 31) : ((x >>> (nI p &&& 31)) &&& 1 = 0) ↔ ¬ tb x p = true := by
  rw [shr_0 x hp]
  exact Bool.eq_false_iff
theorem learns_st (m : Nat) (x1 x2 x3 : Int32) (S : St) : fX5_learns_L35 (m + 1) x1 x2 x3 S = if 100 < x3 then fX5_learns_L65 x3 S else cl (fX5_its x1 2 S) fun v1 S1 => if ((v1 >>> (x2 &&& 31)) &&& 1) = 0 then cl (fX5_dayBut 0 S1) fun _ S2 => bnd (x3 + 1) fun v2 => fX5_learns_L35 m x1 x2 v2 S2 else fX5_learns_L65 x3 S1 := rfl
theorem reach_st (m : Nat) (x1 x2 x3 : Int32) (S : St) : fX5_reach_L35 (m + 1) x1 x2 x3 S = if 100 < x3 then fX5_reach_L62 x3 S else cl (fX5_its x1 1 S) fun v1 S1 => if v1 = x2 then fX5_reach_L62 x3 S1 else cl (fX5_dayBut 0 S1) fun _ S2 => bnd (x3 + 1) fun v2 => fX5_reach_L35 m x1 x2 v2 S2 := rfl
theorem lost_st (m : Nat) (x1 x2 : Int32) (S : St) : fX5_lost_L27 (m + 1) x1 x2 S = if 100 < x2 then fX5_lost_L56 x2 S else cl (fX5_knownAll S) fun v1 S1 => if ((v1 >>> (x1 &&& 31)) &&& 1) = 1 then cl (fX5_dayBut 0 S1) fun _ S2 => bnd (x2 + 1) fun v2 => fX5_lost_L27 m x1 v2 S2 else fX5_lost_L56 x2 S1 := rfl
theorem eq_learns : EQ2 Inv fX4_learns fX5_learns := by
  intro n S a1 a2 hI hn
  by_cases h : inR a1 (S 42 0)
  · by_cases h2 : inR a2 16
    · obtain ⟨g, hg, hgn, rfl⟩ := goatN hI h
      obtain ⟨p, hp, rfl⟩ := inR_n (m := 16) (by decide) h2
      refine until_ok (C := fun T => tb (T (19 + 6 * g)) p) (k := 0) (a := nI g) (b := nI p) (L := fun m x S => fX5_learns_L35 m (nI g) (nI p) x S) (fin := fX5_learns_L65) hI hn ?_ ?_ ?_ ?_ ?_
      · intro S T hR hV
        unfold fX4_hasCome
        rw [if_pos rfl, rd_n hg (by decide), hR.kn hg, cl_s (hasBit_eq _ (by omega) S), retN_b]
      · intro m i S hi hV
        show fX5_learns_L35 (m + 1) (nI g) (nI p) (nI i) S = _
        rw [learns_st]
        rw [cl_s (its2 hg S)]
        by_cases q : tb (S 42 (19 + 6 * g)) p = true
        · rw [if_neg (fun r => (sh0 _ (by omega)).mp r q), if_pos q]
        · rw [if_pos ((sh0 _ (by omega)).mpr q), if_neg q]
          simp only [bnd_s, nI_1]
      · intro x S
        rfl
      · unfold fX4_learns
        rw [cl_s (goatG_c _ hI.R), b2i_t h, if_neg one_ne, cl_s (pageG_c _ _), b2i_t h2, if_neg one_ne]
      · intro S1 e42
        unfold fX5_learns
        rw [cl_s (goatG_m _ _), e42, b2i_t h, if_neg one_ne, cl_s (pageG_m _ _), b2i_t h2, if_neg one_ne]
    · refine hI.bad ?_ ?_
      · unfold fX4_learns fX4_learns_L15
        rw [cl_s (goatG_c _ hI.R), b2i_t h, if_neg one_ne, cl_s (pageG_c _ _), b2i_f h2, if_pos rfl, cl_s (fo1 S)]
      · intro S1 hS1
        have e42 : S1 42 = S 42 := by rw [hS1]; exact up2_qn (by omega)
        unfold fX5_learns fX5_learns_L15
        rw [cl_s (goatG_m _ _), e42, b2i_t h, if_neg one_ne, cl_s (pageG_m _ _), b2i_f h2, if_pos rfl, cl_s (fq1 S1)]
  · refine hI.bad ?_ ?_
    · unfold fX4_learns fX4_learns_L15
      rw [cl_s (goatG_c _ hI.R), b2i_f h, if_pos rfl, cl_s (fo1 S)]
    · intro S1 hS1
      have e42 : S1 42 = S 42 := by rw [hS1]; exact up2_qn (by omega)
      unfold fX5_learns fX5_learns_L15
      rw [cl_s (goatG_m _ _), e42, b2i_f h, if_pos rfl, cl_s (fq1 S1)]
theorem eq_reach : EQ2 Inv fX4_reach fX5_reach := by
  intro n S a1 a2 hI hn
  by_cases h : inR a1 (S 42 0)
  · by_cases h2 : inR a2 12
    · obtain ⟨g, hg, hgn, rfl⟩ := goatN hI h
      refine until_ok (C := fun T => decide (T (18 + 6 * g) = a2)) (k := 3) (a := nI g) (b := a2) (L := fun m x S => fX5_reach_L35 m (nI g) a2 x S) (fin := fX5_reach_L62) hI hn ?_ ?_ ?_ ?_ ?_
      · intro S T hR hV
        unfold fX4_hasCome fX4_hasCome_L104
        rw [if_neg (by decide), if_neg (by decide), if_neg (by decide), rd_n hg (by decide), hR.ld hg, retN_1, retN_0]
        by_cases q : T (18 + 6 * g) = a2
        · rw [if_pos q, b2i_t (decide_eq_true q)]
        · rw [if_neg q, b2i_f (fun r => q (of_decide_eq_true r))]
      · intro m i S hi hV
        show fX5_reach_L35 (m + 1) (nI g) a2 (nI i) S = _
        rw [reach_st]
        rw [cl_s (its1 hg S)]
        by_cases q : S 42 (18 + 6 * g) = a2
        · rw [if_pos q, if_pos (decide_eq_true q)]
        · rw [if_neg q, if_neg (fun r => q (of_decide_eq_true r))]
          simp only [bnd_s, nI_1]
      · intro x S
        rfl
      · unfold fX4_reach
        rw [cl_s (goatG_c _ hI.R), b2i_t h, if_neg one_ne, cl_s (ledgeG_c _ _), b2i_t h2, if_neg one_ne]
      · intro S1 e42
        unfold fX5_reach
        rw [cl_s (goatG_m _ _), e42, b2i_t h, if_neg one_ne, cl_s (ledgeG_m _ _), b2i_t h2, if_neg one_ne]
    · refine hI.bad ?_ ?_
      · unfold fX4_reach fX4_reach_L15
        rw [cl_s (goatG_c _ hI.R), b2i_t h, if_neg one_ne, cl_s (ledgeG_c _ _), b2i_f h2, if_pos rfl, cl_s (fo1 S)]
      · intro S1 hS1
        have e42 : S1 42 = S 42 := by rw [hS1]; exact up2_qn (by omega)
        unfold fX5_reach fX5_reach_L15
        rw [cl_s (goatG_m _ _), e42, b2i_t h, if_neg one_ne, cl_s (ledgeG_m _ _), b2i_f h2, if_pos rfl, cl_s (fq1 S1)]
  · refine hI.bad ?_ ?_
    · unfold fX4_reach fX4_reach_L15
      rw [cl_s (goatG_c _ hI.R), b2i_f h, if_pos rfl, cl_s (fo1 S)]
    · intro S1 hS1
      have e42 : S1 42 = S 42 := by rw [hS1]; exact up2_qn (by omega)
      unfold fX5_reach fX5_reach_L15
      rw [cl_s (goatG_m _ _), e42, b2i_f h, if_pos rfl, cl_s (fq1 S1)]
theorem eq_lost : EQ1 Inv fX4_lost fX5_lost := by
  intro n S a1 hI hn
  by_cases h : inR a1 16
  · obtain ⟨p, hp, rfl⟩ := inR_n (m := 16) (by decide) h
    refine until_ok (C := fun T => !tb (kaF T 0) p) (k := 1) (a := nI p) (b := 0) (L := fun m x S => fX5_lost_L27 m (nI p) x S) (fin := fX5_lost_L56) hI hn ?_ ?_ ?_ ?_ ?_
    · intro S T hR hV
      unfold fX4_hasCome fX4_hasCome_L58
      rw [if_neg (by decide), if_pos rfl, cl_s (prn_eq hR hV (by omega)), retN_1, retN_0]
      cases q : tb (kaF T 0) p
      · rfl
      · rfl
    · intro m i S hi hV
      show fX5_lost_L27 (m + 1) (nI p) (nI i) S = _
      rw [lost_st]
      rw [cl_s (ka_eq hV)]
      cases q : tb (kaF (S 42) 0) p
      · rw [if_neg (fun r => absurd ((shr_1 _ (by omega)).mp r) (by rw [q]; decide)), if_pos (show (!false) = true from rfl)]
      · rw [if_pos ((shr_1 _ (by omega)).mpr q), if_neg (show ¬ (!true) = true by decide)]
        simp only [bnd_s, nI_1]
    · intro x S
      rfl
    · unfold fX4_lost
      rw [cl_s (pageG_c _ _), b2i_t h, if_neg one_ne]
    · intro S1 e42
      unfold fX5_lost
      rw [cl_s (pageG_m _ _), b2i_t h, if_neg one_ne]
  · refine hI.bad ?_ ?_
    · unfold fX4_lost
      rw [cl_s (pageG_c _ _), b2i_f h, if_pos rfl, cl_s (fo1 S)]
    · intro S1 _
      unfold fX5_lost
      rw [cl_s (pageG_m _ _), b2i_f h, if_pos rfl, cl_s (fq1 S1)]
