/-! Operations that change goats and days. -/
theorem inR_j {m j : Nat} (h : j < m) (hm : m < 2 ^ 31) : inR (nI j) (nI m) := ⟨nI_pos (by omega), nI_ge h hm⟩
theorem eq_go : EQ1 Inv fX4_go fX5_go := by
  intro n S a1 hI hn
  by_cases h : ¬ a1 < 1 ∧ ¬ 60 < a1
  · have h0 : ¬ a1 < 0 := fun q => h.1 (by rw [Int32.lt_iff_toInt_lt] at q ⊢; have e0 : (0 : Int32).toInt = 0 := by decide
                                           have e1 : (1 : Int32).toInt = 1 := by decide
                                           omega)
    obtain ⟨j, hj, rfl⟩ := nI_of h0
    have hj60 : j ≤ 60 := Nat.not_lt.mp (fun q => h.2 (nI_lt (a := 60) q hj))
    obtain ⟨d, hd, ed⟩ := hI.1.1.2.1
    have hda : d + j ≤ 99999 := by omega
    obtain ⟨S1, p1, p2, p3⟩ := days_c hI.R hI.V ed hda (by omega)
    obtain ⟨v1, v2, v3⟩ := days_V hI.V 0 ed j
    have e42 : S1 42 = S 42 := p3 42 (by omega)
    have c60 : nI j ≤ (60 : Int32) := nI_le (b := 60) hj60 (by decide)
    have c9 : nI (d + j) ≤ (99999 : Int32) := nI_le (b := 99999) hda (by decide)
    refine ⟨kaF (daysT (S 42) 0 j) 0, S1, upR S1 42 (daysT (S 42) 0 j), ?_, ?_, ?_⟩
    · unfold fX4_go
      rw [if_neg h.1, if_pos c60, hI.R.dy, ed, nI_add, if_pos c9, cl_s p1, cl_s (pkn_eq p2 v1)]
    · unfold fX5_go
      have hg := goes_m (S := S1) (n := j) (by rw [e42]; exact hI.V) (by rw [e42]; exact ed) (by omega)
      rw [e42] at hg
      rw [cl_s (isIn_l (lo := 1) (hi := 60) _ 1 60 rfl rfl _), b2i_t h, if_neg one_ne, rd1, e42, ed, nI_add, if_pos c9, cl_s hg, cl_s (ka_eq (by rw [upR_qq]; exact v1)), upR_qq]
    · refine hI.row (T := daysT (S 42) 0 j) (m := n + 1) (fun q h1 h2 h3 h4 h5 => ?_) ?_ ?_ ?_ (Nat.le_refl _)
      · rw [upR_qn h3]
        exact p3 q (by omega)
      · rw [upR_qq]
      · exact p2.fr (fun i hi => upR_qn (by omega))
      · refine ⟨v1, ⟨d + j, by omega, v3⟩, fun k hk => ?_⟩
        rw [v2 (65 + k) (by omega) (by omega), nN_eq (v2 0 (by omega) (by omega))]
        exact hI.1.1.2.2 k hk
  · refine hI.bad ?_ ?_
    · unfold fX4_go fX4_go_L11
      by_cases h1 : a1 < 1
      · rw [if_pos h1, cl_s (fo1 S)]
      · have h2 : ¬ a1 ≤ 60 := by
          intro q
          refine h ⟨h1, fun r => ?_⟩
          rw [Int32.lt_iff_toInt_lt] at r
          rw [Int32.le_iff_toInt_le] at q
          omega
        rw [if_neg h1, if_neg h2, cl_s (fo1 S)]
    · intro S1 _
      unfold fX5_go
      rw [cl_s (isIn_l (lo := 1) (hi := 60) _ 1 60 rfl rfl _), b2i_f h, if_pos rfl, cl_s (fq1 S1)]
/-! traits -/
theorem w6 {w : Nat} (h : w < 6) : w = 0 ∨ w = 1 ∨ w = 2 ∨ w = 3 ∨ w = 4 ∨ w = 5 := by omega
theorem trait_c {b g w : Nat} {T : Row} {go : Int32} {S : St} (hR : Rep b T go S) (hg : g < 8) (hw : w < 6) : fX0_trait b (nI g) (nI w) S = some (T (17 + 6 * g + w), S) := by
  unfold fX0_trait
  simp only [rd_n hg (show 8 < 2 ^ 31 by decide), hR.kd hg, hR.ld hg, hR.kn hg, hR.ag hg, hR.fe hg, hR.aq hg]
  rcases w6 hw with rfl | rfl | rfl | rfl | rfl | rfl
  · rw [if_pos (by decide)]
    rfl
  · rw [if_neg (by decide), if_pos (by decide), show 18 + 6 * g = 17 + 6 * g + 1 by omega]
  · rw [if_neg (by decide), if_neg (by decide), if_pos (by decide), show 19 + 6 * g = 17 + 6 * g + 2 by omega]
  · rw [if_neg (by decide), if_neg (by decide), if_neg (by decide), if_pos (by decide), show 20 + 6 * g = 17 + 6 * g + 3 by omega]
  · rw [if_neg (by decide), if_neg (by decide), if_neg (by decide), if_neg (by decide), if_pos (by decide), show 21 + 6 * g = 17 + 6 * g + 4 by omega]
  · rw [if_neg (by decide), if_neg (by decide), if_neg (by decide), if_neg (by decide), if_neg (by decide), show 22 + 6 * g = 17 + 6 * g + 5 by omega]
theorem setTrait_c {b g w : Nat} {v : Int32} {S : St} (hg : g < 8) (hw : w < 6) : fX0_setTrait b (nI g) (nI w) v S = some ((), up2 S (b + (2 + w)) g v) := by
  unfold fX0_setTrait fX0_setTrait_L93
  simp only [wr_n hg (show 8 < 2 ^ 31 by decide)]
  rcases w6 hw with rfl | rfl | rfl | rfl | rfl | rfl
  · rw [if_pos (by decide)]
  · rw [if_neg (by decide), if_pos (by decide)]
  · rw [if_neg (by decide), if_neg (by decide), if_pos (by decide)]
  · rw [if_neg (by decide), if_neg (by decide), if_neg (by decide), if_pos (by decide)]
  · rw [if_neg (by decide), if_neg (by decide), if_neg (by decide), if_neg (by decide), if_pos (by decide)]
  · rw [if_neg (by decide), if_neg (by decide), if_neg (by decide), if_neg (by decide), if_neg (by decide)]
theorem Rep.s_w {b g w : Nat} {T : Row} {go v : Int32} {S : St} (hR : Rep b T go S) (hg : g < 8) (hw : w < 6) : Rep b (upd T (17 + 6 * g + w) v) go (up2 S (b + (2 + w)) g v) := by
  rcases w6 hw with rfl | rfl | rfl | rfl | rfl | rfl
  · exact hR.s_kd hg
  · rw [show 17 + 6 * g + 1 = 18 + 6 * g by omega]
    exact hR.s_ld hg
  · rw [show 17 + 6 * g + 2 = 19 + 6 * g by omega]
    exact hR.s_kn hg
  · rw [show 17 + 6 * g + 3 = 20 + 6 * g by omega]
    exact hR.s_ag hg
  · rw [show 17 + 6 * g + 4 = 21 + 6 * g by omega]
    exact hR.s_fe hg
  · rw [show 17 + 6 * g + 5 = 22 + 6 * g by omega]
    exact hR.s_aq hg
def tvM (w : Nat) : Nat := if w = 0 then 7 else if w = 1 then 12 else if w = 2 then 65536 else if w = 4 then 100 else 10000
theorem RwI.gt {n g w : Nat} {T : Row} {v : Int32} (h : RwI n T) (hg : g < 8) (hw : w < 6) (hv : ∃ k, k < tvM w ∧ v = nI k) : RwI n (upd T (17 + 6 * g + w) v) := by
  obtain ⟨a, ⟨d, d1, d2⟩, c⟩ := h
  have e0 : upd T (17 + 6 * g + w) v 0 = T 0 := upd_n (by omega)
  refine ⟨a.to e0 (fun q hq => ⟨?_, ?_, ?_⟩), ⟨d, d1, by rw [upd_n (by omega)]; exact d2⟩, fun j hj => ?_⟩
  · by_cases e : 17 + 6 * q = 17 + 6 * g + w
    · have ew : w = 0 := by omega
      subst ew
      obtain ⟨k, k1, k2⟩ := hv
      exact Or.inr ⟨k, k1, by rw [e, upd_s, k2]⟩
    · exact Or.inl (upd_n e)
  · by_cases e : 18 + 6 * q = 17 + 6 * g + w
    · have ew : w = 1 := by omega
      subst ew
      obtain ⟨k, k1, k2⟩ := hv
      exact Or.inr ⟨k, k1, by rw [e, upd_s, k2]⟩
    · exact Or.inl (upd_n e)
  · by_cases e : 19 + 6 * q = 17 + 6 * g + w
    · have ew : w = 2 := by omega
      subst ew
      obtain ⟨k, k1, k2⟩ := hv
      exact Or.inr ⟨k, k1, by rw [e, upd_s, k2]⟩
    · exact Or.inl (upd_n e)
  · rw [upd_n (by omega), nN_eq e0]
    exact c j hj
/-! change -/
theorem retN_b (c : Prop) [Decidable c] (S : St) : retN .boolean (b2i c) S = some (b2i c, S) := by
  unfold b2i
  split
  · exact retN_1 S
  · exact retN_0 S
theorem isIn5 (a : Int32) (S : St) : fX5_isIn a.toInt64 0 5 S = some (b2i (inR a 6), S) := isIn_n a 5 (by decide) rfl S
theorem within65535 (a : Int32) (S : St) : fX4_isWithin a 65535 S = some (b2i (inR a 65536), S) := within_n a 65535 (by decide) S
theorem trv_c (w : Nat) (hw : w < 6) (v : Int32) (S : St) : fX4_isTraitValue (nI w) v S = some (b2i (inR v (nI (tvM w))), S) := by
  unfold fX4_isTraitValue
  rcases w6 hw with rfl | rfl | rfl | rfl | rfl | rfl
  · rw [if_pos (by decide), cl_s (kindG_c v S)]
    first | exact retN_b _ S | (rw [retN_b]; rfl)
  · rw [if_neg (by decide), if_pos (by decide), cl_s (ledgeG_c v S)]
    first | exact retN_b _ S | (rw [retN_b]; rfl)
  · rw [if_neg (by decide), if_neg (by decide), if_pos (by decide), cl_s (within65535 v S)]
    first | exact retN_b _ S | (rw [retN_b]; rfl)
  · rw [if_neg (by decide), if_neg (by decide), if_neg (by decide), if_pos (by decide), cl_s (within9999 v S)]
    first | exact retN_b _ S | (rw [retN_b]; rfl)
  · rw [if_neg (by decide), if_neg (by decide), if_neg (by decide), if_neg (by decide), if_pos (by decide), cl_s (within99 v S)]
    first | exact retN_b _ S | (rw [retN_b]; rfl)
  · rw [if_neg (by decide), if_neg (by decide), if_neg (by decide), if_neg (by decide), if_neg (by decide), if_pos (by decide), cl_s (within9999 v S)]
    first | exact retN_b _ S | (rw [retN_b]; rfl)
theorem gof_m (w : Nat) (hw : w < 6) (S : St) : fX5_greatestOf (nI w) S = some (nI (tvM w - 1), S) := by
  unfold fX5_greatestOf fX5_greatestOf_L48
  rcases w6 hw with rfl | rfl | rfl | rfl | rfl | rfl
  · rw [if_pos (by decide)]
    rfl
  · rw [if_neg (by decide), if_pos (by decide)]
    rfl
  · rw [if_neg (by decide), if_neg (by decide), if_pos (by decide)]
    rfl
  · rw [if_neg (by decide), if_neg (by decide), if_neg (by decide), if_pos (by decide)]
    rfl
  · rw [if_neg (by decide), if_neg (by decide), if_neg (by decide), if_neg (by decide), if_pos (by decide)]
    rfl
  · rw [if_neg (by decide), if_neg (by decide), if_neg (by decide), if_neg (by decide), if_neg (by decide)]
    rfl
theorem tvM_le {w : Nat} : 0 < tvM w ∧ tvM w ≤ 65536 := by
  unfold tvM
  repeat' split
  all_goals omega
theorem trv_no {a : Int32} (h : ¬ inR a 6) (v : Int32) (S : St) : fX4_isTraitValue a v S = some (0, S) := by
  have e : ∀ w, w < 6 → ¬ a = nI w := fun w hw q => h (by rw [q]; exact inR_j (m := 6) hw (by decide))
  unfold fX4_isTraitValue
  have e0 : ¬ a = (0 : Int32) := e 0 (by decide)
  have e1 : ¬ a = (1 : Int32) := e 1 (by decide)
  have e2 : ¬ a = (2 : Int32) := e 2 (by decide)
  have e3 : ¬ a = (3 : Int32) := e 3 (by decide)
  have e4 : ¬ a = (4 : Int32) := e 4 (by decide)
  have e5 : ¬ a = (5 : Int32) := e 5 (by decide)
  rw [if_neg e0, if_neg e1, if_neg e2, if_neg e3, if_neg e4, if_neg e5, retN_0]
theorem goatN {n : Nat} {S : St} {a : Int32} (hI : Inv n S) (h : inR a (S 42 0)) : ∃ g, g < 8 ∧ g < nN (S 42) ∧ a = nI g := by
  have h8 := hI.V.n8
  rw [hI.V.n] at h
  obtain ⟨g, h1, h2⟩ := inR_n (by omega) h
  exact ⟨g, by omega, h1, h2⟩
theorem eq_change : EQ3 Inv fX4_change fX5_change := by
  intro n S a1 a2 a3 hI hn
  by_cases h : inR a1 (S 42 0)
  · by_cases h2 : inR a2 6
    · obtain ⟨g, hg, hgn, rfl⟩ := goatN hI h
      obtain ⟨w, hw, rfl⟩ := inR_n (m := 6) (by decide) h2
      have hM := @tvM_le w
      by_cases h3 : inR a3 (nI (tvM w))
      · refine ⟨S 42 (17 + 6 * g + w), up2 S (1 + (2 + w)) g a3, up2 (up2 S (1 + (2 + w)) g a3) 42 (17 + 6 * g + w) a3, ?_, ?_, hI.w1 (by omega) (hI.R.s_w hg hw) (hI.1.1.up.gt hg hw (inR_n (by omega) h3))⟩
        · unfold fX4_change
          rw [cl_s (goatG_c _ hI.R), b2i_t h, if_neg one_ne, cl_s (trv_c w hw a3 S), b2i_t h3, if_neg one_ne, cl_s (trait_c hI.R hg hw), cl_s (setTrait_c hg hw)]
        · have e42 : up2 S (1 + (2 + w)) g a3 42 = S 42 := up2_qn (by omega)
          unfold fX5_change fX5_change_L39 fX5_change_L65
          rw [cl_s (goatG_m _ _), e42, b2i_t h, if_neg one_ne, cl_s (isIn5 _ _), b2i_t h2, if_neg one_ne, cl_s (gof_m w hw _), cl_s (isIn_n a3 (tvM w - 1) (by omega) rfl _), show tvM w - 1 + 1 = tvM w by omega, b2i_t h3, if_neg one_ne, if_neg one_ne, cl_s (at_n g w _), cl_s (becomes_n (by omega) _), e42]
      · refine hI.bad ?_ ?_
        · unfold fX4_change fX4_change_L16
          rw [cl_s (goatG_c _ hI.R), b2i_t h, if_neg one_ne, cl_s (trv_c w hw a3 S), b2i_f h3, if_pos rfl, cl_s (fo1 S)]
        · intro S1 hS1
          have e42 : S1 42 = S 42 := by rw [hS1]; exact up2_qn (by omega)
          unfold fX5_change fX5_change_L38 fX5_change_L39 fX5_change_L65
          rw [cl_s (goatG_m _ _), e42, b2i_t h, if_neg one_ne, cl_s (isIn5 _ _), b2i_t h2, if_neg one_ne, cl_s (gof_m w hw _), cl_s (isIn_n a3 (tvM w - 1) (by omega) rfl _), show tvM w - 1 + 1 = tvM w by omega, b2i_f h3, if_pos rfl, if_pos rfl, cl_s (fq1 S1)]
    · refine hI.bad ?_ ?_
      · unfold fX4_change fX4_change_L16
        rw [cl_s (goatG_c _ hI.R), b2i_t h, if_neg one_ne, cl_s (trv_no h2 a3 S), if_pos rfl, cl_s (fo1 S)]
      · intro S1 hS1
        have e42 : S1 42 = S 42 := by rw [hS1]; exact up2_qn (by omega)
        unfold fX5_change fX5_change_L38 fX5_change_L39 fX5_change_L65
        rw [cl_s (goatG_m _ _), e42, b2i_t h, if_neg one_ne, cl_s (isIn5 _ _), b2i_f h2, if_pos rfl, if_pos rfl, cl_s (fq1 S1)]
  · refine hI.bad ?_ ?_
    · unfold fX4_change fX4_change_L16
      rw [cl_s (goatG_c _ hI.R), b2i_f h, if_pos rfl, cl_s (fo1 S)]
    · intro S1 hS1
      have e42 : S1 42 = S 42 := by rw [hS1]; exact up2_qn (by omega)
      unfold fX5_change fX5_change_L38 fX5_change_L39 fX5_change_L65
      rw [cl_s (goatG_m _ _), e42, b2i_f h, if_pos rfl, if_pos rfl, cl_s (fq1 S1)]
