/-! Climbing, grazing: one function of the row for both. -/
def grz (v : Int32) : Int32 := if v = 1 then 7 else if v = 2 then 6 else if v = 3 then 6 else if v = 4 then 6 else if v = 5 then 2 else if v = 6 then 3 else 5
theorem grazes_m {g : Nat} (hg : g < 8) (S : St) : fX5_grazes (nI g) S = some (grz (S 42 (17 + 6 * g)), S) := by
  unfold fX5_grazes fX5_grazes_L47 grz
  rw [cl_s (its0 hg S)]
  simp only [ite_s]
theorem grazes_c {b g : Nat} {T : Row} {go : Int32} {S : St} (hR : Rep b T go S) (hg : g < 8) : fX0_grazes b (nI g) S = some (grz (T (17 + 6 * g)), S) := by
  unfold fX0_grazes fX0_grazes_L49 grz
  rw [rd_n hg (by decide), hR.kd hg]
  simp only [ite_s]
theorem ng12 {m : Nat} (h : m < 12) : ¬ (12 : Int32) ≤ nI m := nI_ge (a := m) (b := 12) h (by decide)
theorem ps12 {m : Nat} (h : 12 ≤ m) (hm : m < 2 ^ 31) : (12 : Int32) ≤ nI m := nI_le (a := 12) (b := m) h hm
def grnA (T : Row) (l : Nat) : Nat := if l + 1 < 12 ∧ ¬ T (5 + (l + 1)) ≤ T (5 + l) then l + 1 else l
def grn (T : Row) (l : Nat) : Nat := if 0 < l ∧ ¬ T (5 + (l - 1)) ≤ T (5 + grnA T l) then l - 1 else grnA T l
theorem grnA_lt {T : Row} {l : Nat} (hl : l < 12) : grnA T l < 12 := by
  unfold grnA
  split <;> omega
theorem grn_lt {T : Row} {l : Nat} (hl : l < 12) : grn T l < 12 := by
  have := grnA_lt (T := T) hl
  unfold grn
  split <;> omega
theorem n5 (l : Nat) : 5 + nI l = nI (5 + l) := by rw [show (5 : Int32) = nI 5 from rfl, nI_add]
theorem green_m2 {S : St} {l m : Nat} (hl : l < 12) (hm : m < 12) : fX5_greenest_L38 (nI l) (nI m) S = some (nI (if 0 < l ∧ ¬ S 42 (5 + (l - 1)) ≤ S 42 (5 + m) then l - 1 else m), S) := by
  unfold fX5_greenest_L38 fX5_greenest_L70 fX5_greenest_L71
  by_cases h0 : l = 0
  · subst h0
    rw [if_pos (by decide), if_neg (by omega)]
  · rw [if_neg (nI_nle (by omega) (by omega)), n5, n5, show (1 : Int32) = nI 1 from rfl, pk_sub (by omega), pk_sub (by omega), rd_n (by omega) (by decide), rd_n (by omega) (by decide), show 5 + l - 1 = 5 + (l - 1) by omega]
    by_cases hc : S 42 (5 + (l - 1)) ≤ S 42 (5 + m)
    · rw [if_pos hc, if_neg (fun q => q.2 hc)]
    · rw [if_neg hc, if_pos ⟨by omega, hc⟩]
theorem green_m {S : St} {l : Nat} (hl : l < 12) : fX5_greenest (nI l) S = some (nI (grn (S 42) l), S) := by
  unfold fX5_greenest fX5_greenest_L37
  by_cases h12 : l + 1 < 12
  · rw [nI_1, if_neg (ng12 h12), n5, nI_1, rd_n (by omega) (by decide), rd_n (by omega) (by decide), show 5 + l + 1 = 5 + (l + 1) by omega]
    by_cases hc : S 42 (5 + (l + 1)) ≤ S 42 (5 + l)
    · rw [if_pos hc, green_m2 hl hl]
      have e : grnA (S 42) l = l := if_neg (fun q => q.2 hc)
      unfold grn
      rw [e]
    · rw [if_neg hc, green_m2 hl h12]
      have e : grnA (S 42) l = l + 1 := if_pos ⟨h12, hc⟩
      unfold grn
      rw [e]
  · rw [nI_1, if_pos (ps12 (by omega) (by omega)), green_m2 hl hl]
    have e : grnA (S 42) l = l := if_neg (fun q => h12 q.1)
    unfold grn
    rw [e]
theorem green_c2 {b : Nat} {T : Row} {go : Int32} {S : St} {l m : Nat} (hR : Rep b T go S) (hl : l < 12) (hm : m < 12) : fX0_greenestNear_L31 b (nI l) (nI m) S = some (nI (if 0 < l ∧ ¬ T (5 + (l - 1)) ≤ T (5 + m) then l - 1 else m), S) := by
  unfold fX0_greenestNear_L31 fX0_greenestNear_L56
  by_cases h0 : l = 0
  · subst h0
    rw [if_pos (by decide), if_neg (by omega)]
  · rw [if_neg (nI_nle (by omega) (by omega)), show (1 : Int32) = nI 1 from rfl, pk_sub (by omega), rd_n (by omega) (by decide), rd_n (by omega) (by decide), hR.gr (by omega), hR.gr hm, bnd_s]
    by_cases hc : T (5 + (l - 1)) ≤ T (5 + m)
    · rw [if_pos hc, if_neg (fun q => q.2 hc)]
    · rw [if_neg hc, if_pos ⟨by omega, hc⟩]
theorem green_c {b : Nat} {T : Row} {go : Int32} {S : St} {l : Nat} (hR : Rep b T go S) (hl : l < 12) : fX0_greenestNear b (nI l) S = some (nI (grn T l), S) := by
  unfold fX0_greenestNear
  by_cases h12 : l + 1 < 12
  · rw [nI_1, if_neg (ng12 h12), rd_n h12 (by decide), rd_n hl (by decide), hR.gr h12, hR.gr hl, bnd_s]
    by_cases hc : T (5 + (l + 1)) ≤ T (5 + l)
    · rw [if_pos hc, green_c2 hR hl hl]
      have e : grnA T l = l := if_neg (fun q => q.2 hc)
      unfold grn
      rw [e]
    · rw [if_neg hc, green_c2 hR hl h12]
      have e : grnA T l = l + 1 := if_pos ⟨h12, hc⟩
      unfold grn
      rw [e]
  · rw [nI_1, if_pos (ps12 (by omega) (by omega)), green_c2 hR hl hl]
    have e : grnA T l = l := if_neg (fun q => h12 q.1)
    unfold grn
    rw [e]
theorem mnI_n {a c : Nat} (ha : a < 2 ^ 31) (hc : c < 2 ^ 31) : mnI (nI a) (nI c) = nI (if c < a then c else a) := by
  unfold mnI
  by_cases h : c < a
  · rw [if_pos h, if_pos (nI_lt h ha)]
  · rw [if_neg h, if_neg (nI_nlt (by omega) hc)]
/-- where a goat would climb -/
def clT (T : Row) (g : Nat) : Nat :=
  if T (17 + 6 * g) = 2 then (if ((T 1 + nI g) - (T 1 + nI g) / 2 * 2) = 0 then grn T (ldN T g) else ldN T g)
  else if T (17 + 6 * g) = 3 then ldN T g
  else if T (17 + 6 * g) = 4 then (if 0 < ldN T g ∧ (T (20 + 6 * g) - T (20 + 6 * g) / 5 * 5) = 0 then ldN T g - 1 else ldN T g)
  else if T (17 + 6 * g) = 5 then (if 11 < ldN T g + 1 then 11 else ldN T g + 1)
  else grn T (ldN T g)
theorem clT_lt {T : Row} (hV : VT T) {g : Nat} (hg : g < 8) : clT T g < 12 := by
  have h1 := (hV.ld hg).1
  have h2 := grn_lt (T := T) h1
  unfold clT
  repeat' split
  all_goals omega
theorem climb_m {S : St} (hV : VT (S 42)) {g : Nat} (hg : g < 8) : fX5_climbsTo (nI g) S = some (nI (clT (S 42) g), S) := by
  obtain ⟨hl, el⟩ := hV.ld hg
  unfold fX5_climbsTo fX5_climbsTo_L66 fX5_climbsTo_L90 fX5_climbsTo_L91 clT
  rw [cl_s (its1 hg S), cl_s (its0 hg S), el, rd1, cl_s (green_m hl), cl_s (its3 hg S), cl_s (least_eq _ _ S)]
  by_cases h2 : S 42 (17 + 6 * g) = 2
  · rw [if_pos h2, if_pos h2, ite_s]
    split <;> rfl
  · rw [if_neg h2, if_neg h2]
    by_cases h3 : S 42 (17 + 6 * g) = 3
    · rw [if_pos h3, if_pos h3]
    · rw [if_neg h3, if_neg h3]
      by_cases h4 : S 42 (17 + 6 * g) = 4
      · rw [if_pos h4, if_pos h4]
        by_cases h0 : ldN (S 42) g = 0
        · rw [if_pos (by rw [h0]; decide), if_neg (fun q => by omega)]
        · rw [if_neg (nI_nle (by omega) (by omega))]
          by_cases ha : (S 42 (20 + 6 * g) - S 42 (20 + 6 * g) / 5 * 5) = 0
          · rw [if_pos ha, if_pos ⟨by omega, ha⟩, show (1 : Int32) = nI 1 from rfl, pk_sub (by omega)]
          · rw [if_neg ha, if_neg (fun q => ha q.2)]
      · rw [if_neg h4, if_neg h4]
        by_cases h5 : S 42 (17 + 6 * g) = 5
        · rw [if_pos h5, if_pos h5, nI_1, show (11 : Int32) = nI 11 from rfl, mnI_n (by omega) (by decide)]
        · rw [if_neg h5, if_neg h5]
theorem climb_c {b : Nat} {T : Row} {go : Int32} {S : St} (hR : Rep b T go S) (hV : VT T) {g : Nat} (hg : g < 8) : fX0_climbsTo b (nI g) S = some (nI (clT T g), S) := by
  obtain ⟨hl, el⟩ := hV.ld hg
  unfold fX0_climbsTo fX0_climbsTo_L64 fX0_climbsTo_L89 clT
  rw [rd_n hg (by decide), rd_n hg (by decide), rd_n hg (by decide), hR.ld hg, hR.kd hg, hR.ag hg, el, hR.dy, cl_s (green_c hR hl)]
  by_cases h2 : T (17 + 6 * g) = 2
  · rw [if_pos h2, if_pos h2, ite_s]
    split <;> rfl
  · rw [if_neg h2, if_neg h2]
    by_cases h3 : T (17 + 6 * g) = 3
    · rw [if_pos h3, if_pos h3]
    · rw [if_neg h3, if_neg h3]
      by_cases h4 : T (17 + 6 * g) = 4
      · rw [if_pos h4, if_pos h4]
        by_cases ha : (T (20 + 6 * g) - T (20 + 6 * g) / 5 * 5) = 0
        · rw [if_pos ha]
          by_cases h0 : ldN T g = 0
          · rw [h0, if_neg (fun q => by omega)]
            have e : mxI (nI 0 - 1) 0 = nI 0 := by decide
            rw [e]
          · rw [if_pos ⟨by omega, ha⟩, show (1 : Int32) = nI 1 from rfl, pk_sub (by omega)]
            have e : mxI (nI (ldN T g - 1)) 0 = nI (ldN T g - 1) := if_neg (nI_pos (by omega))
            rw [e]
        · rw [if_neg ha, if_neg (fun q => ha q.2)]
      · rw [if_neg h4, if_neg h4]
        by_cases h5 : T (17 + 6 * g) = 5
        · rw [if_pos h5, if_pos h5, nI_1, show (11 : Int32) = nI 11 from rfl, mnI_n (by omega) (by decide)]
        · rw [if_neg h5, if_neg h5]
/-- a goat climbs and grazes -/
def lvE (T : Row) (g t : Nat) : Int32 := mnI (grz (T (17 + 6 * g))) (T (5 + t))
def lvT (T : Row) (g : Nat) : Row :=
  upd (upd (upd T (18 + 6 * g) (nI (clT T g))) (5 + clT T g) (T (5 + clT T g) - lvE T g (clT T g))) (21 + 6 * g) (mxI (mnI (T (21 + 6 * g) + lvE T g (clT T g)) 99 - 3) 0)
theorem lvT_n {T : Row} {g j : Nat} (h1 : j ≠ 18 + 6 * g) (h2 : j ≠ 5 + clT T g) (h3 : j ≠ 21 + 6 * g) : lvT T g j = T j := by
  unfold lvT
  rw [upd_n h3, upd_n h2, upd_n h1]
theorem VT.lv {T : Row} (hV : VT T) {g : Nat} (hg : g < 8) : VT (lvT T g) := by
  have ht := clT_lt hV hg
  refine hV.to (lvT_n (by omega) (by omega) (by omega)) (fun j hj => ⟨Or.inl (lvT_n (by omega) (by omega) (by omega)), ?_, Or.inl (lvT_n (by omega) (by omega) (by omega))⟩)
  by_cases e : j = g
  · subst e
    right
    refine ⟨clT T j, ht, ?_⟩
    unfold lvT
    rw [upd_n (by omega), upd_n (by omega), upd_s]
  · exact Or.inl (lvT_n (by omega) (by omega) (by omega))
theorem lives_m {S : St} (hV : VT (S 42)) {g : Nat} (hg : g < 8) : fX5_lives (nI g) S = some ((), upR S 42 (lvT (S 42) g)) := by
  have ht := clT_lt hV hg
  unfold fX5_lives
  have a1 : fX5_at (nI g) 1 S = some (nI (18 + 6 * g), S) := by
    have := at_n g 1 S
    rw [show 17 + 6 * g + 1 = 18 + 6 * g by omega] at this
    exact this
  rw [cl_s a1, cl_s (climb_m hV hg), wr_n (by omega) (by decide)]
  generalize hS1 : up2 S 42 (18 + 6 * g) (nI (clT (S 42) g)) = S1
  have e1 : S1 42 = upd (S 42) (18 + 6 * g) (nI (clT (S 42) g)) := by rw [← hS1, up2_qq]
  rw [cl_s (its1 hg S1), bnd_s, e1, upd_s, n5, cl_s (grazes_m hg S1), rd_n (by omega) (by decide), e1, upd_n (by omega), upd_n (by omega), cl_s (least_eq _ _ S1), rd_n (by omega) (by decide), e1, upd_n (by omega), wr_n (by omega) (by decide)]
  rw [show mnI (grz (S 42 (17 + 6 * g))) (S 42 (5 + clT (S 42) g)) = lvE (S 42) g (clT (S 42) g) from rfl]
  generalize hS2 : up2 S1 42 (5 + clT (S 42) g) (S 42 (5 + clT (S 42) g) - lvE (S 42) g (clT (S 42) g)) = S2
  have e2 : S2 42 = upd (S1 42) (5 + clT (S 42) g) (S 42 (5 + clT (S 42) g) - lvE (S 42) g (clT (S 42) g)) := by rw [← hS2, up2_qq]
  have a4 : fX5_at (nI g) 4 S2 = some (nI (21 + 6 * g), S2) := by
    have := at_n g 4 S2
    rw [show 17 + 6 * g + 4 = 21 + 6 * g by omega] at this
    exact this
  rw [cl_s a4, cl_s (its4 hg S2), e2, upd_n (by omega), e1, upd_n (by omega), cl_s (least_eq _ _ S2), cl_s (greatest_eq _ _ S2), wr_n (by omega) (by decide)]
  rw [mxI_comm, mnI_comm 99, ← hS2, ← hS1]
  unfold lvT
  simp only [upR_up2, upR_qq, upR_upR]
theorem lives_c {b : Nat} {T : Row} {go : Int32} {S : St} (hR : Rep b T go S) (hV : VT T) {g : Nat} (hg : g < 8) : ∃ S', fX0_climbAndGraze b (nI g) S = some ((), S') ∧ Rep b (lvT T g) go S' ∧ Fr b S S' := by
  have ht := clT_lt hV hg
  unfold fX0_climbAndGraze
  rw [cl_s (climb_c hR hV hg), wr_n hg (by decide)]
  have hR1 := hR.s_ld (v := nI (clT T g)) hg
  have hF1 : Fr b S (up2 S (b + 3) g (nI (clT T g))) := Fr.up (by omega)
  generalize up2 S (b + 3) g (nI (clT T g)) = S1 at hR1 hF1 ⊢
  rw [cl_s (grazes_c hR1 hg), rd_n ht (by decide), bnd_s, rd_n ht (by decide), hR1.gr ht, wr_n ht (by decide), upd_n (by omega), upd_n (by omega)]
  rw [show mnI (grz (T (17 + 6 * g))) (T (5 + clT T g)) = lvE T g (clT T g) from rfl]
  have hR2 := hR1.s_gr (v := T (5 + clT T g) - lvE T g (clT T g)) ht
  have hF2 : Fr b S1 (up2 S1 (b + 1) (clT T g) (T (5 + clT T g) - lvE T g (clT T g))) := Fr.up (by omega)
  generalize up2 S1 (b + 1) (clT T g) (T (5 + clT T g) - lvE T g (clT T g)) = S2 at hR2 hF2 ⊢
  rw [rd_n hg (by decide), hR2.fe hg, wr_n hg (by decide), upd_n (by omega), upd_n (by omega)]
  exact ⟨_, rfl, hR2.s_fe hg, (hF1.tr hF2).tr (Fr.up (by omega))⟩
