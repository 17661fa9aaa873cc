/-! odds: both are functions of the two numbers and of how many pages are known; all cases are reckoned -/
def poC : Nat → Int32 → Int32 → Int64 → Int32 → Option Int64
  | 0, _, _, _, _ => none
  | f + 1, x0, x1, x2, x4 => if x1 ≤ x4 then some x2 else poC f x0 x1 (x2 * (Int32.toInt64 x0)) (x4 + 1)
def odC : Nat → Int32 → Int32 → Int32 → Int32 → Option Int64
  | 0, _, _, _, _ => none
  | f + 1, x1, x2, x3, x4 => if x4 ≤ 1 then (if x2 = 0 then poC 17 x3 x1 1 0 else poC 17 x4 x1 1 0) else if (x3 - x3 / 2 * 2) = 0 then odC f x1 x2 (x3 / 2) (x4 / 2) else (if x2 = 0 then poC 17 x3 x1 1 0 else poC 17 x4 x1 1 0)
def omB : Nat → Int32 → Int64 → Int64 → Option Int64
  | 0, _, _, _ => none
  | f + 1, x2, x3, x5 => if (lg_cmp (x3 - x3 / 2 * 2) 0) = 0 then (if (lg_cmp (x5 - x5 / 2 * 2) 0) = 0 then omB f x2 (x3 / 2) (x5 / 2) else some (if x2 = 0 then x3 else x5)) else some (if x2 = 0 then x3 else x5)
def omA : Nat → Int32 → Int32 → Int64 → Int64 → Int32 → Int32 → Option Int64
  | 0, _, _, _, _, _, _ => none
  | f + 1, x1, x2, x3, x5, x7, x8 => if x1 ≤ x8 then (if (lg_cmp x3 0) = 0 then omB 62 x2 x3 1 else omB 62 x2 x3 x5) else omA f x1 x2 (x3 * (Int32.toInt64 x7)) (x5 * 16) x7 (x8 + 1)
theorem od_all : ∀ a, a < 17 → ∀ n, n < 16 → ∀ w, w < 2 → (odC 6 (nI n) (nI w) (nI a) 16).isSome = true ∧ omA 17 (nI n) (nI w) 1 1 (nI a) 0 = odC 6 (nI n) (nI w) (nI a) 16 := by decide +kernel
theorem po_c (S : St) : ∀ (f e : Nat) (x0 x1 : Int32) (x2 : Int64) (x4 : Int32) (r : Int64), poC f x0 x1 x2 x4 = some r → fX4_power_L5 (f + e) x0 x1 x2 x4 S = some (r, S)
  | 0, e, x0, x1, x2, x4, r, h => by
    rw [poC] at h
    cases h
  | f + 1, e, x0, x1, x2, x4, r, h => by
    rw [poC] at h
    rw [show f + 1 + e = (f + e) + 1 by omega]
    unfold fX4_power_L5
    split at h
    · rename_i c
      injection h with h
      rw [if_pos c, h]
    · rename_i c
      rw [if_neg c, bnd_s, bnd_s]
      exact po_c S f e _ _ _ _ r h
theorem pw_c (S : St) {x0 x1 : Int32} {r : Int64} (h : poC 17 x0 x1 1 0 = some r) : fX4_power x0 x1 S = some (r, S) := po_c S 17 1007 x0 x1 1 0 r h
theorem o65_c (S : St) {x1 x2 x3 x4 : Int32} {r : Int64} (h : (if x2 = 0 then poC 17 x3 x1 1 0 else poC 17 x4 x1 1 0) = some r) : fX4_odds_L65 x1 x2 x3 x4 S = some (r, S) := by
  unfold fX4_odds_L65 fX4_odds_L75
  split at h
  · rename_i c
    rw [if_pos c, cl_s (pw_c S h)]
  · rename_i c
    rw [if_neg c, cl_s (pw_c S h)]
theorem od_c (S : St) : ∀ (f e : Nat) (x1 x2 x3 x4 : Int32) (r : Int64), odC f x1 x2 x3 x4 = some r → fX4_odds_L40 (f + e) x1 x2 x3 x4 S = some (r, S)
  | 0, e, x1, x2, x3, x4, r, h => by
    rw [odC] at h
    cases h
  | f + 1, e, x1, x2, x3, x4, r, h => by
    rw [odC] at h
    rw [show f + 1 + e = (f + e) + 1 by omega]
    unfold fX4_odds_L40
    by_cases c : x4 ≤ 1
    · rw [if_pos c] at h ⊢
      exact o65_c S h
    · rw [if_neg c] at h ⊢
      by_cases c2 : (x3 - x3 / 2 * 2) = 0
      · rw [if_pos c2] at h ⊢
        rw [bnd_s, bnd_s]
        exact od_c S f e _ _ _ _ r h
      · rw [if_neg c2] at h ⊢
        exact o65_c S h
theorem o125_m (S : St) (x2 : Int32) (x3 x5 : Int64) : fX5_odds_L125 x2 x3 x5 S = some (if x2 = 0 then x3 else x5, S) := by
  unfold fX5_odds_L125 fX5_odds_L135
  split <;> rfl
theorem ob_m (S : St) : ∀ (f e : Nat) (x2 : Int32) (x3 x5 : Int64) (r : Int64), omB f x2 x3 x5 = some r → fX5_odds_L87 (f + e) x2 x3 x5 S = some (r, S)
  | 0, e, x2, x3, x5, r, h => by
    rw [omB] at h
    cases h
  | f + 1, e, x2, x3, x5, r, h => by
    rw [omB] at h
    rw [show f + 1 + e = (f + e) + 1 by omega]
    unfold fX5_odds_L87
    by_cases c : (lg_cmp (x3 - x3 / 2 * 2) 0) = 0
    · rw [if_pos c] at h ⊢
      by_cases c2 : (lg_cmp (x5 - x5 / 2 * 2) 0) = 0
      · rw [if_pos c2] at h ⊢
        rw [bnd_s, bnd_s]
        exact ob_m S f e _ _ _ r h
      · rw [if_neg c2] at h ⊢
        injection h with h
        rw [o125_m, h]
    · rw [if_neg c] at h ⊢
      injection h with h
      rw [o125_m, h]
theorem oa_m (S : St) : ∀ (f e : Nat) (x1 x2 : Int32) (x3 x5 : Int64) (x7 x8 : Int32) (r : Int64), omA f x1 x2 x3 x5 x7 x8 = some r → fX5_odds_L47 (f + e) x1 x2 x3 x5 x7 x8 S = some (r, S)
  | 0, e, x1, x2, x3, x5, x7, x8, r, h => by
    rw [omA] at h
    cases h
  | f + 1, e, x1, x2, x3, x5, x7, x8, r, h => by
    rw [omA] at h
    rw [show f + 1 + e = (f + e) + 1 by omega]
    unfold fX5_odds_L47 fX5_odds_L85
    by_cases c : x1 ≤ x8
    · rw [if_pos c] at h ⊢
      by_cases c2 : (lg_cmp x3 0) = 0
      · rw [if_pos c2] at h ⊢
        exact ob_m S 62 962 _ _ _ r h
      · rw [if_neg c2] at h ⊢
        exact ob_m S 62 962 _ _ _ r h
    · rw [if_neg c] at h ⊢
      rw [bnd_s, bnd_s, bnd_s]
      exact oa_m S f e _ _ _ _ _ _ r h
theorem isIn15 (a : Int32) (S : St) : fX5_isIn a.toInt64 0 15 S = some (b2i (inR a 16), S) := isIn_n a 15 (by decide) rfl S
theorem within15 (a : Int32) (S : St) : fX4_isWithin a 15 S = some (b2i (inR a 16), S) := within_n a 15 (by decide) S
theorem within1 (a : Int32) (S : St) : fX4_isWithin a 1 S = some (b2i (inR a 2), S) := within_n a 1 (by decide) S
theorem eq_odds : EQ2 Inv fX4_odds fX5_odds := by
  intro n S a1 a2 hI hn
  by_cases h : inR a1 16
  · by_cases h2 : inR a2 2
    · obtain ⟨p, hp, rfl⟩ := inR_n (m := 16) (by decide) h
      obtain ⟨w, hw, rfl⟩ := inR_n (m := 2) (by decide) h2
      obtain ⟨x, hx, ex⟩ := hI.V.knF (0 ^^^ (-1))
      have ex2 : kaF (S 42) 0 = nI x := ex
      obtain ⟨o1, o2⟩ := od_all (bcN x) (by have := @bc_le x; omega) p hp w hw
      obtain ⟨r, hr⟩ := Option.isSome_iff_exists.mp o1
      rw [hr] at o2
      refine ⟨r, S, S, ?_, ?_, inv_stay _ _ hI⟩
      · unfold fX4_odds
        rw [cl_s (within15 _ S), b2i_t h, if_neg one_ne, cl_s (within1 _ S), b2i_t h2, if_neg one_ne, cl_s (pkn_eq hI.R hI.V), ex2, cl_s (bitCount_eq hx S)]
        exact od_c S 6 1018 _ _ _ _ r hr
      · unfold fX5_odds
        rw [cl_s (isIn15 _ S), b2i_t h, if_neg one_ne, cl_s (isIn1 _ S), b2i_t h2, if_neg one_ne, cl_s (ka_eq hI.V), ex2, cl_s (many_eq hx S)]
        exact oa_m S 17 1007 _ _ _ _ _ _ r o2
    · refine ⟨Int32.toInt64 (-1000001), cnC 0 S, cnM 0 (cnC 0 S), ?_, ?_, hI.cn (by decide)⟩
      · unfold fX4_odds fX4_odds_L17
        rw [cl_s (within15 _ S), b2i_t h, if_neg one_ne, cl_s (within1 _ S), b2i_f h2, if_pos rfl, cl_s (fo1 S)]
      · unfold fX5_odds fX5_odds_L22
        rw [cl_s (isIn15 _ _), b2i_t h, if_neg one_ne, cl_s (isIn1 _ _), b2i_f h2, if_pos rfl, cl_s (fq1 _)]
  · refine ⟨Int32.toInt64 (-1000001), cnC 0 S, cnM 0 (cnC 0 S), ?_, ?_, hI.cn (by decide)⟩
    · unfold fX4_odds fX4_odds_L17
      rw [cl_s (within15 _ S), b2i_f h, if_pos rfl, cl_s (fo1 S)]
    · unfold fX5_odds fX5_odds_L22
      rw [cl_s (isIn15 _ _), b2i_f h, if_pos rfl, cl_s (fq1 _)]
