/-! kinds, fits: sheets first -/
theorem miss_c {q : Nat} (S : St) : fX2_isMissing q S = some (b2i (S q 1 = 0), S) := by
  unfold fX2_isMissing fX2_isMissing_L12
  rw [retN_0, retN_1]
  by_cases h : S q 1 = 0
  · rw [if_pos h, b2i_t h]
  · rw [if_neg h, b2i_f h]
theorem ShI.at {S : St} (h : ShI S) {i : Nat} (hi : i < 4) : ∃ m, m ≤ 40 ∧ S (32 + 2 * i) 2 = nI m ∧ S 49 i = nI m ∧ ((S (32 + 2 * i) 1 = 0 ∧ S 48 i = -1) ∨ (¬ S (32 + 2 * i) 1 = 0 ∧ S 48 i = S (32 + 2 * i) 1 ∧ (0 : Int32) ≤ S 48 i ∧ (S (32 + 2 * i) 1 = 8 ∨ S (32 + 2 * i) 1 = 16 ∨ S (32 + 2 * i) 1 = 32))) ∧ ∀ j, j < m → S (33 + 2 * i) j = S 50 (40 * i + j) := by
  obtain ⟨m, h1, h2, h3, h4, h5⟩ := h i hi
  refine ⟨m, h1, h2, h3, ?_, h5⟩
  rcases h4 with h4 | ⟨h4, h6⟩
  · exact Or.inl h4
  · refine Or.inr ⟨?_, h4, ?_, h6⟩
    · rcases h6 with h6 | h6 | h6 <;> rw [h6] <;> decide
    · rw [h4]
      rcases h6 with h6 | h6 | h6 <;> rw [h6] <;> decide
theorem wants_no {a : Int32} (h : ¬ inR a 4) (S : St) : fX5_wants a S = some (-1000001, S) := by
  unfold fX5_wants fX5_wants_L28
  rw [cl_s (sheetG_m a S), b2i_f h, if_pos rfl]
theorem wants_mi {i : Nat} (hi : i < 4) {S : St} (h : S 48 i = -1) : fX5_wants (nI i) S = some (-1000006, S) := by
  have c : ¬ (0 : Int32) ≤ -1 := by decide
  unfold fX5_wants fX5_wants_L28
  rw [cl_s (sheetG_m _ S), b2i_t (show inR (nI i) 4 from inR_j (m := 4) hi (by decide)), if_neg one_ne, rd_n hi (by decide), h, if_neg c]
theorem wants_ok {i : Nat} (hi : i < 4) {S : St} (h : (0 : Int32) ≤ S 48 i) : fX5_wants (nI i) S = some (0, S) := by
  unfold fX5_wants fX5_wants_L28
  rw [cl_s (sheetG_m _ S), b2i_t (show inR (nI i) 4 from inR_j (m := 4) hi (by decide)), if_neg one_ne, rd_n hi (by decide), if_pos h]
/-- the numbers from the k-th on are as told -/
def okA (T : Row) (num : Nat → Int32) (pl k : Nat) : Bool := decide (num k = -1) || decide (num k = daysT T 0 k pl)
def tdB (T : Row) (num : Nat → Int32) (pl : Nat) : Nat → Nat → Bool
  | 0, _ => true
  | f + 1, k => okA T num pl k && tdB T num pl f (k + 1)
theorem cas_st (q n : Nat) (x2 x3 x4 : Int32) (S : St) : fX4_comesAsTold_L3 q (n + 1) x2 x3 x4 S = if (S q 2) ≤ x4 then retN .boolean 1 S else if x4 ≤ 0 then fX4_comesAsTold_L24 q (fun x2 x3 x4 S => fX4_comesAsTold_L3 q n x2 x3 x4 S) x2 x3 x4 S else cl (fX0_passDay 10 S) fun _ S1 => fX4_comesAsTold_L24 q (fun x2 x3 x4 S => fX4_comesAsTold_L3 q n x2 x3 x4 S) x2 x3 x4 S1 := rfl
theorem td_c {T : Row} {num : Nat → Int32} {q g u d m : Nat} (hV : VT T) (ed : T 1 = nI d) (hd : d + 100 ≤ 99999) (hg : g < 8) (hu : u < 6) (hq : 32 ≤ q) (hm : m ≤ 40) : ∀ (f k e : Nat) (S : St), k + f = m → Rep 10 (daysT T 0 (k - 1)) 0 S → S q 2 = nI m → (∀ j, j < m → S (q + 1) j = num j) → ∃ S', fX4_comesAsTold_L3 q (f + 1 + e) (nI g) (nI u) (nI k) S = some (b2i (tdB T num (17 + 6 * g + u) f k = true), S') ∧ Fr 10 S S'
  | 0, k, e, S, h, hR, h2, h3 => by
    refine ⟨S, ?_, Fr.rf⟩
    rw [show 0 + 1 + e = e + 1 by omega]
    unfold fX4_comesAsTold_L3
    rw [h2, if_pos (nI_le (by omega) (by omega)), retN_1]
    rfl
  | f + 1, k, e, S, h, hR, h2, h3 => by
    have step : ∃ S1, fX4_comesAsTold_L3 q (f + 1 + 1 + e) (nI g) (nI u) (nI k) S = fX4_comesAsTold_L24 q (fun x2 x3 x4 S => fX4_comesAsTold_L3 q (f + 1 + e) x2 x3 x4 S) (nI g) (nI u) (nI k) S1 ∧ Rep 10 (daysT T 0 k) 0 S1 ∧ Fr 10 S S1 := by
      rw [show f + 1 + 1 + e = (f + 1 + e) + 1 by omega]
      by_cases hk : k = 0
      · subst hk
        refine ⟨S, ?_, hR, Fr.rf⟩
        rw [cas_st, h2, if_neg (nI_ge (by omega) (by omega)), if_pos (by decide)]
      · obtain ⟨v1, v2, v3⟩ := days_V hV 0 ed (k - 1)
        obtain ⟨S1, p1, p2, p3⟩ := day_c hR v1 v3 (by omega)
        refine ⟨S1, ?_, ?_, p3⟩
        · rw [cas_st, h2, if_neg (nI_ge (by omega) (by omega)), if_neg (nI_nle (by omega) (by omega)), cl_s p1]
        · have e : daysT T 0 k = dayT (daysT T 0 (k - 1)) 0 := by
            conv => lhs; rw [show k = k - 1 + 1 by omega]
            rfl
          rw [e]
          exact p2
    obtain ⟨S1, s1, s2, s3⟩ := step
    have h2' : S1 q 2 = nI m := by rw [s3 q (by omega)]; exact h2
    have h3' : ∀ j, j < m → S1 (q + 1) j = num j := fun j hj => by rw [s3 (q + 1) (by omega)]; exact h3 j hj
    have en : S1 (q + 1) k = num k := h3' k (by omega)
    obtain ⟨S4, t1, t2⟩ := td_c (num := num) (u := u) hV ed hd hg hu hq hm f (k + 1) e S1 (by omega) s2 h2' h3'
    rw [s1]
    unfold fX4_comesAsTold_L24 fX4_comesAsTold_L56
    simp only [bnd_s]
    rw [rd_n (by omega) (by decide), en, nI_1, tdB]
    by_cases c : num k = -1
    · have o : okA T num (17 + 6 * g + u) k = true := by
        simp [okA, c]
      rw [if_pos c, o, Bool.true_and]
      exact ⟨S4, t1, s3.tr t2⟩
    · rw [if_neg c, rd_n (by omega) (by decide), en, cl_s (trait_c s2 hg hu)]
      by_cases c2 : num k = daysT T 0 k (17 + 6 * g + u)
      · have o : okA T num (17 + 6 * g + u) k = true := by
          simp [okA, c2]
        rw [if_pos c2, o, Bool.true_and]
        exact ⟨S4, t1, s3.tr t2⟩
      · have o : okA T num (17 + 6 * g + u) k = false := by
          simp [okA, c, c2]
        rw [if_neg c2, o, Bool.false_and, retN_0]
        exact ⟨S1, rfl, s3⟩
theorem n40 (i k : Nat) : (40 * nI i) + nI k = nI (40 * i + k) := by rw [show (40 : Int32) = nI 40 from rfl, pk_mul, nI_add]
theorem td_0 {T : Row} {B : St} {i pl d m k : Nat} (hV : VT T) (ed : T 1 = nI d) (h42 : B 42 = T) (h45 : ∀ j, j < 75 → B 45 j = T j) (hi : i < 4) (hm : B 49 i = nI m) (n : Nat) : fX5_isTold_L16 (n + 1) (nI i) (nI pl) 0 (nI k) (upR B 42 (daysT T 0 k)) = some (0, B) := by
  unfold fX5_isTold_L16 fX5_isTold_L79
  rw [rd_n hi (by decide), upR_qn (by decide), cl_s (look_back h42 h45 (days_hi hV 0 ed k)), retN_0, if_pos rfl]
  split <;> rfl
theorem td_m {T : Row} {B : St} {i pl d m : Nat} (hV : VT T) (ed : T 1 = nI d) (h42 : B 42 = T) (h45 : ∀ j, j < 75 → B 45 j = T j) (hi : i < 4) (hpl : pl < 75) (hm40 : m ≤ 40) (hm : B 49 i = nI m) : ∀ (f k e : Nat), k + f = m → fX5_isTold_L16 (f + 1 + 1 + e) (nI i) (nI pl) 1 (nI k) (upR B 42 (daysT T 0 k)) = some (b2i (tdB T (fun j => B 50 (40 * i + j)) pl f k = true), B)
  | 0, k, e, h => by
    rw [show 0 + 1 + 1 + e = (e + 1) + 1 by omega]
    unfold fX5_isTold_L16 fX5_isTold_L79
    rw [rd_n hi (by decide), upR_qn (by decide), hm, if_pos (nI_le (by omega) (by omega)), cl_s (look_back h42 h45 (days_hi hV 0 ed k)), retN_1]
    rfl
  | f + 1, k, e, h => by
    obtain ⟨v1, v2, v3⟩ := days_V hV 0 ed k
    have ih := td_m hV ed h42 h45 hi hpl hm40 hm f (k + 1) e (by omega)
    have i0 := td_0 (pl := pl) (k := k + 1) hV ed h42 h45 hi hm (f + 1 + e)
    rw [show f + 1 + 1 + e = (f + 1 + e) + 1 by omega] at ih
    rw [show f + 1 + 1 + 1 + e = ((f + 1 + e) + 1) + 1 by omega]
    conv => lhs; unfold fX5_isTold_L16
    unfold fX5_isTold_L62 fX5_isTold_L67
    simp only [bnd_s]
    rw [rd_n hi (by decide), upR_qn (by decide), hm, if_neg (nI_ge (by omega) (by omega)), if_neg one_ne, n40, rd_n (by omega) (by decide), upR_qn (by decide), nI_1, tdB]
    have hdy : fX5_dayBut 0 (upR B 42 (daysT T 0 k)) = some ((), upR B 42 (daysT T 0 (k + 1))) := by
      rw [day_m (by rw [upR_qq]; exact v1) 0, upR_qq, upR_upR]
      rfl
    by_cases c : B 50 (40 * i + k) = -1
    · have o : okA T (fun j => B 50 (40 * i + j)) pl k = true := by
        simp [okA, c]
      rw [if_pos c, o, Bool.true_and, cl_s hdy]
      exact ih
    · rw [if_neg c, rd_n hpl (by decide), upR_qq]
      by_cases c2 : B 50 (40 * i + k) = daysT T 0 k pl
      · have o : okA T (fun j => B 50 (40 * i + j)) pl k = true := by
          simp [okA, c2]
        rw [if_pos c2, o, Bool.true_and, cl_s hdy]
        exact ih
      · have o : okA T (fun j => B 50 (40 * i + j)) pl k = false := by
          simp [okA, c, c2]
        rw [if_neg c2, o, Bool.false_and, cl_s hdy]
        exact i0
theorem told_m {S : St} {i pl d m : Nat} (hV : VT (S 42)) (ed : S 42 1 = nI d) (hi : i < 4) (hpl : pl < 75) (hm40 : m ≤ 40) (hm : S 49 i = nI m) : ∃ B, fX5_isTold (nI i) (nI pl) S = some (b2i (tdB (S 42) (fun j => S 50 (40 * i + j)) pl m 0 = true), B) ∧ ∀ q, q ≠ 45 → B q = S q := by
  obtain ⟨B, b1, b2, b3, b4⟩ := look_go S
  have h := td_m (B := B) (T := S 42) (pl := pl) hV ed b2 b4 hi hpl hm40 (by rw [b3 49 (by decide)]; exact hm) m 0 (1022 - m) (by omega)
  have e0 : upR B 42 (daysT (S 42) 0 0) = B := by
    show upR B 42 (S 42) = B
    rw [← b2]
    exact upR_self
  rw [e0, b3 50 (by decide), show m + 1 + 1 + (1022 - m) = FU by unfold FU; omega] at h
  refine ⟨B, ?_, b3⟩
  unfold fX5_isTold
  rw [cl_s b1]
  exact h
/-- what it could be -/
def tsF (T : Row) (num : Nat → Int32) (g w pl m : Nat) : Nat → Int32
  | 0 => 0
  | v + 1 => if tdB (upd T (17 + 6 * g + w) (nI v)) num pl m 0 = true then tsF T num g w pl m v ||| b1 v else tsF T num g w pl m v
theorem tdB_cong {T : Row} {a b : Nat → Int32} {pl m : Nat} : ∀ (f k : Nat), k + f = m → (∀ j, j < m → a j = b j) → tdB T a pl f k = tdB T b pl f k
  | 0, k, h, e => rfl
  | f + 1, k, h, e => by
    rw [tdB, tdB, tdB_cong f (k + 1) (by omega) e]
    unfold okA
    rw [e k (by omega)]
theorem tsF_cong {T : Row} {a b : Nat → Int32} {g w pl m : Nat} (e : ∀ j, j < m → a j = b j) : ∀ v, tsF T a g w pl m v = tsF T b g w pl m v
  | 0 => rfl
  | v + 1 => by rw [tsF, tsF, tsF_cong e v, tdB_cong m 0 (by omega) e]
theorem ts_c {T : Row} {num : Nat → Int32} {n i g w u d m k : Nat} (hT : RwI n T) (hi : i < 4) (hg : g < 8) (hw : w < 6) (hu : u < 6) (hk : k ≤ tvM w) (hk12 : k ≤ 12) (ed : T 1 = nI d) (hd : d + 100 ≤ 99999) (hm : m ≤ 40) : ∀ (f v : Nat) (S : St), v ≤ k → k - v < f → Rep 1 T 0 S → S (32 + 2 * i) 2 = nI m → (∀ j, j < m → S (33 + 2 * i) j = num j) → ∃ S', fX4_traitsAsTold_L54 f (nI i) (nI g) (nI w) (nI k) (nI u) (tsF T num g w (17 + 6 * g + u) m v) (nI v) S = some (tsF T num g w (17 + 6 * g + u) m k, S') ∧ Fr 10 S S'
  | 0, v, S, h1, h2, hR, h3, h4 => by omega
  | f + 1, v, S, h1, h2, hR, h3, h4 => by
    by_cases hv : k ≤ v
    · unfold fX4_traitsAsTold_L54
      rw [if_pos (nI_le hv (by omega)), show v = k by omega]
      exact ⟨S, rfl, Fr.rf⟩
    · obtain ⟨S1, p1, p2, p3⟩ := become_c (b := 10) hR (by omega)
      have q2 := p2.s_w (v := nI v) hg hw
      have hT2 := hT.gt (v := nI v) hg hw ⟨v, by omega, rfl⟩
      have ed2 : upd T (17 + 6 * g + w) (nI v) 1 = nI d := by rw [upd_n (by omega)]; exact ed
      have F2 : Fr 10 S (up2 S1 (10 + (2 + w)) g (nI v)) := p3.tr (Fr.up (by omega))
      obtain ⟨S3, r1, r2⟩ := td_c (num := num) (q := 32 + 2 * i) (u := u) hT2.1 ed2 hd hg hu (by omega) hm m 0 (1023 - m) _ (by omega) q2 (by rw [F2 _ (by omega)]; exact h3) (fun j hj => by rw [show 32 + 2 * i + 1 = 33 + 2 * i by omega, F2 _ (by omega)]; exact h4 j hj)
      rw [show m + 1 + (1023 - m) = FU by unfold FU; omega] at r1
      have r1' : fX4_comesAsTold (32 + 2 * i) (nI g) (nI u) (up2 S1 (10 + (2 + w)) g (nI v)) = some (b2i (tdB (upd T (17 + 6 * g + w) (nI v)) num (17 + 6 * g + u) m 0 = true), S3) := r1
      have F : Fr 10 S S3 := F2.tr r2
      obtain ⟨S4, t1, t2⟩ := ts_c (num := num) hT hi hg hw hu hk hk12 ed hd hm f (v + 1) S3 (by omega) (by omega) (hR.f10 F) (by rw [F _ (by omega)]; exact h3) (fun j hj => by rw [F _ (by omega)]; exact h4 j hj)
      refine ⟨S4, ?_, F.tr t2⟩
      rw [← t1]
      conv => lhs; unfold fX4_traitsAsTold_L54
      unfold fX4_traitsAsTold_L108
      simp only [bnd_s]
      rw [if_neg (nI_ge (by omega) (by omega)), cl_s p1, cl_s (setTrait_c hg hw), ink_n hi (by decide), nI_clamp (by omega), cl_s r1', nI_1, tsF]
      by_cases c : tdB (upd T (17 + 6 * g + w) (nI v)) num (17 + 6 * g + u) m 0 = true
      · rw [b2i_t c, if_neg one_ne, if_pos c]
        rfl
      · rw [b2i_f c, if_pos rfl, if_neg c]
theorem ts_m {T : Row} {num : Nat → Int32} {n i g w u d m : Nat} (hT : RwI n T) (hi : i < 4) (hg : g < 8) (hw : w < 6) (hu : u < 6) (hk12 : tvM w ≤ 12) (ed : T 1 = nI d) (hm : m ≤ 40) : ∀ (f v : Nat) (S : St) (x : Int32), v ≤ tvM w → tvM w - v < f → S 42 = upd T (17 + 6 * g + w) x → S 49 i = nI m → (∀ j, S 50 (40 * i + j) = num j) → ∃ S', fX5_couldBe_L58 f (nI i) (nI g) (nI w) (nI u) (T (17 + 6 * g + w)) (tsF T num g w (17 + 6 * g + u) m v) (nI v) S = some (tsF T num g w (17 + 6 * g + u) m (tvM w), S') ∧ S' 42 = T ∧ ∀ q, q ≠ 42 → q ≠ 45 → S' q = S q
  | 0, v, S, x, h1, h2, h42, h3, h4 => by omega
  | f + 1, v, S, x, h1, h2, h42, h3, h4 => by
    have hk := (@tvM_le w).1
    by_cases hv : tvM w ≤ v
    · unfold fX5_couldBe_L58
      rw [cl_s (gof_m w hw S), if_pos (nI_lt (by omega) (by omega)), cl_s (at_n g w S), wr_n (by omega) (by decide), show v = tvM w by omega]
      refine ⟨_, rfl, ?_, fun q h1 h2 => up2_qn h1⟩
      rw [up2_qq, h42, upd_upd, upd_self]
    · have hT2 := hT.gt (v := nI v) hg hw ⟨v, by omega, rfl⟩
      have ed2 : upd T (17 + 6 * g + w) (nI v) 1 = nI d := by rw [upd_n (by omega)]; exact ed
      have e5 : up2 S 42 (17 + 6 * g + w) (nI v) 42 = upd T (17 + 6 * g + w) (nI v) := by rw [up2_qq, h42, upd_upd]
      obtain ⟨B, b1, b2⟩ := told_m (S := up2 S 42 (17 + 6 * g + w) (nI v)) (i := i) (pl := 17 + 6 * g + u) (d := d) (by rw [e5]; exact hT2.1) (by rw [e5]; exact ed2) hi (by omega) hm (by rw [up2_qn (by decide)]; exact h3)
      have en : (fun j => up2 S 42 (17 + 6 * g + w) (nI v) 50 (40 * i + j)) = num := by
        funext j
        rw [up2_qn (by decide)]
        exact h4 j
      rw [e5, en] at b1
      obtain ⟨S4, t1, t2, t3⟩ := ts_m (num := num) hT hi hg hw hu hk12 ed hm f (v + 1) B (nI v) (by omega) (by omega) (by rw [b2 42 (by decide)]; exact e5) (by rw [b2 49 (by decide), up2_qn (by decide)]; exact h3) (fun j => by rw [b2 50 (by decide), up2_qn (by decide)]; exact h4 j)
      refine ⟨S4, ?_, t2, fun q h1 h2 => by rw [t3 q h1 h2, b2 q h2, up2_qn h1]⟩
      rw [← t1]
      conv => lhs; unfold fX5_couldBe_L58
      unfold fX5_couldBe_L103
      simp only [bnd_s]
      rw [cl_s (gof_m w hw S), if_neg (nI_nlt (by omega) (by omega)), cl_s (at_n g w S), wr_n (by omega) (by decide), cl_s (at_n g u _), cl_s b1, nI_1, tsF]
      by_cases c : tdB (upd T (17 + 6 * g + w) (nI v)) num (17 + 6 * g + u) m 0 = true
      · rw [b2i_t c, if_neg one_ne, if_pos c]
        rfl
      · rw [b2i_f c, if_pos rfl, if_neg c, i_or0]
theorem as_told {n w u : Nat} {S : St} {a1 a2 : Int32} (hI : Inv n S) (hn : n < 512) (hw : w < 6) (hu : u < 6) (hk12 : tvM w ≤ 12) : ∃ (r : Int32) (S1 S2 : St), fX4_traitsAsTold a1 a2 (nI w) (nI (tvM w)) (nI u) S = some (r, S1) ∧ fX5_couldBe a1 a2 (nI w) (nI u) S1 = some (r, S2) ∧ Inv (n + 1) S2 := by
  have y1 : ¬ (-1000001 : Int32) = 0 := by decide
  have y6 : ¬ (-1000006 : Int32) = 0 := by decide
  by_cases h : inR a1 4
  · obtain ⟨i, hi, rfl⟩ := inR_n (m := 4) (by decide) h
    obtain ⟨m, m1, m2, m3, m4, m5⟩ := hI.2.2.2.1.at hi
    rcases m4 with ⟨k1, k2⟩ | ⟨k1, k2, k3, k4⟩
    · have e48 : cnC 5 S 48 i = -1 := by
        have : cnC 5 S 48 = S 48 := up2_qn (by decide)
        rw [this]
        exact k2
      refine ⟨-1000006, cnC 5 S, cnM 5 (cnC 5 S), ?_, ?_, hI.cn (by decide)⟩
      · unfold fX4_traitsAsTold
        rw [cl_s (sheetG_c _ S), b2i_t h, if_neg one_ne, ink_n hi (by decide), nI_clamp (by omega), cl_s (miss_c S), b2i_t k1, if_neg one_ne, cl_s (fo6 S)]
      · unfold fX5_couldBe fX5_couldBe_L30
        rw [cl_s (wants_mi hi e48), if_neg y6, cl_s (wants_mi hi e48), if_neg y6, cl_s (fq6 _)]
    · by_cases h2 : inR a2 (S 42 0)
      · obtain ⟨g, hg, hgn, rfl⟩ := goatN hI h2
        obtain ⟨d, hd, ed⟩ := hI.1.1.2.1
        obtain ⟨S1, p1, p2⟩ := ts_c (num := fun j => S 50 (40 * i + j)) (u := u) hI.1.1 hi hg hw hu (Nat.le_refl _) hk12 ed (by omega) m1 FU 0 S (by omega) (by unfold FU; omega) hI.R m2 m5
        have e42 : S1 42 = S 42 := p2 42 (by omega)
        obtain ⟨S2, q1, q2, q3⟩ := ts_m (num := fun j => S 50 (40 * i + j)) (u := u) hI.1.1 hi hg hw hu hk12 ed m1 FU 0 S1 (S 42 (17 + 6 * g + w)) (by omega) (by unfold FU; omega) (by rw [upd_self]; exact e42) (by rw [p2 49 (by omega)]; exact m3) (fun j => by rw [p2 50 (by omega)])
        refine ⟨tsF (S 42) (fun j => S 50 (40 * i + j)) g w (17 + 6 * g + u) m (tvM w), S1, S2, ?_, ?_, inv_stay _ _ ((hI.lk (Lk.fr p2)).lk ⟨fun k h1 h2 h3 => q3 k h2 h3, ?_⟩)⟩
        · unfold fX4_traitsAsTold
          rw [cl_s (sheetG_c _ S), b2i_t h, if_neg one_ne, ink_n hi (by decide), nI_clamp (by omega), cl_s (miss_c S), b2i_f k1, if_pos rfl, cl_s (goatG_c _ hI.R), b2i_t h2, if_neg one_ne]
          exact p1
        · have w0 : fX5_wants (nI i) S1 = some (0, S1) := wants_ok hi (by rw [p2 48 (by omega)]; exact k3)
          unfold fX5_couldBe fX5_couldBe_L30
          rw [cl_s w0, if_pos rfl, cl_s (goatG_m _ _), e42, b2i_t h2, if_neg one_ne, if_pos rfl, cl_s (its_n hg hw _), e42]
          exact q1
        · rw [q2, e42]
          exact EqT.rf
      · refine hI.bad ?_ ?_
        · unfold fX4_traitsAsTold
          rw [cl_s (sheetG_c _ S), b2i_t h, if_neg one_ne, ink_n hi (by decide), nI_clamp (by omega), cl_s (miss_c S), b2i_f k1, if_pos rfl, cl_s (goatG_c _ hI.R), b2i_f h2, if_pos rfl, cl_s (fo1 S)]
        · intro S1 hS1
          have e42 : S1 42 = S 42 := by rw [hS1]; exact up2_qn (by omega)
          have e48 : S1 48 = S 48 := by rw [hS1]; exact up2_qn (by omega)
          have w0 : fX5_wants (nI i) S1 = some (0, S1) := wants_ok hi (by rw [e48]; exact k3)
          unfold fX5_couldBe fX5_couldBe_L30
          rw [cl_s w0, if_pos rfl, cl_s (goatG_m _ _), e42, b2i_f h2, if_pos rfl, if_neg y1, cl_s (fq1 S1)]
  · refine hI.bad ?_ ?_
    · unfold fX4_traitsAsTold
      rw [cl_s (sheetG_c _ S), b2i_f h, if_pos rfl, cl_s (fo1 S)]
    · intro S1 _
      unfold fX5_couldBe fX5_couldBe_L30
      rw [cl_s (wants_no h S1), if_neg y1, cl_s (wants_no h S1), if_neg y1, cl_s (fq1 S1)]
theorem eq_kinds : EQ2 Inv fX4_kinds fX5_kinds := by
  intro n S a1 a2 hI hn
  obtain ⟨r, S1, S2, p1, p2, p3⟩ := as_told (w := 0) (u := 1) (a1 := a1) (a2 := a2) hI hn (by decide) (by decide) (by decide)
  have p1' : fX4_traitsAsTold a1 a2 0 7 1 S = some (r, S1) := p1
  have p2' : fX5_couldBe a1 a2 0 1 S1 = some (r, S2) := p2
  refine ⟨r, S1, S2, ?_, ?_, p3⟩
  · unfold fX4_kinds
    rw [cl_s p1']
  · unfold fX5_kinds
    rw [cl_s p2']
theorem eq_fits : EQ2 Inv fX4_fits fX5_fits := by
  intro n S a1 a2 hI hn
  obtain ⟨r, S1, S2, p1, p2, p3⟩ := as_told (w := 1) (u := 4) (a1 := a1) (a2 := a2) hI hn (by decide) (by decide) (by decide)
  have p1' : fX4_traitsAsTold a1 a2 1 12 4 S = some (r, S1) := p1
  have p2' : fX5_couldBe a1 a2 1 4 S1 = some (r, S2) := p2
  refine ⟨r, S1, S2, ?_, ?_, p3⟩
  · unfold fX4_fits
    rw [cl_s p1']
  · unfold fX5_fits
    rw [cl_s p2']
