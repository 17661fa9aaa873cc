/-! load -/
def ldS (num : Nat → Int32) : Nat → Nat → Row → Nat × Row
  | 0, i, T => (i, T)
  | f + 1, i, T => if inR (num i) 100 then ldS num f (i + 1) (upd T (5 + i) (num i)) else (i, T)
theorem ldS_I {num : Nat → Int32} {n : Nat} : ∀ (f i : Nat) (T : Row), i + f ≤ 12 → RwI n T → RwI n (ldS num f i T).2
  | 0, i, T, h, hT => hT
  | f + 1, i, T, h, hT => by
    rw [ldS]
    split
    · exact ldS_I f (i + 1) _ (by omega) (hT.lo (by omega) (by omega))
    · exact hT
theorem ld_c {num : Nat → Int32} {s k : Nat} (hs : s < 4) (hk : k ≤ 12) : ∀ (f i e : Nat) (S : St) (T : Row), i + f = k → Rep 1 T 0 S → (∀ j, j < k → S (33 + 2 * s) j = num j) → ∃ S', fX4_load_L50 (f + 1 + e) (nI s) (nI i) (nI k) S = some (nI (ldS num f i T).1, S') ∧ Rep 1 (ldS num f i T).2 0 S' ∧ Fr 1 S S'
  | 0, i, e, S, T, h, hR, h3 => by
    rw [show 0 + 1 + e = e + 1 by omega]
    unfold fX4_load_L50 fX4_load_L100
    rw [if_pos (nI_le (by omega) (by omega))]
    exact ⟨S, rfl, hR, Fr.rf⟩
  | f + 1, i, e, S, T, h, hR, h3 => by
    rw [show f + 1 + 1 + e = (f + 1 + e) + 1 by omega]
    have en : S (32 + 2 * s + 1) i = num i := by
      rw [show 32 + 2 * s + 1 = 33 + 2 * s by omega]
      exact h3 i (by omega)
    rw [ldS]
    by_cases c : inR (num i) 100
    · obtain ⟨S', p1, p2, p3⟩ := ld_c (num := num) hs hk f (i + 1) e (up2 S (1 + 1) i (num i)) (upd T (5 + i) (num i)) (by omega) (hR.s_gr (by omega)) (fun j hj => by rw [up2_qn (by omega)]; exact h3 j hj)
      rw [if_pos c]
      refine ⟨S', ?_, p2, (Fr.up (by omega)).tr p3⟩
      rw [← p1]
      conv => lhs; unfold fX4_load_L50
      unfold fX4_load_L100
      rw [if_neg (nI_ge (by omega) (by omega)), ink_n hs (by decide), nI_clamp (by omega), rd_n (by omega) (by decide), en, cl_s (within99 _ S), b2i_t c, if_neg one_ne, ink_n hs (by decide), rd_n (by omega) (by decide), en, wr_n (by omega) (by decide), bnd_s, nI_1]
    · rw [if_neg c]
      refine ⟨S, ?_, hR, Fr.rf⟩
      unfold fX4_load_L50 fX4_load_L100
      rw [if_neg (nI_ge (by omega) (by omega)), ink_n hs (by decide), nI_clamp (by omega), rd_n (by omega) (by decide), en, cl_s (within99 _ S), b2i_f c, if_pos rfl]
theorem ld_m {num : Nat → Int32} {B : St} {s m k : Nat} (hs : s < 4) (hm : m ≤ 40) (hk : k = if 12 < m then 12 else m) (h49 : B 49 s = nI m) (h50 : ∀ j, j < k → B 50 (40 * s + j) = num j) : ∀ (f i e : Nat) (T : Row), i + f = k → fX5_load_L20 (f + 1 + e) (nI s) (nI i) (upR B 42 T) = some (nI (ldS num f i T).1, upR B 42 (ldS num f i T).2)
  | 0, i, e, T, h => by
    rw [show 0 + 1 + e = e + 1 by omega]
    unfold fX5_load_L20 fX5_load_L83
    rw [rd_n hs (by decide), upR_qn (by decide), h49]
    have hk12 : k ≤ 12 := by
      rw [hk]
      split <;> omega
    by_cases c : m ≤ i
    · rw [if_pos (nI_le c (by omega))]
      rfl
    · have c12 : 12 ≤ i := by
        rw [hk] at h
        split at h <;> omega
      rw [if_neg (nI_ge (by omega) (by omega)), if_pos (ps12 c12 (by omega))]
      rfl
  | f + 1, i, e, T, h => by
    have c1 : i < m ∧ i < 12 := by
      rw [hk] at h
      split at h <;> omega
    have en : B 50 (40 * s + i) = num i := h50 i (by omega)
    rw [show f + 1 + 1 + e = (f + 1 + e) + 1 by omega, ldS]
    by_cases c : inR (num i) 100
    · rw [if_pos c, ← ld_m hs hm hk h49 h50 f (i + 1) e _ (by omega)]
      conv => lhs; unfold fX5_load_L20
      unfold fX5_load_L83
      rw [rd_n hs (by decide), upR_qn (by decide), h49, if_neg (nI_ge c1.1 (by omega)), if_neg (ng12 c1.2), n40, rd_n (by omega) (by decide), upR_qn (by decide), en, cl_s (isIn99 _ _), b2i_t c, if_neg one_ne, rd_n (by omega) (by decide), upR_qn (by decide), en, n5, wr_n (by omega) (by decide), bnd_s, nI_1, upR_up2, upR_qq, upR_upR]
    · rw [if_neg c]
      unfold fX5_load_L20 fX5_load_L83
      rw [rd_n hs (by decide), upR_qn (by decide), h49, if_neg (nI_ge c1.1 (by omega)), if_neg (ng12 c1.2), n40, rd_n (by omega) (by decide), upR_qn (by decide), en, cl_s (isIn99 _ _), b2i_f c, if_pos rfl]
theorem eq_load : EQ1 Inv fX4_load fX5_load := by
  intro n S a1 hI hn
  have y1 : ¬ (-1000001 : Int32) = 0 := by decide
  have y6 : ¬ (-1000006 : Int32) = 0 := by decide
  by_cases h : inR a1 4
  · obtain ⟨s, hs, rfl⟩ := inR_n (m := 4) (by decide) h
    obtain ⟨m, m1, m2, m3, m4, m5⟩ := hI.2.2.2.1.at hs
    rcases m4 with ⟨k1, k2⟩ | ⟨k1, k2, k3, k4⟩
    · refine hI.missing ?_ ?_
      · unfold fX4_load
        rw [cl_s (sheetG_c _ S), b2i_t h, if_neg one_ne, ink_n hs (by decide), nI_clamp (by omega), cl_s (miss_c S), b2i_t k1, if_neg one_ne, cl_s (fo6 S)]
      · intro S1 hS1
        have e48 : S1 48 = S 48 := by rw [hS1]; exact up2_qn (by decide)
        have w0 : fX5_wants (nI s) S1 = some (-1000006, S1) := wants_mi hs (by rw [e48]; exact k2)
        unfold fX5_load
        rw [cl_s w0, if_neg y6, cl_s w0, cl_s (fq6 S1)]
    · have hk : ∃ k, k = if 12 < m then 12 else m := ⟨_, rfl⟩
      obtain ⟨k, hk⟩ := hk
      have hk12 : k ≤ 12 ∧ k ≤ m := by
        rw [hk]
        split <;> omega
      have mn : mnI (nI m) 12 = nI k := by
        rw [hk, show (12 : Int32) = nI 12 from rfl, mnI_n (by omega) (by decide)]
      obtain ⟨S1, p1, p2, p3⟩ := ld_c (num := S (33 + 2 * s)) hs hk12.1 k 0 (1023 - k) S (S 42) (by omega) hI.R (fun _ _ => rfl)
      rw [show k + 1 + (1023 - k) = FU by unfold FU; omega] at p1
      have e42 : S1 42 = S 42 := p3 42 (by omega)
      have q1 := ld_m (num := S (33 + 2 * s)) (B := S1) hs m1 hk (by rw [p3 49 (by omega)]; exact m3) (fun j hj => by rw [p3 50 (by omega)]; exact (m5 j (by omega)).symm) k 0 (1023 - k) (S 42) (by omega)
      rw [show k + 1 + (1023 - k) = FU by unfold FU; omega, show upR S1 42 (S 42) = S1 by rw [← e42]; exact upR_self] at q1
      refine ⟨nI (ldS (S (33 + 2 * s)) k 0 (S 42)).1, S1, upR S1 42 (ldS (S (33 + 2 * s)) k 0 (S 42)).2, ?_, ?_, ?_⟩
      · unfold fX4_load
        rw [cl_s (sheetG_c _ S), b2i_t h, if_neg one_ne, ink_n hs (by decide), nI_clamp (by omega), cl_s (miss_c S), b2i_f k1, if_pos rfl, ink_n hs (by decide), m2, mn, bnd_s]
        exact p1
      · have w0 : fX5_wants (nI s) S1 = some (0, S1) := wants_ok hs (by rw [p3 48 (by omega)]; exact k3)
        unfold fX5_load
        rw [cl_s w0, if_pos rfl]
        exact q1
      · refine hI.row (m := n) (fun q h1 h2 h3 h4 h5 => by rw [upR_qn h3]; exact p3 q (by omega)) upR_qq (p2.fr (fun i hi => upR_qn (by omega))) (ldS_I k 0 _ (by omega) hI.1.1) (by omega)
  · refine hI.bad ?_ ?_
    · unfold fX4_load
      rw [cl_s (sheetG_c _ S), b2i_f h, if_pos rfl, cl_s (fo1 S)]
    · intro S1 _
      unfold fX5_load
      rw [cl_s (wants_no h S1), if_neg y1, cl_s (wants_no h S1), cl_s (fq1 S1)]
/-! judge -/
def jdO (T : Row) (num : Nat → Int32) : Nat → Nat → Option Nat
  | 0, _ => none
  | f + 1, i => if i < nN T ∧ T (19 + 6 * i) = num i then jdO T num f (i + 1) else some i
def jdI : Option Nat → Int32
  | none => 0
  | some i => 1 + nI i
theorem jd_c {T : Row} {num : Nat → Int32} {s m : Nat} {S : St} (hs : s < 4) (hm : m ≤ 40) (hV : VT T) (hR : Rep 1 T 0 S) (h2 : S (32 + 2 * s) 2 = nI m) (h3 : ∀ j, j < m → S (33 + 2 * s) j = num j) : ∀ (f i e : Nat), i + f = m → fX4_judge_L35 (f + 1 + e) (nI s) (nI i) S = some (jdI (jdO T num f i), S)
  | 0, i, e, h => by
    rw [show 0 + 1 + e = e + 1 by omega]
    unfold fX4_judge_L35
    rw [ink_n hs (by decide), nI_clamp (by omega), h2, if_pos (nI_le (by omega) (by omega))]
    rfl
  | f + 1, i, e, h => by
    have h8 := hV.n8
    have ih := jd_c hs hm hV hR h2 h3 f (i + 1) e (by omega)
    have en : S (32 + 2 * s + 1) i = num i := by
      rw [show 32 + 2 * s + 1 = 33 + 2 * s by omega]
      exact h3 i (by omega)
    rw [show f + 1 + 1 + e = (f + 1 + e) + 1 by omega, jdO]
    unfold fX4_judge_L35 fX4_judge_L79
    rw [ink_n hs (by decide), nI_clamp (by omega), h2, if_neg (nI_ge (by omega) (by omega)), cl_s (goatG_c _ hR)]
    by_cases c : i < nN T
    · have g : inR (nI i) (T 0) := by rw [hV.n]; exact inR_j c (by omega)
      rw [b2i_t g, if_neg one_ne, rd_n (by omega) (by decide), hR.kn (by omega), ink_n hs (by decide), rd_n (by omega) (by decide), en]
      by_cases c2 : T (19 + 6 * i) = num i
      · rw [if_pos c2, if_pos ⟨c, c2⟩, bnd_s, nI_1]
        exact ih
      · rw [if_neg c2, if_neg (fun q => c2 q.2)]
        rfl
    · have g : ¬ inR (nI i) (T 0) := by
        rw [hV.n]
        exact fun q => q.2 (nI_le (by omega) (by omega))
      rw [b2i_f g, if_pos rfl, if_neg (fun q => c q.1)]
      rfl
theorem jd_m {num : Nat → Int32} {s m : Nat} {S : St} (hs : s < 4) (hm : m ≤ 40) (hV : VT (S 42)) (h2 : S 49 s = nI m) (h3 : ∀ j, j < m → S 50 (40 * s + j) = num j) : ∀ (f i e : Nat), i + f = m → fX5_judge_L20 (f + 1 + e) (nI s) (nI i) S = some (jdI (jdO (S 42) num f i), S)
  | 0, i, e, h => by
    rw [show 0 + 1 + e = e + 1 by omega]
    unfold fX5_judge_L20 fX5_judge_L64 fX5_judge_L81
    have c : nI m ≤ nI i := nI_le (by omega) (by omega)
    rw [rd_n hs (by decide), h2, if_pos c, rd_n hs (by decide), h2, if_pos c]
    rfl
  | f + 1, i, e, h => by
    have h8 := hV.n8
    have ih := jd_m hs hm hV h2 h3 f (i + 1) e (by omega)
    have en : S 50 (40 * s + i) = num i := h3 i (by omega)
    have c0 : ¬ nI m ≤ nI i := nI_ge (by omega) (by omega)
    have l64 : fX5_judge_L64 (nI s) (nI i) S = some (1 + nI i, S) := by
      unfold fX5_judge_L64 fX5_judge_L81
      rw [rd_n hs (by decide), h2, if_neg c0]
    rw [show f + 1 + 1 + e = (f + 1 + e) + 1 by omega, jdO]
    unfold fX5_judge_L20
    rw [rd_n hs (by decide), h2, if_neg c0, cl_s (goatG_m _ S), l64]
    by_cases c : i < nN (S 42)
    · have g : inR (nI i) (S 42 0) := by rw [hV.n]; exact inR_j c (by omega)
      rw [b2i_t g, if_neg one_ne, n40, rd_n (by omega) (by decide), en, cl_s (its2 (by omega) S)]
      by_cases c2 : S 42 (19 + 6 * i) = num i
      · rw [if_pos c2.symm, if_pos ⟨c, c2⟩, bnd_s, nI_1]
        exact ih
      · rw [if_neg (fun q => c2 q.symm), if_neg (fun q => c2 q.2), l64]
        rfl
    · have g : ¬ inR (nI i) (S 42 0) := by
        rw [hV.n]
        exact fun q => q.2 (nI_le (by omega) (by omega))
      rw [b2i_f g, if_pos rfl, if_neg (fun q => c q.1)]
      rfl
theorem eq_judge : EQ1 Inv fX4_judge fX5_judge := by
  intro n S a1 hI hn
  have y1 : ¬ (-1000001 : Int32) = 0 := by decide
  have y6 : ¬ (-1000006 : Int32) = 0 := by decide
  by_cases h : inR a1 4
  · obtain ⟨s, hs, rfl⟩ := inR_n (m := 4) (by decide) h
    obtain ⟨m, m1, m2, m3, m4, m5⟩ := hI.2.2.2.1.at hs
    rcases m4 with ⟨k1, k2⟩ | ⟨k1, k2, k3, k4⟩
    · refine hI.missing ?_ ?_
      · unfold fX4_judge
        rw [cl_s (sheetG_c _ S), b2i_t h, if_neg one_ne, ink_n hs (by decide), nI_clamp (by omega), cl_s (miss_c S), b2i_t k1, if_neg one_ne, cl_s (fo6 S)]
      · intro S1 hS1
        have e48 : S1 48 = S 48 := by rw [hS1]; exact up2_qn (by decide)
        have w0 : fX5_wants (nI s) S1 = some (-1000006, S1) := wants_mi hs (by rw [e48]; exact k2)
        unfold fX5_judge
        rw [cl_s w0, if_neg y6, cl_s w0, cl_s (fq6 S1)]
    · have p := jd_c (num := S (33 + 2 * s)) hs m1 hI.V hI.R m2 (fun _ _ => rfl) m 0 (1023 - m) (by omega)
      have q := jd_m (num := S (33 + 2 * s)) hs m1 hI.V m3 (fun j hj => (m5 j hj).symm) m 0 (1023 - m) (by omega)
      rw [show m + 1 + (1023 - m) = FU by unfold FU; omega] at p q
      refine hI.sme (r := jdI (jdO (S 42) (S (33 + 2 * s)) m 0)) ?_ ?_
      · unfold fX4_judge
        rw [cl_s (sheetG_c _ S), b2i_t h, if_neg one_ne, ink_n hs (by decide), nI_clamp (by omega), cl_s (miss_c S), b2i_f k1, if_pos rfl]
        exact p
      · have w0 : fX5_wants (nI s) S = some (0, S) := wants_ok hs k3
        unfold fX5_judge
        rw [cl_s w0, if_pos rfl]
        exact q
  · refine hI.bad ?_ ?_
    · unfold fX4_judge
      rw [cl_s (sheetG_c _ S), b2i_f h, if_pos rfl, cl_s (fo1 S)]
    · intro S1 _
      unfold fX5_judge
      rw [cl_s (wants_no h S1), if_neg y1, cl_s (wants_no h S1), cl_s (fq1 S1)]
