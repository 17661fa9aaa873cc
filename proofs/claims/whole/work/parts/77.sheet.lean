/-! sheet, write -/
theorem Inv.sheets {n : Nat} {S S' : St} (h : Inv n S) (e : ∀ k, (k < 32 ∨ 40 ≤ k) → k ≠ 48 → k ≠ 49 → k ≠ 50 → S' k = S k) (sh : ShI S') : Inv (n + 1) S' := by
  obtain ⟨a, b, c, d, f⟩ := h
  have o : ∀ k, (k < 32 ∨ (40 ≤ k ∧ k < 48)) → S' k = S k := fun k hk => e k (by omega) (by omega) (by omega) (by omega)
  refine ⟨⟨?_, ?_⟩, b.up.fr (o 0 (by omega)) (fun k h1 h2 => o k (by omega)) (o 41 (by omega)) (o 43 (by omega)), c.fr (o 28 (by omega)) (o 29 (by omega)) (o 41 (by omega)) (o 47 (by omega)), sh, f.fr (o 40 (by omega)) (o 46 (by omega))⟩
  · rw [o 42 (by omega)]
    exact a.1.up
  · rw [o 42 (by omega)]
    exact a.2.fr (fun i hi => o _ (by omega))
theorem bg_loop {q : Nat} : ∀ (f i : Nat) (S : St), i ≤ 40 → 40 - i < f → (∀ j, j < i → S (q + 1) j = 0) → ∃ S', fX2_begin_L20 q f (nI i) S = some ((), S') ∧ (∀ j, j < 40 → S' (q + 1) j = 0) ∧ ∀ k, k ≠ q + 1 → S' k = S k
  | 0, i, S, h1, h2, h3 => by omega
  | f + 1, i, S, h1, h2, h3 => by
    unfold fX2_begin_L20
    by_cases hi : 40 ≤ i
    · have c : (40 : Int32) ≤ nI i := nI_le (a := 40) hi (by omega)
      rw [if_pos c]
      exact ⟨S, rfl, fun j hj => h3 j (by omega), fun _ _ => rfl⟩
    · have c : ¬ (40 : Int32) ≤ nI i := nI_ge (b := 40) (by omega) (by decide)
      rw [if_neg c, wr_n (by omega) (by decide), bnd_s, nI_1]
      obtain ⟨S', p1, p2, p3⟩ := bg_loop (q := q) f (i + 1) (up2 S (q + 1) i 0) (by omega) (by omega) (fun j hj => by
        rw [up2_qq]
        by_cases e : j = i
        · rw [e, upd_s]
        · rw [upd_n e]
          exact h3 j (by omega))
      exact ⟨S', p1, p2, fun k hk => by rw [p3 k hk, up2_qn hk]⟩
theorem begin_c {q : Nat} (a v : Int32) (S : St) : ∃ S', fX2_begin q a v S = some ((), S') ∧ S' q 1 = a ∧ S' q 2 = (if a = 0 then 0 else v) ∧ (∀ j, j < 40 → S' (q + 1) j = 0) ∧ ∀ k, k ≠ q → k ≠ q + 1 → S' k = S k := by
  have go : ∀ v : Int32, ∃ S', fX2_begin_L15 q v (up2 S q 1 a) = some ((), S') ∧ S' q 1 = a ∧ S' q 2 = v ∧ (∀ j, j < 40 → S' (q + 1) j = 0) ∧ ∀ k, k ≠ q → k ≠ q + 1 → S' k = S k := by
    intro v
    obtain ⟨S', p1, p2, p3⟩ := bg_loop (q := q) FU 0 (up2 (up2 S q 1 a) q 2 v) (by omega) (by unfold FU; omega) (fun j hj => absurd hj (by omega))
    refine ⟨S', ?_, ?_, ?_, p2, fun k h1 h2 => by rw [p3 k h2, up2_qn h1, up2_qn h1]⟩
    · unfold fX2_begin_L15
      rw [bnd_s]
      exact p1
    · rw [p3 q (by omega), up2_qq, upd_n (by decide), up2_qq, upd_s]
    · rw [p3 q (by omega), up2_qq, upd_s]
  unfold fX2_begin
  rw [bnd_s]
  by_cases h : a = 0
  · rw [if_pos h]
    obtain ⟨S', p1, p2, p3, p4, p5⟩ := go 0
    exact ⟨S', p1, p2, by rw [if_pos h]; exact p3, p4, p5⟩
  · rw [if_neg h]
    obtain ⟨S', p1, p2, p3, p4, p5⟩ := go v
    exact ⟨S', p1, p2, by rw [if_neg h]; exact p3, p4, p5⟩
theorem sz_loop {i : Nat} {v : Int32} (hi : i < 4) : ∀ (f k : Nat) (S : St), k ≤ 40 → 40 - k < f → S 49 i = v → (∀ j, j < k → S 50 (40 * i + j) = 0) → ∃ S', fX5_sheet_L94 f (nI i) (nI k) S = some (v, S') ∧ (∀ j, j < 40 → S' 50 (40 * i + j) = 0) ∧ (∀ j, (j < 40 * i ∨ 40 * i + 40 ≤ j) → S' 50 j = S 50 j) ∧ ∀ q, q ≠ 50 → S' q = S q
  | 0, k, S, h1, h2, h3, h4 => by omega
  | f + 1, k, S, h1, h2, h3, h4 => by
    unfold fX5_sheet_L94
    by_cases hk : 40 ≤ k
    · have c : (40 : Int32) ≤ nI k := nI_le (a := 40) hk (by omega)
      rw [if_pos c, rd_n hi (by decide), h3]
      exact ⟨S, rfl, fun j hj => h4 j (by omega), fun _ _ => rfl, fun _ _ => rfl⟩
    · have c : ¬ (40 : Int32) ≤ nI k := nI_ge (b := 40) (by omega) (by decide)
      rw [if_neg c, n40, wr_n (by omega) (by decide), bnd_s, nI_1]
      obtain ⟨S', p1, p2, p3, p4⟩ := sz_loop (v := v) hi f (k + 1) (up2 S 50 (40 * i + k) 0) (by omega) (by omega) (by rw [up2_qn (by decide)]; exact h3) (fun j hj => by
        rw [up2_qq]
        by_cases e : j = k
        · rw [e, upd_s]
        · rw [upd_n (by omega)]
          exact h4 j (by omega))
      exact ⟨S', p1, p2, fun j hj => by rw [p3 j hj, up2_qq, upd_n (by omega)], fun q hq => by rw [p4 q hq, up2_qn hq]⟩
theorem sheet_36 {n i : Nat} {S : St} {a2 a3 : Int32} (hI : Inv n S) (hi : i < 4) (ha : a2 = 0 ∨ a2 = 8 ∨ a2 = 16 ∨ a2 = 32) : ∃ (r : Int32) (S1 S2 : St), fX4_sheet_L36 (nI i) a2 a3 S = some (r, S1) ∧ fX5_sheet_L36 (nI i) a2 a3 S1 = some (r, S2) ∧ Inv (n + 1) S2 := by
  by_cases h0 : (0 : Int32) ≤ a3
  · have h0' : ¬ a3 < 0 := fun q => (nn_iff a3).mp h0 q
    obtain ⟨j, hj, rfl⟩ := nI_of h0'
    by_cases h40 : j ≤ 40
    · have c40 : nI j ≤ (40 : Int32) := nI_le (b := 40) h40 (by decide)
      obtain ⟨S1, p1, p2, p3, p4, p5⟩ := begin_c (q := 32 + 2 * i) a2 (nI j) S
      have run : ∀ (b : Int32) (m : Nat), S1 (32 + 2 * i) 2 = nI m → m ≤ 40 → ((S1 (32 + 2 * i) 1 = 0 ∧ b = -1) ∨ (b = S1 (32 + 2 * i) 1 ∧ (S1 (32 + 2 * i) 1 = 8 ∨ S1 (32 + 2 * i) 1 = 16 ∨ S1 (32 + 2 * i) 1 = 32))) → fX5_sheet_L36 (nI i) a2 (nI j) S1 = fX5_sheet_L94 FU (nI i) 0 (up2 (up2 S1 48 i b) 49 i (nI m)) → ∃ (r : Int32) (S1 S2 : St), fX4_sheet_L36 (nI i) a2 (nI j) S = some (r, S1) ∧ fX5_sheet_L36 (nI i) a2 (nI j) S1 = some (r, S2) ∧ Inv (n + 1) S2 := by
        intro b m e1 e2 e3 e4
        obtain ⟨S2, q1, q2, q3, q4⟩ := sz_loop (v := nI m) hi FU 0 (up2 (up2 S1 48 i b) 49 i (nI m)) (by omega) (by unfold FU; omega) (by rw [up2_qq, upd_s]) (fun j hj => absurd hj (by omega))
        have o : ∀ k, k ≠ 48 → k ≠ 49 → k ≠ 50 → S2 k = S1 k := fun k h1 h2 h3 => by rw [q4 k h3, up2_qn h2, up2_qn h1]
        have e48 : S2 48 = upd (S 48) i b := by rw [q4 48 (by decide), up2_qn (by decide), up2_qq, p5 48 (by omega) (by omega)]
        have e49 : S2 49 = upd (S 49) i (nI m) := by rw [q4 49 (by decide), up2_qq, up2_qn (by decide), p5 49 (by omega) (by omega)]
        refine ⟨nI m, S1, S2, ?_, by rw [e4]; exact q1, hI.sheets (fun k h1 h2 h3 h4 => by rw [o k h2 h3 h4, p5 k (by omega) (by omega)]) (fun u hu => ?_)⟩
        · unfold fX4_sheet_L36
          rw [if_pos h0, if_pos c40, ink_n hi (by decide), nI_clamp (by omega), cl_s p1, ink_n hi (by decide), e1]
        · rw [e48, e49, o (32 + 2 * u) (by omega) (by omega) (by omega), o (33 + 2 * u) (by omega) (by omega) (by omega)]
          by_cases hui : u = i
          · subst hui
            refine ⟨m, e2, e1, by rw [upd_s], ?_, fun k hk => ?_⟩
            · rw [upd_s]
              exact e3
            · rw [q2 k (by omega), show 33 + 2 * u = 32 + 2 * u + 1 by omega]
              exact p4 k (by omega)
          · obtain ⟨m', g1, g2, g3, g4, g5⟩ := hI.2.2.2.1 u hu
            rw [p5 (32 + 2 * u) (by omega) (by omega), p5 (33 + 2 * u) (by omega) (by omega), upd_n hui, upd_n hui]
            refine ⟨m', g1, g2, g3, g4, fun k hk => ?_⟩
            rw [q3 (40 * u + k) (by omega), up2_qn (by decide), up2_qn (by decide), p5 50 (by omega) (by omega)]
            exact g5 k hk
      by_cases ha0 : a2 = 0
      · refine run (-1) 0 (by rw [p3, if_pos ha0]; rfl) (by omega) (Or.inl ⟨by rw [p2]; exact ha0, rfl⟩) ?_
        unfold fX5_sheet_L36 fX5_sheet_L75 fX5_sheet_L90
        rw [if_pos h0, if_pos c40, if_pos ha0, wr_n hi (by decide), if_pos ha0, wr_n hi (by decide)]
        rfl
      · refine run a2 j (by rw [p3, if_neg ha0]) h40 (Or.inr ⟨p2.symm, by rw [p2]; rcases ha with ha | ha; exact absurd ha ha0; exact ha⟩) ?_
        unfold fX5_sheet_L36 fX5_sheet_L75 fX5_sheet_L90
        rw [if_pos h0, if_pos c40, if_neg ha0, wr_n hi (by decide), if_neg ha0, wr_n hi (by decide)]
    · have c40 : ¬ nI j ≤ (40 : Int32) := nI_ge (a := 40) (by omega) (by omega)
      refine hI.bad ?_ ?_
      · unfold fX4_sheet_L36
        rw [if_pos h0, if_neg c40, cl_s (fo1 S)]
      · intro S1 _
        unfold fX5_sheet_L36
        rw [if_pos h0, if_neg c40, cl_s (fq1 S1)]
  · refine ⟨-1000007, cnC 6 S, cnM 6 (cnC 6 S), ?_, ?_, hI.cn (by decide)⟩
    · unfold fX4_sheet_L36
      rw [if_neg h0, cl_s (fo7 S)]
    · unfold fX5_sheet_L36
      rw [if_neg h0, cl_s (fq7 _)]
theorem eq_sheet : EQ3 Inv fX4_sheet fX5_sheet := by
  intro n S a1 a2 a3 hI hn
  by_cases h : inR a1 4
  · obtain ⟨i, hi, rfl⟩ := inR_n (m := 4) (by decide) h
    have go : ∀ S1 : St, (a2 = 0 ∨ a2 = 8 ∨ a2 = 16 ∨ a2 = 32) → fX4_sheet (nI i) a2 a3 S = fX4_sheet_L36 (nI i) a2 a3 S ∧ fX5_sheet (nI i) a2 a3 S1 = fX5_sheet_L36 (nI i) a2 a3 S1 := by
      intro S1 ha
      unfold fX4_sheet fX5_sheet
      rw [cl_s (sheetG_c _ S), b2i_t h, if_neg one_ne, cl_s (sheetG_m _ S1), b2i_t h, if_neg one_ne]
      by_cases c0 : a2 = 0
      · rw [if_pos c0, if_pos c0]
        exact ⟨rfl, rfl⟩
      · rw [if_neg c0, if_neg c0]
        by_cases c8 : a2 = 8
        · rw [if_pos c8, if_pos c8]
          exact ⟨rfl, rfl⟩
        · rw [if_neg c8, if_neg c8]
          by_cases c16 : a2 = 16
          · rw [if_pos c16, if_pos c16]
            exact ⟨rfl, rfl⟩
          · have c32 : a2 = 32 := by
              rcases ha with q | q | q | q
              · exact absurd q c0
              · exact absurd q c8
              · exact absurd q c16
              · exact q
            rw [if_neg c16, if_neg c16, if_pos c32, if_pos c32]
            exact ⟨rfl, rfl⟩
    by_cases ha : a2 = 0 ∨ a2 = 8 ∨ a2 = 16 ∨ a2 = 32
    · obtain ⟨r, S1, S2, p1, p2, p3⟩ := sheet_36 (a3 := a3) hI hi ha
      obtain ⟨g1, g2⟩ := go S1 ha
      exact ⟨r, S1, S2, by rw [g1]; exact p1, by rw [g2]; exact p2, p3⟩
    · have c0 : ¬ a2 = 0 := fun q => ha (Or.inl q)
      have c8 : ¬ a2 = 8 := fun q => ha (Or.inr (Or.inl q))
      have c16 : ¬ a2 = 16 := fun q => ha (Or.inr (Or.inr (Or.inl q)))
      have c32 : ¬ a2 = 32 := fun q => ha (Or.inr (Or.inr (Or.inr q)))
      refine hI.bad ?_ ?_
      · unfold fX4_sheet fX4_sheet_L29
        rw [cl_s (sheetG_c _ S), b2i_t h, if_neg one_ne, if_neg c0, if_neg c8, if_neg c16, if_neg c32, cl_s (fo1 S)]
      · intro S1 _
        unfold fX5_sheet fX5_sheet_L29
        rw [cl_s (sheetG_m _ _), b2i_t h, if_neg one_ne, if_neg c0, if_neg c8, if_neg c16, if_neg c32, cl_s (fq1 S1)]
  · refine hI.bad ?_ ?_
    · unfold fX4_sheet fX4_sheet_L29
      rw [cl_s (sheetG_c _ S), b2i_f h, if_pos rfl, cl_s (fo1 S)]
    · intro S1 _
      unfold fX5_sheet fX5_sheet_L29
      rw [cl_s (sheetG_m _ _), b2i_f h, if_pos rfl, cl_s (fq1 S1)]
/-! write -/
def cutI (b v : Int32) : Int32 := if b = 8 then (Int32.toInt8 v).toInt32 else if b = 16 then (Int32.toInt16 v).toInt32 else v
theorem cut_c {q : Nat} (v : Int32) (S : St) : fX2_cut q v S = some (cutI (S q 1) v, S) := by
  unfold fX2_cut cutI
  rw [bnd_s]
  by_cases h8 : S q 1 = 8
  · rw [if_pos h8, if_pos h8]
  · rw [if_neg h8, if_neg h8]
    by_cases h16 : S q 1 = 16
    · rw [if_pos h16, if_pos h16]
    · rw [if_neg h16, if_neg h16]
theorem Inv.missing {n : Nat} {S : St} (h : Inv n S) {f g : St → Option (Int32 × St)} (hf : f S = some (-1000006, cnC 5 S)) (hg : ∀ S1 : St, S1 = cnC 5 S → g S1 = some (-1000006, cnM 5 S1)) : ∃ (r : Int32) (S1 S2 : St), f S = some (r, S1) ∧ g S1 = some (r, S2) ∧ Inv (n + 1) S2 :=
  ⟨_, _, _, hf, hg _ rfl, h.cn (by decide)⟩
theorem lt_pred {a : Int32} {m : Nat} (hm : m ≤ 40) (h : ¬ a < 0) : nI m - 1 < a ↔ nI m ≤ a := by
  cases m with
  | zero =>
    have e : nI 0 - 1 = (-1 : Int32) := by decide
    have e0 : (0 : Int32).toInt = 0 := by decide
    have e1 : (-1 : Int32).toInt = -1 := by decide
    rw [e]
    rw [Int32.lt_iff_toInt_lt] at h
    constructor
    · intro _
      show (0 : Int32) ≤ a
      rw [Int32.le_iff_toInt_le]
      omega
    · intro _
      rw [Int32.lt_iff_toInt_lt]
      omega
  | succ m =>
    rw [nI_pred]
    exact (le_lt (by omega)).symm
theorem eq_write : EQ3 Inv fX4_write fX5_write := by
  intro n S a1 a2 a3 hI hn
  by_cases h : inR a1 4
  · obtain ⟨i, hi, rfl⟩ := inR_n (m := 4) (by decide) h
    obtain ⟨m, m1, m2, m3, m4, m5⟩ := hI.2.2.2.1.at hi
    rcases m4 with ⟨k1, k2⟩ | ⟨k1, k2, k3, k4⟩
    · refine hI.missing ?_ ?_
      · unfold fX4_write
        rw [cl_s (sheetG_c _ S), b2i_t h, if_neg one_ne, ink_n hi (by decide), nI_clamp (by omega), cl_s (miss_c S), b2i_t k1, if_neg one_ne, cl_s (fo6 S)]
      · intro S1 hS1
        have e48 : S1 48 = S 48 := by rw [hS1]; exact up2_qn (by decide)
        have c : ¬ (0 : Int32) ≤ -1 := by decide
        unfold fX5_write
        rw [cl_s (sheetG_m _ _), b2i_t h, if_neg one_ne, rd_n hi (by decide), e48, k2, if_neg c, cl_s (fq6 S1)]
    · by_cases h0 : a2 < 0
      · refine hI.bad ?_ ?_
        · unfold fX4_write fX4_write_L50
          rw [cl_s (sheetG_c _ S), b2i_t h, if_neg one_ne, ink_n hi (by decide), nI_clamp (by omega), cl_s (miss_c S), b2i_f k1, if_pos rfl, if_pos h0, cl_s (fo1 S)]
        · intro S1 hS1
          have e48 : S1 48 = S 48 := by rw [hS1]; exact up2_qn (by decide)
          have e49 : S1 49 = S 49 := by rw [hS1]; exact up2_qn (by decide)
          unfold fX5_write
          rw [cl_s (sheetG_m _ _), b2i_t h, if_neg one_ne, rd_n hi (by decide), e48, if_pos k3, rd_n hi (by decide), cl_s (isIn_l (lo := 0) a2 0 _ rfl rfl _), b2i_f (fun q => q.1 h0), if_pos rfl, cl_s (fq1 S1)]
      · by_cases hm : nI m ≤ a2
        · have hm' : ¬ a2 < nI m := fun q => by
            rw [Int32.lt_iff_toInt_lt] at q
            rw [Int32.le_iff_toInt_le] at hm
            omega
          refine hI.bad ?_ ?_
          · unfold fX4_write fX4_write_L50
            rw [cl_s (sheetG_c _ S), b2i_t h, if_neg one_ne, ink_n hi (by decide), nI_clamp (by omega), cl_s (miss_c S), b2i_f k1, if_pos rfl, if_neg h0, ink_n hi (by decide), m2, if_neg hm', cl_s (fo1 S)]
          · intro S1 hS1
            have e48 : S1 48 = S 48 := by rw [hS1]; exact up2_qn (by decide)
            have e49 : S1 49 = S 49 := by rw [hS1]; exact up2_qn (by decide)
            unfold fX5_write
            rw [cl_s (sheetG_m _ _), b2i_t h, if_neg one_ne, rd_n hi (by decide), e48, if_pos k3, rd_n hi (by decide), e49, m3, cl_s (isIn_l (lo := 0) a2 0 _ rfl rfl _), b2i_f (fun q => q.2 ((lt_pred m1 h0).mpr hm)), if_pos rfl, cl_s (fq1 S1)]
        · obtain ⟨j, hj, rfl⟩ := nI_of h0
          have hjm : j < m := Nat.not_le.mp (fun q => hm (nI_le q hj))
          have hm' : nI j < nI m := nI_lt hjm (by omega)
          have g : ¬ nI j < 0 ∧ ¬ nI m - 1 < nI j := ⟨h0, fun q => hm ((lt_pred m1 h0).mp q)⟩
          have e0 : ∀ k, k ≠ 33 + 2 * i → up2 S (33 + 2 * i) j (cutI (S (32 + 2 * i) 1) a3) k = S k := fun k hk => up2_qn hk
          refine ⟨1, up2 S (33 + 2 * i) j (cutI (S (32 + 2 * i) 1) a3), up2 (up2 S (33 + 2 * i) j (cutI (S (32 + 2 * i) 1) a3)) 50 (40 * i + j) (cutI (S (32 + 2 * i) 1) a3), ?_, ?_, ?_⟩
          · unfold fX4_write
            rw [cl_s (sheetG_c _ S), b2i_t h, if_neg one_ne, ink_n hi (by decide), nI_clamp (by omega), cl_s (miss_c S), b2i_f k1, if_pos rfl, if_neg h0, ink_n hi (by decide), m2, if_pos hm', ink_n hi (by decide), ink_n hi (by decide), cl_s (cut_c a3 S), wr_n (by omega) (by decide), show 32 + 2 * i + 1 = 33 + 2 * i by omega]
          · unfold fX5_write fX5_write_L99
            rw [cl_s (sheetG_m _ _), b2i_t h, if_neg one_ne, rd_n hi (by decide), e0 48 (by omega), if_pos k3, rd_n hi (by decide), e0 49 (by omega), m3, cl_s (isIn_l (lo := 0) (nI j) 0 _ rfl rfl _), b2i_t g, if_neg one_ne, rd_n hi (by decide), e0 48 (by omega), n40, k2]
            by_cases c8 : S (32 + 2 * i) 1 = 8
            · rw [if_pos c8, wr_n (by omega) (by decide)]
              unfold cutI
              rw [if_pos c8]
            · rw [if_neg c8, rd_n hi (by decide), e0 48 (by omega), k2]
              by_cases c16 : S (32 + 2 * i) 1 = 16
              · rw [if_pos c16, wr_n (by omega) (by decide)]
                unfold cutI
                rw [if_neg c8, if_pos c16]
              · rw [if_neg c16, wr_n (by omega) (by decide)]
                unfold cutI
                rw [if_neg c8, if_neg c16]
          · generalize cutI (S (32 + 2 * i) 1) a3 = v
            refine hI.sheets (fun k h1 h2 h3 h4 => by rw [up2_qn h4, up2_qn (by omega)]) (fun u hu => ?_)
            obtain ⟨m', g1, g2, g3, g4, g5⟩ := hI.2.2.2.1 u hu
            rw [up2_qn (a := 32 + 2 * u) (by omega), up2_qn (a := 32 + 2 * u) (by omega), up2_qn (a := 48) (by decide), up2_qn (a := 48) (by omega), up2_qn (a := 49) (by decide), up2_qn (a := 49) (by omega)]
            refine ⟨m', g1, g2, g3, g4, fun k hk => ?_⟩
            rw [up2_qn (a := 33 + 2 * u) (by omega), up2_qq, up2_qn (a := 50) (by omega)]
            by_cases hui : u = i
            · subst hui
              rw [up2_qq]
              by_cases hkj : k = j
              · subst hkj
                rw [upd_s, upd_s]
              · rw [upd_n hkj, upd_n (by omega)]
                exact g5 k hk
            · rw [up2_qn (by omega), upd_n (by omega)]
              exact g5 k hk
  · refine hI.bad ?_ ?_
    · unfold fX4_write
      rw [cl_s (sheetG_c _ S), b2i_f h, if_pos rfl, cl_s (fo1 S)]
    · intro S1 _
      unfold fX5_write
      rw [cl_s (sheetG_m _ _), b2i_f h, if_pos rfl, cl_s (fq1 S1)]
