/-! copy -/
def RG (a b : Int32) (m : Nat) : Prop := ¬ a < 0 ∧ ¬ b < 0 ∧ a.toNatClampNeg + b.toNatClampNeg ≤ m
theorem hr_c {q m : Nat} {S : St} (a b : Int32) (h : S q 2 = nI m) (hm : m ≤ 40) : (RG a b m ∧ fX2_hasRange q a b S = some (1, S)) ∨ (¬ RG a b m ∧ fX2_hasRange q a b S = some (0, S)) := by
  unfold fX2_hasRange fX2_hasRange_L30 fX2_hasRange_L31
  rw [retN_0, retN_1, h]
  by_cases h1 : a < 0
  · rw [if_pos h1]
    exact Or.inr ⟨fun q => q.1 h1, rfl⟩
  · rw [if_neg h1]
    by_cases h2 : b < 0
    · rw [if_pos h2]
      exact Or.inr ⟨fun q => q.2.1 h2, rfl⟩
    · rw [if_neg h2]
      obtain ⟨x, hx, ex⟩ := nI_of h1
      obtain ⟨y, hy, ey⟩ := nI_of h2
      have ea : a.toNatClampNeg = x := by rw [ex, nI_clamp hx]
      have eb : b.toNatClampNeg = y := by rw [ey, nI_clamp hy]
      by_cases h3 : m < y
      · have c : nI m < b := by rw [ey]; exact nI_lt h3 hy
        rw [if_pos c]
        refine Or.inr ⟨fun q => ?_, rfl⟩
        have := q.2.2
        rw [ea, eb] at this
        omega
      · have c : ¬ nI m < b := by rw [ey]; exact nI_nlt (by omega) (by omega)
        rw [if_neg c]
        have es : nI m - b = nI (m - y) := by rw [ey]; exact pk_sub (by omega)
        rw [es]
        by_cases h4 : m - y < x
        · have c : nI (m - y) < a := by rw [ex]; exact nI_lt h4 hx
          rw [if_pos c]
          refine Or.inr ⟨fun q => ?_, rfl⟩
          have := q.2.2
          rw [ea, eb] at this
          omega
        · have c : ¬ nI (m - y) < a := by rw [ex]; exact nI_nlt (by omega) (by omega)
          rw [if_neg c]
          exact Or.inl ⟨⟨h1, h2, by rw [ea, eb]; omega⟩, rfl⟩
theorem ac_n {β : Type} {S : St} {q0 q1 x y z : Nat} {K : St → Option β} (h1 : x + z ≤ 40) (h2 : y + z ≤ 40) : ac S q0 q1 40 40 (nI x) (nI y) (nI z) K = K (upR S q1 (va_cpy (S q0) (S q1) x y z)) := by
  unfold ac
  rw [nI_clamp (by omega), nI_clamp (by omega), nI_clamp (by omega), if_neg]
  intro q
  rcases q with q | q | q | q | q
  · exact nI_pos (by omega) q
  · exact nI_pos (by omega) q
  · exact nI_pos (by omega) q
  · omega
  · omega
theorem sub_ti {m x : Nat} (hm : m ≤ 40) (hx : x < 2 ^ 31) : (nI m - nI x).toInt = (m : Int) - x := by
  rw [Int32.toInt_sub, nI_toInt (by omega), nI_toInt hx, Int.bmod_def]
  split <;> omega
theorem cu_m {N : Nat → Int32} {n a b : Nat} (hab : b ≤ a) (ha : a + n ≤ 160) (hb : b + n ≤ 160) : ∀ (f k : Nat) (S : St), k ≤ n → n - k < f → (∀ j, S 50 j = va_cpy N N a b k j) → ∃ S', fX5_copy_L138 f (nI n) (nI a) (nI b) (nI k) S = some (nI n, S') ∧ (∀ j, S' 50 j = va_cpy N N a b n j) ∧ ∀ q, q ≠ 50 → S' q = S q
  | 0, k, S, h1, h2, h3 => by omega
  | f + 1, k, S, h1, h2, h3 => by
    by_cases hk : n ≤ k
    · unfold fX5_copy_L138
      rw [if_pos (nI_le hk (by omega))]
      have e : k = n := by omega
      subst e
      exact ⟨S, rfl, h3, fun _ _ => rfl⟩
    · have ev : S 50 (a + k) = N (a + k) := by rw [h3, pk_cpy_out (Or.inr (by omega))]
      obtain ⟨S', p1, p2, p3⟩ := cu_m (N := N) hab ha hb f (k + 1) (up2 S 50 (b + k) (N (a + k))) (by omega) (by omega) (fun j => by
        rw [up2_qq]
        by_cases e : j = b + k
        · subst e
          rw [upd_s, pk_cpy_in (by omega) (by omega), show b + k - b = k by omega]
        · rw [upd_n e, h3]
          by_cases c : b ≤ j ∧ j < b + k
          · rw [pk_cpy_in c.1 c.2, pk_cpy_in c.1 (by omega)]
          · rw [pk_cpy_out (by omega), pk_cpy_out (by omega)])
      refine ⟨S', ?_, p2, fun q hq => by rw [p3 q hq, up2_qn hq]⟩
      rw [← p1]
      conv => lhs; unfold fX5_copy_L138
      unfold fX5_copy_L164
      rw [if_neg (nI_ge (by omega) (by omega)), if_pos (nI_le hab (by omega)), nI_add, rd_n (by omega) (by decide), ev, nI_add, wr_n (by omega) (by decide), bnd_s, nI_1]
theorem cd_d {N : Nat → Int32} {n a b : Nat} (hab : a < b) (ha : a + n ≤ 160) (hb : b + n ≤ 160) : ∀ (f k : Nat) (S : St), k ≤ n → n - k < f → (∀ j, S 50 j = va_cpy N N (a + (n - k)) (b + (n - k)) k j) → ∃ S', fX5_copy_L138 f (nI n) (nI a) (nI b) (nI k) S = some (nI n, S') ∧ (∀ j, S' 50 j = va_cpy N N a b n j) ∧ ∀ q, q ≠ 50 → S' q = S q
  | 0, k, S, h1, h2, h3 => by omega
  | f + 1, k, S, h1, h2, h3 => by
    by_cases hk : n ≤ k
    · unfold fX5_copy_L138
      rw [if_pos (nI_le hk (by omega))]
      have e : k = n := by omega
      subst e
      rw [Nat.sub_self, Nat.add_zero, Nat.add_zero] at h3
      exact ⟨S, rfl, h3, fun _ _ => rfl⟩
    · have ev : S 50 (a + (n - 1 - k)) = N (a + (n - 1 - k)) := by rw [h3, pk_cpy_out (Or.inl (by omega))]
      obtain ⟨S', p1, p2, p3⟩ := cd_d (N := N) hab ha hb f (k + 1) (up2 S 50 (b + (n - 1 - k)) (N (a + (n - 1 - k)))) (by omega) (by omega) (fun j => by
        rw [up2_qq]
        by_cases e : j = b + (n - 1 - k)
        · subst e
          rw [upd_s, pk_cpy_in (by omega) (by omega), show a + (n - (k + 1)) + (b + (n - 1 - k) - (b + (n - (k + 1)))) = a + (n - 1 - k) by omega]
        · rw [upd_n e, h3]
          by_cases c : b + (n - k) ≤ j ∧ j < b + (n - k) + k
          · rw [pk_cpy_in c.1 c.2, pk_cpy_in (by omega) (by omega), show a + (n - k) + (j - (b + (n - k))) = a + (n - (k + 1)) + (j - (b + (n - (k + 1)))) by omega]
          · rw [pk_cpy_out (by omega), pk_cpy_out (by omega)])
      refine ⟨S', ?_, p2, fun q hq => by rw [p3 q hq, up2_qn hq]⟩
      have e1 : (nI n - 1) - nI k = nI (n - 1 - k) := by
        conv => lhs; rw [show n = n - 1 + 1 by omega]
        rw [nI_pred, pk_sub (by omega)]
      rw [← p1]
      conv => lhs; unfold fX5_copy_L138
      unfold fX5_copy_L164
      rw [if_neg (nI_ge (by omega) (by omega)), if_neg (nI_ge hab (by omega)), e1, nI_add, rd_n (by omega) (by decide), ev, nI_add, wr_n (by omega) (by decide), bnd_s, nI_1]
theorem cp_m {n a b : Nat} (ha : a + n ≤ 160) (hb : b + n ≤ 160) (S : St) : ∃ S', fX5_copy_L138 FU (nI n) (nI a) (nI b) 0 S = some (nI n, S') ∧ (∀ j, S' 50 j = va_cpy (S 50) (S 50) a b n j) ∧ ∀ q, q ≠ 50 → S' q = S q := by
  by_cases hab : b ≤ a
  · exact cu_m (N := S 50) hab ha hb FU 0 S (by omega) (by unfold FU; omega) (fun j => by rw [pk_cpy_out (by omega)])
  · exact cd_d (N := S 50) (by omega) ha hb FU 0 S (by omega) (by unfold FU; omega) (fun j => by rw [pk_cpy_out (by omega)])
theorem eq_copy : EQ5 Inv fX4_copy fX5_copy := by
  intro n S a1 a2 a3 a4 a5 hI hn
  have yc : ¬ (0 : Int32) ≤ -1 := by decide
  have yn : (-1 : Int32) < 0 := by decide
  by_cases h : inR a1 4
  · by_cases h3 : inR a3 4
    · obtain ⟨i, hi, rfl⟩ := inR_n (m := 4) (by decide) h
      obtain ⟨u, hu, rfl⟩ := inR_n (m := 4) (by decide) h3
      obtain ⟨m, m1, m2, m3, m4, m5⟩ := hI.2.2.2.1.at hi
      obtain ⟨w, w1, w2, w3, w4, w5⟩ := hI.2.2.2.1.at hu
      rcases m4 with ⟨k1, k2⟩ | ⟨k1, k2, k3, k4⟩
      · refine hI.missing ?_ ?_
        · unfold fX4_copy fX4_copy_L45
          rw [cl_s (sheetG_c _ S), b2i_t h, if_neg one_ne, cl_s (sheetG_c _ S), b2i_t h3, if_neg one_ne, ink_n hi (by decide), nI_clamp (by omega), cl_s (miss_c S), b2i_t k1, if_neg one_ne, cl_s (fo6 S)]
        · intro S1 hS1
          have e48 : S1 48 = S 48 := by rw [hS1]; exact up2_qn (by decide)
          unfold fX5_copy fX5_copy_L39
          rw [cl_s (sheetG_m _ _), b2i_t h, if_neg one_ne, cl_s (sheetG_m _ _), b2i_t h3, if_neg one_ne, rd_n hi (by decide), e48, k2, if_pos yn, cl_s (fq6 S1)]
      · have k3' : ¬ S 48 i < 0 := fun q => (nn_iff _).mp k3 q
        rcases w4 with ⟨l1, l2⟩ | ⟨l1, l2, l3, l4⟩
        · refine hI.missing ?_ ?_
          · unfold fX4_copy fX4_copy_L45
            rw [cl_s (sheetG_c _ S), b2i_t h, if_neg one_ne, cl_s (sheetG_c _ S), b2i_t h3, if_neg one_ne, ink_n hi (by decide), nI_clamp (by omega), cl_s (miss_c S), b2i_f k1, if_pos rfl, ink_n hu (by decide), nI_clamp (by omega), cl_s (miss_c S), b2i_t l1, if_neg one_ne, cl_s (fo6 S)]
          · intro S1 hS1
            have e48 : S1 48 = S 48 := by rw [hS1]; exact up2_qn (by decide)
            unfold fX5_copy fX5_copy_L39
            rw [cl_s (sheetG_m _ _), b2i_t h, if_neg one_ne, cl_s (sheetG_m _ _), b2i_t h3, if_neg one_ne, rd_n hi (by decide), e48, if_neg k3', rd_n hu (by decide), e48, l2, if_neg yc, cl_s (fq6 S1)]
        · by_cases hbits : S (32 + 2 * i) 1 = S (32 + 2 * u) 1
          · have hb48 : S 48 i = S 48 u := by rw [k2, l2, hbits]
            have hc : ∀ (f : Int32 × St → Prop), True := fun _ => trivial
            have ini : fX4_copy (nI i) a2 (nI u) a4 a5 S = cl (fX2_hasRange (32 + 2 * i) a2 a5 S) fun v10 S5 => if v10 = 0 then fX4_copy_L111 S5 else ink 4 (nI u) <| cl (fX2_hasRange (32 + 2 * (nI u).toNatClampNeg) a4 a5 S5) fun v12 S6 => if v12 = 0 then fX4_copy_L111 S6 else ink 4 (nI i) <| ink 4 (nI u) <| ac S6 ((32 + 2 * (nI i).toNatClampNeg) + 1) ((32 + 2 * (nI u).toNatClampNeg) + 1) 40 40 a2 a4 a5 fun S7 => some (a5, S7) := by
              unfold fX4_copy
              rw [cl_s (sheetG_c _ S), b2i_t h, if_neg one_ne, cl_s (sheetG_c _ S), b2i_t h3, if_neg one_ne, ink_n hi (by decide), nI_clamp (show i < 2 ^ 31 by omega), cl_s (miss_c S), b2i_f k1, if_pos rfl, ink_n hu (by decide), nI_clamp (show u < 2 ^ 31 by omega), cl_s (miss_c S), b2i_f l1, if_pos rfl, ink_n hi (by decide), ink_n hu (by decide), if_pos hbits, ink_n hi (by decide)]
            rw [nI_clamp (show i < 2 ^ 31 by omega), nI_clamp (show u < 2 ^ 31 by omega)] at ini
            have inm : ∀ S1 : St, S1 48 = S 48 → S1 49 = S 49 → fX5_copy (nI i) a2 (nI u) a4 a5 S1 = if a2 < 0 then fX5_copy_L111 S1 else if a4 < 0 then fX5_copy_L111 S1 else if a5 < 0 then fX5_copy_L111 S1 else if (nI m - a2) < a5 then fX5_copy_L111 S1 else if a5 ≤ (nI w - a4) then bnd ((40 * nI i) + a2) fun v9 => bnd ((40 * nI u) + a4) fun v10 => fX5_copy_L138 FU a5 v9 v10 0 S1 else fX5_copy_L111 S1 := by
              intro S1 e48 e49
              unfold fX5_copy
              rw [cl_s (sheetG_m _ _), b2i_t h, if_neg one_ne, cl_s (sheetG_m _ _), b2i_t h3, if_neg one_ne, rd_n hi (by decide), e48, if_neg k3', rd_n hu (by decide), e48, if_pos l3, rd_n hi (by decide), e48, rd_n hu (by decide), e48, if_pos hb48, rd_n hi (by decide), e49, m3, rd_n hu (by decide), e49, w3]
            have bm : ∀ S1 : St, fX5_copy_L111 S1 = some (-1000001, cnM 0 S1) := fun S1 => by
              unfold fX5_copy_L111
              rw [cl_s (fq1 S1)]
            have bc : fX4_copy_L111 S = some (-1000001, cnC 0 S) := by
              unfold fX4_copy_L111
              rw [cl_s (fo1 S)]
            have e48 : cnC 0 S 48 = S 48 := up2_qn (by decide)
            have e49 : cnC 0 S 49 = S 49 := up2_qn (by decide)
            -- the model refuses where a range is wrong
            have nom : (¬ RG a2 a5 m ∨ ¬ RG a4 a5 w) → fX5_copy (nI i) a2 (nI u) a4 a5 (cnC 0 S) = some (-1000001, cnM 0 (cnC 0 S)) := by
              intro hno
              rw [inm _ e48 e49, bm]
              by_cases c2 : a2 < 0
              · rw [if_pos c2]
              · rw [if_neg c2]
                by_cases c4 : a4 < 0
                · rw [if_pos c4]
                · rw [if_neg c4]
                  by_cases c5 : a5 < 0
                  · rw [if_pos c5]
                  · rw [if_neg c5]
                    obtain ⟨x, hx, ex⟩ := nI_of c2
                    obtain ⟨z, hz, ez⟩ := nI_of c4
                    obtain ⟨y, hy, ey⟩ := nI_of c5
                    have ea : a2.toNatClampNeg = x := by rw [ex, nI_clamp hx]
                    have eb : a5.toNatClampNeg = y := by rw [ey, nI_clamp hy]
                    have ec : a4.toNatClampNeg = z := by rw [ez, nI_clamp hz]
                    by_cases d1 : (nI m - a2) < a5
                    · rw [if_pos d1]
                    · rw [if_neg d1]
                      by_cases d2 : a5 ≤ (nI w - a4)
                      · exfalso
                        rw [ex, ey, Int32.lt_iff_toInt_lt, sub_ti m1 hx, nI_toInt hy] at d1
                        rw [ez, ey, Int32.le_iff_toInt_le, sub_ti w1 hz, nI_toInt hy] at d2
                        rcases hno with q | q
                        · exact q ⟨c2, c5, by rw [ea, eb]; omega⟩
                        · exact q ⟨c4, c5, by rw [ec, eb]; omega⟩
                      · rw [if_neg d2]
            rcases hr_c (S := S) (q := 32 + 2 * i) a2 a5 m2 m1 with ⟨r1, r2⟩ | ⟨r1, r2⟩
            · rcases hr_c (S := S) (q := 32 + 2 * u) a4 a5 w2 w1 with ⟨s1, s2⟩ | ⟨s1, s2⟩
              · obtain ⟨x, hx, rfl⟩ := nI_of r1.1
                obtain ⟨y, hy, rfl⟩ := nI_of r1.2.1
                obtain ⟨z, hz, rfl⟩ := nI_of s1.1
                have rx := r1.2.2
                have sx := s1.2.2
                rw [nI_clamp hx, nI_clamp hy] at rx
                rw [nI_clamp hz, nI_clamp hy] at sx
                have es : ∀ q, q ≠ 33 + 2 * u → upR S (33 + 2 * u) (va_cpy (S (33 + 2 * i)) (S (33 + 2 * u)) x z y) q = S q := fun q hq => upR_qn hq
                generalize hS1 : upR S (33 + 2 * u) (va_cpy (S (33 + 2 * i)) (S (33 + 2 * u)) x z y) = S1 at es
                have eu : S1 (33 + 2 * u) = va_cpy (S (33 + 2 * i)) (S (33 + 2 * u)) x z y := by rw [← hS1, upR_qq]
                obtain ⟨S2, p1, p2, p3⟩ := cp_m (n := y) (a := 40 * i + x) (b := 40 * u + z) (by omega) (by omega) S1
                refine ⟨nI y, S1, S2, ?_, ?_, ?_⟩
                · rw [ini, cl_s r2, if_neg one_ne, ink_n hu (by decide), cl_s s2, if_neg one_ne, ink_n hi (by decide), ink_n hu (by decide), ac_n (by omega) (by omega), show 32 + 2 * i + 1 = 33 + 2 * i by omega, show 32 + 2 * u + 1 = 33 + 2 * u by omega, hS1]
                · have d1 : ¬ (nI m - nI x) < nI y := by
                    rw [Int32.lt_iff_toInt_lt, sub_ti m1 hx, nI_toInt hy]
                    omega
                  have d2 : nI y ≤ (nI w - nI z) := by
                    rw [Int32.le_iff_toInt_le, sub_ti w1 hz, nI_toInt hy]
                    omega
                  rw [inm S1 (es 48 (by omega)) (es 49 (by omega)), if_neg r1.1, if_neg s1.1, if_neg r1.2.1, if_neg d1, if_pos d2, n40, n40, bnd_s, bnd_s]
                  exact p1
                · refine hI.sheets (fun k g1 g2 g3 g4 => by rw [p3 k g4, es k (by omega)]) (fun v hv => ?_)
                  obtain ⟨m', g1, g2, g3, g4, g5⟩ := hI.2.2.2.1 v hv
                  rw [p3 (32 + 2 * v) (by omega), es (32 + 2 * v) (by omega), p3 48 (by omega), es 48 (by omega), p3 49 (by omega), es 49 (by omega), p3 (33 + 2 * v) (by omega)]
                  refine ⟨m', g1, g2, g3, g4, fun k hk => ?_⟩
                  rw [p2, es 50 (by omega)]
                  by_cases hvu : v = u
                  · subst hvu
                    rw [eu]
                    have emw : m' = w := by
                      rw [w2] at g2
                      exact ((nI_eq (by omega) (by omega)).mp g2).symm
                    by_cases c : z ≤ k ∧ k < z + y
                    · rw [pk_cpy_in c.1 c.2, pk_cpy_in (by omega) (by omega), m5 _ (by omega), show 40 * i + (x + (k - z)) = 40 * i + x + (40 * v + k - (40 * v + z)) by omega]
                    · rw [pk_cpy_out (by omega), pk_cpy_out (by omega)]
                      exact g5 k hk
                  · rw [es (33 + 2 * v) (by omega), pk_cpy_out (by omega)]
                    exact g5 k hk
              · exact ⟨_, _, _, by rw [ini, cl_s r2, if_neg one_ne, ink_n hu (by decide), cl_s s2, if_pos rfl]; exact bc, nom (Or.inr s1), hI.cn (by decide)⟩
            · exact ⟨_, _, _, by rw [ini, cl_s r2, if_pos rfl]; exact bc, nom (Or.inl r1), hI.cn (by decide)⟩
          · have hb48 : ¬ S 48 i = S 48 u := by rw [k2, l2]; exact hbits
            refine ⟨-1000003, cnC 2 S, cnM 2 (cnC 2 S), ?_, ?_, hI.cn (by decide)⟩
            · unfold fX4_copy
              rw [cl_s (sheetG_c _ S), b2i_t h, if_neg one_ne, cl_s (sheetG_c _ S), b2i_t h3, if_neg one_ne, ink_n hi (by decide), nI_clamp (show i < 2 ^ 31 by omega), cl_s (miss_c S), b2i_f k1, if_pos rfl, ink_n hu (by decide), nI_clamp (show u < 2 ^ 31 by omega), cl_s (miss_c S), b2i_f l1, if_pos rfl, ink_n hi (by decide), ink_n hu (by decide), if_neg hbits, cl_s (fo3 S)]
            · have e48 : cnC 2 S 48 = S 48 := up2_qn (by decide)
              unfold fX5_copy
              rw [cl_s (sheetG_m _ _), b2i_t h, if_neg one_ne, cl_s (sheetG_m _ _), b2i_t h3, if_neg one_ne, rd_n hi (by decide), e48, if_neg k3', rd_n hu (by decide), e48, if_pos l3, rd_n hi (by decide), e48, rd_n hu (by decide), e48, if_neg hb48, cl_s (fq3 _)]
    · refine hI.bad ?_ ?_
      · unfold fX4_copy fX4_copy_L14
        rw [cl_s (sheetG_c _ S), b2i_t h, if_neg one_ne, cl_s (sheetG_c _ S), b2i_f h3, if_pos rfl, cl_s (fo1 S)]
      · intro S1 _
        unfold fX5_copy fX5_copy_L14
        rw [cl_s (sheetG_m _ _), b2i_t h, if_neg one_ne, cl_s (sheetG_m _ _), b2i_f h3, if_pos rfl, cl_s (fq1 S1)]
  · refine hI.bad ?_ ?_
    · unfold fX4_copy fX4_copy_L14
      rw [cl_s (sheetG_c _ S), b2i_f h, if_pos rfl, cl_s (fo1 S)]
    · intro S1 _
      unfold fX5_copy fX5_copy_L14
      rw [cl_s (sheetG_m _ _), b2i_f h, if_pos rfl, cl_s (fq1 S1)]
