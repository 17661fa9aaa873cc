/-! spots in use -/
def spF (T : Row) : Nat → Int32
  | 0 => 0
  | k + 1 => if T (65 + k) < 0 then spF T k else spF T k + 1
theorem n65 (k : Nat) : 65 + nI k = nI (65 + k) := by rw [show (65 : Int32) = nI 65 from rfl, nI_add]
theorem sp_c {b : Nat} {T : Row} {go : Int32} {S : St} (hR : Rep b T go S) : ∀ (f i : Nat), i ≤ 10 → 10 - i < f → fX0_spotsInUse_L4 b f (spF T i) (nI i) S = some (spF T 10, S)
  | 0, i, h1, h2 => by omega
  | f + 1, i, h1, h2 => by
    unfold fX0_spotsInUse_L4
    by_cases hi : 10 ≤ i
    · have c : (10 : Int32) ≤ nI i := nI_le (a := 10) hi (by omega)
      rw [if_pos c, show i = 10 by omega]
    · have c : ¬ (10 : Int32) ≤ nI i := nI_ge (b := 10) (by omega) (by decide)
      have ih := sp_c hR f (i + 1) (by omega) (by omega)
      rw [if_neg c, rd_n (by omega) (by decide), hR.sp (by omega)]
      unfold fX0_spotsInUse_L22
      simp only [bnd_s]
      rw [nI_1]
      rw [spF] at ih
      by_cases q : T (65 + i) < 0
      · rw [if_pos q] at ih ⊢
        exact ih
      · rw [if_neg q] at ih ⊢
        exact ih
theorem nn_iff (x : Int32) : 0 ≤ x ↔ ¬ x < 0 := by
  rw [Int32.le_iff_toInt_le, Int32.lt_iff_toInt_lt]
  omega
theorem sp_m {S : St} : ∀ (f i : Nat), i ≤ 10 → 10 - i < f → fX5_count_L96 f (spF (S 42) i) (nI i) S = some (spF (S 42) 10, S)
  | 0, i, h1, h2 => by omega
  | f + 1, i, h1, h2 => by
    unfold fX5_count_L96
    by_cases hi : 10 ≤ i
    · have c : (10 : Int32) ≤ nI i := nI_le (a := 10) hi (by omega)
      rw [if_pos c, show i = 10 by omega]
    · have c : ¬ (10 : Int32) ≤ nI i := nI_ge (b := 10) (by omega) (by decide)
      have ih := sp_m (S := S) f (i + 1) (by omega) (by omega)
      rw [if_neg c, n65, rd_n (by omega) (by decide)]
      unfold fX5_count_L120
      simp only [bnd_s]
      rw [nI_1]
      rw [spF] at ih
      by_cases q : S 42 (65 + i) < 0
      · rw [if_pos q] at ih
        rw [if_neg (fun r => (nn_iff _).mp r q), Int32.add_zero]
        exact ih
      · rw [if_neg q] at ih
        rw [if_pos ((nn_iff _).mpr q)]
        exact ih
