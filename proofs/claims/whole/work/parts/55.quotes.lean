/-! What a goat quotes. -/
def qF (K : Int32) (P : Nat → Bool) : Nat → Int32
  | 0 => 0
  | p + 1 => if (tb K p && P p) = true then qF K P p ||| b1 p else qF K P p
theorem tb_qF (K : Int32) (P : Nat → Bool) (i : Nat) : ∀ n, n ≤ 16 → tb (qF K P n) i = (decide (i < n) && (tb K i && P i))
  | 0, _ => by
    rw [qF, tb_0]
    rfl
  | n + 1, h => by
    have ih := tb_qF K P i n (by omega)
    rw [qF]
    by_cases e : i = n
    · subst e
      rw [show decide (i < i + 1) = true from decide_eq_true (by omega), Bool.true_and]
      rw [show decide (i < i) = false from decide_eq_false (by omega), Bool.false_and] at ih
      by_cases c : (tb K i && P i) = true
      · rw [if_pos c, tb_or, tb_b1 (by omega), ih, c]
        rw [show decide (i = i) = true from decide_eq_true rfl]
        rfl
      · rw [if_neg c, ih]
        exact (Bool.eq_false_iff.mpr c).symm
    · have e2 : decide (i < n + 1) = decide (i < n) := by
        by_cases q : i < n
        · rw [decide_eq_true q, decide_eq_true (by omega)]
        · rw [decide_eq_false q, decide_eq_false (by omega)]
      rw [e2, ← ih]
      by_cases c : (tb K n && P n) = true
      · rw [if_pos c, tb_or, tb_b1 (by omega), decide_eq_false e, Bool.or_false]
      · rw [if_neg c]
theorem tb_hi {k i : Nat} (hk : k < 65536) (hi : 16 ≤ i) : tb (nI k) i = false := by
  rw [tb_nI (by omega)]
  exact Nat.testBit_lt_two_pow (Nat.lt_of_lt_of_le (show k < 2 ^ 16 from hk) (Nat.pow_le_pow_right (by decide) hi))
theorem qF_eq {k : Nat} (hk : k < 65536) {P : Nat → Bool} {X : Int32} (h : ∀ i, i < 16 → tb X i = (tb (nI k) i && P i)) (h2 : ∀ i, 16 ≤ i → i < 32 → tb X i = false) : qF (nI k) P 16 = X := by
  refine tb_ext (fun i hi => ?_)
  rw [tb_qF _ _ _ 16 (by omega)]
  by_cases q : i < 16
  · rw [decide_eq_true q, Bool.true_and, h i q]
  · rw [decide_eq_false q, Bool.false_and, h2 i (by omega) hi]
theorem qF_all {k : Nat} (hk : k < 65536) {P : Nat → Bool} (h : ∀ i, i < 16 → P i = true) : qF (nI k) P 16 = nI k :=
  qF_eq hk (fun i hi => by rw [h i hi, Bool.and_true]) (fun i h1 _ => tb_hi hk h1)
theorem qF_none {k : Nat} (hk : k < 65536) {P : Nat → Bool} (h : ∀ i, i < 16 → P i = false) : qF (nI k) P 16 = 0 :=
  qF_eq hk (fun i hi => by rw [h i hi, Bool.and_false, tb_0]) (fun i _ _ => tb_0 i)
def m3 (a : Int32) (p : Nat) : Bool := decide (((nI p + a) - (nI p + a) / 3 * 3) = 0)
theorem skip_loop (a : Int32) (S : St) : ∀ (f i : Nat), i ≤ 16 → 16 - i < f → fX0_skippedAt_L4 f a (qF (-1) (m3 a) i) (nI i) S = some (qF (-1) (m3 a) 16, S)
  | 0, i, h1, h2 => by omega
  | f + 1, i, h1, h2 => by
    unfold fX0_skippedAt_L4
    by_cases hi : 16 ≤ i
    · have c : (16 : Int32) ≤ nI i := nI_le (a := 16) hi (by omega)
      rw [if_pos c, show i = 16 by omega]
    · have c : ¬ (16 : Int32) ≤ nI i := nI_ge (b := 16) (by omega) (by decide)
      have ih := skip_loop a S f (i + 1) (by omega) (by omega)
      rw [if_neg c]
      unfold fX0_skippedAt_L24
      simp only [bnd_s]
      rw [nI_1]
      rw [qF, tb_m1 i (by omega), Bool.true_and] at ih
      unfold m3 at ih
      by_cases q : ((nI i + a) - (nI i + a) / 3 * 3) = 0
      · rw [if_pos q]
        rw [if_pos (decide_eq_true q)] at ih
        exact ih
      · rw [if_neg q]
        rw [if_neg (fun r => q (of_decide_eq_true r))] at ih
        exact ih
theorem skip_c (a : Int32) (S : St) : fX0_skippedAt a S = some (qF (-1) (m3 a) 16, S) := skip_loop a S FU 0 (by omega) (by unfold FU; omega)
def qT (T : Row) (g : Nat) : Int32 :=
  if T (17 + 6 * g) = 1 then (if T (21 + 6 * g) < 10 then 0 else T (19 + 6 * g))
  else if T (17 + 6 * g) = 2 then (if (T (18 + 6 * g) - T (18 + 6 * g) / 2 * 2) = 0 then T (19 + 6 * g) else 0)
  else if T (17 + 6 * g) = 3 then T (19 + 6 * g)
  else if T (17 + 6 * g) = 4 then T (19 + 6 * g) &&& (qF (-1) (m3 (T (20 + 6 * g))) 16 ^^^ (-1))
  else if T (17 + 6 * g) = 5 then (if T (18 + 6 * g) = 11 then T (19 + 6 * g) else 0)
  else if T (17 + 6 * g) = 6 then (if T (21 + 6 * g) < 10 then 0 else T (19 + 6 * g) &&& 255)
  else T (19 + 6 * g)
theorem quotes_c {b g : Nat} {T : Row} {go : Int32} {S : St} (hR : Rep b T go S) (hg : g < 8) : fX0_quotes b (nI g) S = some (qT T g, S) := by
  unfold fX0_quotes fX0_quotes_L65 fX0_quotes_L91 fX0_quotes_L113 fX0_quotes_L154 fX0_quotes_L155 qT
  simp only [rd_n hg (show 8 < 2 ^ 31 by decide), hR.kd hg, hR.ld hg, hR.kn hg, hR.ag hg, hR.fe hg, cl_s (skip_c _ S), ite_s]
/-! the model, page by page -/
def isQ (T : Row) (g p : Nat) : Bool :=
  if T (17 + 6 * g) = 1 then !decide (T (21 + 6 * g) < 10)
  else if T (17 + 6 * g) = 2 then decide ((T (18 + 6 * g) - T (18 + 6 * g) / 2 * 2) = 0)
  else if T (17 + 6 * g) = 3 then true
  else if T (17 + 6 * g) = 4 then !m3 (T (20 + 6 * g)) p
  else if T (17 + 6 * g) = 5 then decide (T (18 + 6 * g) = 11)
  else if T (17 + 6 * g) = 6 then (!decide (T (21 + 6 * g) < 10) && !decide ((7 : Int32) < nI p))
  else true
theorem rb {c : Prop} [Decidable c] {S : St} : (if c then some ((1 : Int32), S) else some (0, S)) = some (b2i c, S) := by
  unfold b2i
  split <;> rfl
theorem isQuoted_m {S : St} {g p : Nat} (hg : g < 8) : fX5_isQuoted (nI g) (nI p) S = some (b2i (isQ (S 42) g p = true), S) := by
  unfold fX5_isQuoted fX5_isQuoted_L60 fX5_isQuoted_L77 fX5_isQuoted_L96 fX5_isQuoted_L113 fX5_isQuoted_L135 fX5_isQuoted_L136 fX5_isQuoted_L137 isQ m3
  rw [cl_s (its0 hg S), cl_s (its4 hg S), cl_s (its1 hg S), cl_s (its3 hg S), cl_s (its1 hg S), cl_s (its4 hg S)]
  simp only [retN_0, retN_1, b2i]
  repeat' split
  all_goals simp_all
theorem qs_loop {S : St} {g : Nat} (hg : g < 8) : ∀ (f i : Nat), i ≤ 16 → 16 - i < f → fX5_quotes_L4 f (nI g) (qF (S 42 (19 + 6 * g)) (isQ (S 42) g) i) (nI i) S = some (qF (S 42 (19 + 6 * g)) (isQ (S 42) g) 16, S)
  | 0, i, h1, h2 => by omega
  | f + 1, i, h1, h2 => by
    unfold fX5_quotes_L4
    by_cases hi : 16 ≤ i
    · have c : (16 : Int32) ≤ nI i := nI_le (a := 16) hi (by omega)
      rw [if_pos c, show i = 16 by omega]
    · have c : ¬ (16 : Int32) ≤ nI i := nI_ge (b := 16) (by omega) (by decide)
      have ih := qs_loop (S := S) hg f (i + 1) (by omega) (by omega)
      rw [if_neg c, cl_s (its2 hg S), cl_s (isQuoted_m hg)]
      unfold fX5_quotes_L40 fX5_quotes_L41
      simp only [bnd_s]
      rw [nI_1, i_or0]
      rw [qF] at ih
      by_cases q : tb (S 42 (19 + 6 * g)) i = true
      · rw [if_pos ((shr_1 _ (by omega)).mpr q)]
        rw [q, Bool.true_and] at ih
        by_cases r : isQ (S 42) g i = true
        · rw [b2i_t r, if_neg one_ne]
          rw [if_pos r] at ih
          exact ih
        · rw [b2i_f r, if_pos rfl]
          rw [if_neg r] at ih
          exact ih
      · rw [if_neg (fun r => q ((shr_1 _ (by omega)).mp r))]
        rw [Bool.eq_false_iff.mpr q, Bool.false_and, if_neg (by decide)] at ih
        exact ih
