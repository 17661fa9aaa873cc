/-! quotes, the cheapest, of, ask -/
theorem tb_255b : ∀ i, i < 32 → tb 255 i = decide (i < 8) := by decide
theorem gt7 : ∀ i, i < 16 → (!decide ((7 : Int32) < nI i)) = decide (i < 8) := by decide
theorem qF_qT {T : Row} (hV : VT T) {g : Nat} (hg : g < 8) : qF (T (19 + 6 * g)) (isQ T g) 16 = qT T g := by
  obtain ⟨hk, ek⟩ := hV.kn hg
  unfold qT
  rw [ek]
  by_cases k1 : T (17 + 6 * g) = 1
  · rw [if_pos k1]
    by_cases q : T (21 + 6 * g) < 10
    · rw [if_pos q]
      exact qF_none hk (fun i _ => by unfold isQ; rw [if_pos k1, decide_eq_true q]; rfl)
    · rw [if_neg q]
      exact qF_all hk (fun i _ => by unfold isQ; rw [if_pos k1, decide_eq_false q]; rfl)
  rw [if_neg k1]
  by_cases k2 : T (17 + 6 * g) = 2
  · rw [if_pos k2]
    by_cases q : (T (18 + 6 * g) - T (18 + 6 * g) / 2 * 2) = 0
    · rw [if_pos q]
      exact qF_all hk (fun i _ => by unfold isQ; rw [if_neg k1, if_pos k2, decide_eq_true q])
    · rw [if_neg q]
      exact qF_none hk (fun i _ => by unfold isQ; rw [if_neg k1, if_pos k2, decide_eq_false q])
  rw [if_neg k2]
  by_cases k3 : T (17 + 6 * g) = 3
  · rw [if_pos k3]
    exact qF_all hk (fun i _ => by unfold isQ; rw [if_neg k1, if_neg k2, if_pos k3])
  rw [if_neg k3]
  by_cases k4 : T (17 + 6 * g) = 4
  · rw [if_pos k4]
    refine qF_eq hk (fun i hi => ?_) (fun i h1 h2 => ?_)
    · unfold isQ
      rw [if_neg k1, if_neg k2, if_neg k3, if_pos k4, tb_and, tb_not _ (by omega), tb_qF _ _ _ 16 (by omega), decide_eq_true hi, tb_m1 i (by omega), Bool.true_and, Bool.true_and]
    · rw [tb_and, tb_hi hk h1, Bool.false_and]
  rw [if_neg k4]
  by_cases k5 : T (17 + 6 * g) = 5
  · rw [if_pos k5]
    by_cases q : T (18 + 6 * g) = 11
    · rw [if_pos q]
      exact qF_all hk (fun i _ => by unfold isQ; rw [if_neg k1, if_neg k2, if_neg k3, if_neg k4, if_pos k5, decide_eq_true q])
    · rw [if_neg q]
      exact qF_none hk (fun i _ => by unfold isQ; rw [if_neg k1, if_neg k2, if_neg k3, if_neg k4, if_pos k5, decide_eq_false q])
  rw [if_neg k5]
  by_cases k6 : T (17 + 6 * g) = 6
  · rw [if_pos k6]
    by_cases q : T (21 + 6 * g) < 10
    · rw [if_pos q]
      exact qF_none hk (fun i _ => by unfold isQ; rw [if_neg k1, if_neg k2, if_neg k3, if_neg k4, if_neg k5, if_pos k6, decide_eq_true q]; rfl)
    · rw [if_neg q]
      refine qF_eq hk (fun i hi => ?_) (fun i h1 h2 => ?_)
      · unfold isQ
        rw [if_neg k1, if_neg k2, if_neg k3, if_neg k4, if_neg k5, if_pos k6, decide_eq_false q, tb_and, tb_255b i (by omega), gt7 i hi]
        rfl
      · rw [tb_and, tb_hi hk h1, Bool.false_and]
  rw [if_neg k6]
  exact qF_all hk (fun i _ => by unfold isQ; rw [if_neg k1, if_neg k2, if_neg k3, if_neg k4, if_neg k5, if_neg k6])
theorem quotes_m {S : St} (hV : VT (S 42)) {g : Nat} (hg : g < 8) : fX5_quotes (nI g) S = some (qT (S 42) g, S) := by
  rw [← qF_qT hV hg]
  exact qs_loop hg FU 0 (by omega) (by unfold FU; omega)
/-! the cheapest that quotes a page -/
def chO (T : Row) (p : Nat) : Nat → Option Nat
  | 0 => none
  | i + 1 => if tb (qT T i) p = true then (match chO T p i with | none => some i | some j => if csT T j ≤ csT T i then some j else some i) else chO T p i
def oI : Option Nat → Int32
  | none => -1
  | some j => nI j
theorem chO_lt {T : Row} {p : Nat} : ∀ i j, chO T p i = some j → j < i
  | 0, j, h => by
    rw [chO] at h
    cases h
  | i + 1, j, h => by
    rw [chO] at h
    split at h
    · split at h
      · injection h with h
        omega
      · rename_i q hq
        have := chO_lt i q hq
        split at h <;> injection h with h <;> omega
    · have := chO_lt i j h
      omega
theorem ch_c {b p : Nat} {T : Row} {go : Int32} {S : St} (hR : Rep b T go S) (hV : VT T) (hp : p < 31) : ∀ (f i : Nat), i ≤ nN T → nN T - i < f → fX0_cheapestQuoting_L4 b f (nI p) (oI (chO T p i)) (nI i) S = some (oI (chO T p (nN T)), S)
  | 0, i, h1, h2 => by omega
  | f + 1, i, h1, h2 => by
    have h8 := hV.n8
    unfold fX0_cheapestQuoting_L4
    rw [hR.n, hV.n]
    by_cases hi : nN T ≤ i
    · rw [if_pos (nI_le hi (by omega)), show i = nN T by omega]
    · have ih := ch_c hR hV hp f (i + 1) (by omega) (by omega)
      rw [if_neg (nI_ge (by omega) (by omega)), cl_s (quotes_c hR (by omega)), cl_s (hasBit_eq _ hp S)]
      unfold fX0_cheapestQuoting_L41 fX0_cheapestQuoting_L43
      simp only [bnd_s]
      rw [nI_1]
      rw [chO] at ih
      by_cases q : tb (qT T i) p = true
      · rw [b2i_t q, if_neg one_ne]
        rw [if_pos q] at ih
        cases hc : chO T p i with
        | none =>
          rw [hc] at ih
          have c : oI none < 0 := by decide
          rw [if_pos c]
          exact ih
        | some j =>
          rw [hc] at ih
          have hj := chO_lt i j hc
          have c : ¬ oI (some j) < 0 := nI_pos (n := j) (by omega)
          have e : oI (some j) = nI j := rfl
          rw [if_neg c, cl_s (costs_c hR hV (by omega)), e, cl_s (costs_c hR hV (by omega))]
          by_cases w : csT T j ≤ csT T i
          · rw [if_pos w]
            rw [show (match some j with | none => some i | some j => if csT T j ≤ csT T i then some j else some i) = some j from if_pos w] at ih
            exact ih
          · rw [if_neg w]
            rw [show (match some j with | none => some i | some j => if csT T j ≤ csT T i then some j else some i) = some i from if_neg w] at ih
            exact ih
      · rw [b2i_f q, if_pos rfl]
        rw [if_neg q] at ih
        exact ih
theorem cheap_c {b p : Nat} {T : Row} {go : Int32} {S : St} (hR : Rep b T go S) (hV : VT T) (hp : p < 31) : fX0_cheapestQuoting b (nI p) S = some (oI (chO T p (nN T)), S) := ch_c hR hV hp FU 0 (by omega) (by have := hV.n8; unfold FU; omega)
theorem ch_m {S : St} {p : Nat} (hV : VT (S 42)) (hp : p < 31) : ∀ (f i : Nat), i ≤ nN (S 42) → nN (S 42) - i < f → fX5_cheapest_L4 f (nI p) (oI (chO (S 42) p i)) (nI i) S = some (oI (chO (S 42) p (nN (S 42))), S)
  | 0, i, h1, h2 => by omega
  | f + 1, i, h1, h2 => by
    have h8 := hV.n8
    unfold fX5_cheapest_L4
    rw [rd0, hV.n]
    by_cases hi : nN (S 42) ≤ i
    · rw [if_pos (nI_le hi (by omega)), show i = nN (S 42) by omega]
    · have ih := ch_m hV hp f (i + 1) (by omega) (by omega)
      rw [if_neg (nI_ge (by omega) (by omega)), cl_s (quotes_m hV (by omega))]
      unfold fX5_cheapest_L32 fX5_cheapest_L56 fX5_cheapest_L60 fX5_cheapest_L61
      simp only [bnd_s]
      rw [nI_1]
      rw [chO] at ih
      by_cases q : tb (qT (S 42) i) p = true
      · rw [if_pos ((shr_1 _ hp).mpr q), if_neg one_ne]
        rw [if_pos q] at ih
        cases hc : chO (S 42) p i with
        | none =>
          rw [hc] at ih
          have c : oI none < 0 := by decide
          rw [if_pos c]
          exact ih
        | some j =>
          rw [hc] at ih
          have hj := chO_lt i j hc
          have c : ¬ oI (some j) < 0 := nI_pos (n := j) (by omega)
          have e : oI (some j) = nI j := rfl
          rw [if_neg c, cl_s (costs_m hV (by omega)), e, cl_s (costs_m hV (by omega))]
          by_cases w : csT (S 42) j ≤ csT (S 42) i
          · rw [if_pos w]
            rw [show (match some j with | none => some i | some j => if csT (S 42) j ≤ csT (S 42) i then some j else some i) = some j from if_pos w] at ih
            exact ih
          · rw [if_neg w]
            rw [show (match some j with | none => some i | some j => if csT (S 42) j ≤ csT (S 42) i then some j else some i) = some i from if_neg w] at ih
            exact ih
      · rw [if_neg (fun r => q ((shr_1 _ hp).mp r)), if_pos True.intro]
        rw [if_neg q] at ih
        exact ih
theorem cheap_m {S : St} {p : Nat} (hV : VT (S 42)) (hp : p < 31) : fX5_cheapest (nI p) S = some (oI (chO (S 42) p (nN (S 42))), S) := ch_m hV hp FU 0 (by omega) (by have := hV.n8; unfold FU; omega)
