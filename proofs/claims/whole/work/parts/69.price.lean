/-! price -/
theorem isIn65535 (a : Int32) (S : St) : fX5_isIn a.toInt64 0 65535 S = some (b2i (inR a 65536), S) := isIn_n a 65535 (by decide) rfl S
def prO (T : Row) (w : Int32) : Nat → Nat → Int32 → Option Int32
  | 0, _, acc => some acc
  | f + 1, i, acc => if tb w i = true then (match chO T i (nN T) with | none => none | some j => prO T w f (i + 1) (acc + csT T j)) else prO T w f (i + 1) acc
def prC (S : St) : Option Int32 → Option (Int32 × St)
  | none => some (-1000004, cnC 3 S)
  | some x => some (x, S)
def prM (S : St) : Option Int32 → Option (Int32 × St)
  | none => some (-1000004, cnM 3 S)
  | some x => some (x, S)
theorem pr_c {S : St} {T : Row} (hR : Rep 1 T 0 S) (hV : VT T) (w : Int32) : ∀ (f i e : Nat) (acc : Int32), i + f = 16 → fX4_price_L20 (f + 1 + e) w acc (nI i) S = prC S (prO T w f i acc)
  | 0, i, e, acc, h => by
    have c : (16 : Int32) ≤ nI i := nI_le (a := 16) (by omega) (by omega)
    rw [show 0 + 1 + e = e + 1 by omega]
    unfold fX4_price_L20
    rw [if_pos c]
    rfl
  | f + 1, i, e, acc, h => by
    have h8 := hV.n8
    have c : ¬ (16 : Int32) ≤ nI i := nI_ge (b := 16) (by omega) (by decide)
    rw [show f + 1 + 1 + e = (f + 1 + e) + 1 by omega]
    unfold fX4_price_L20 fX4_price_L68
    rw [if_neg c, cl_s (hasBit_eq w (by omega) S)]
    simp only [bnd_s]
    rw [nI_1]
    by_cases q : tb w i = true
    · rw [b2i_t q, if_neg one_ne, cl_s (cheap_c hR hV (by omega)), prO, if_pos q]
      cases hc : chO T i (nN T) with
      | none =>
        have c2 : ¬ (0 : Int32) ≤ oI none := by decide
        rw [if_neg c2, cl_s (fo4 S)]
        rfl
      | some j =>
        have hj := chO_lt _ _ hc
        have c2 : (0 : Int32) ≤ oI (some j) := nI_le (a := 0) (b := j) (by omega) (by omega)
        have e2 : oI (some j) = nI j := rfl
        rw [if_pos c2, e2, cl_s (costs_c hR hV (by omega))]
        exact pr_c hR hV w f (i + 1) e _ (by omega)
    · rw [b2i_f q, if_pos rfl, prO, if_neg q]
      exact pr_c hR hV w f (i + 1) e _ (by omega)
theorem pr_m {S : St} (hV : VT (S 42)) (w : Int32) : ∀ (f i e : Nat) (acc : Int32), i + f = 16 → fX5_price_L23 (f + 1 + e) w acc (nI i) S = prM S (prO (S 42) w f i acc)
  | 0, i, e, acc, h => by
    have c : (16 : Int32) ≤ nI i := nI_le (a := 16) (by omega) (by omega)
    rw [show 0 + 1 + e = e + 1 by omega]
    unfold fX5_price_L23
    rw [if_pos c]
    rfl
  | f + 1, i, e, acc, h => by
    have h8 := hV.n8
    have c : ¬ (16 : Int32) ≤ nI i := nI_ge (b := 16) (by omega) (by decide)
    rw [show f + 1 + 1 + e = (f + 1 + e) + 1 by omega]
    unfold fX5_price_L23 fX5_price_L66
    rw [if_neg c]
    simp only [bnd_s]
    rw [nI_1]
    by_cases q : tb w i = true
    · rw [if_pos ((shr_1 w (by omega)).mpr q), cl_s (cheap_m hV (by omega)), prO, if_pos q]
      cases hc : chO (S 42) i (nN (S 42)) with
      | none =>
        have c2 : ¬ (0 : Int32) ≤ oI none := by decide
        rw [if_neg c2, cl_s (fq4 S)]
        rfl
      | some j =>
        have hj := chO_lt _ _ hc
        have c2 : (0 : Int32) ≤ oI (some j) := nI_le (a := 0) (b := j) (by omega) (by omega)
        have e2 : oI (some j) = nI j := rfl
        rw [if_pos c2, e2, cl_s (costs_m hV (by omega))]
        exact pr_m hV w f (i + 1) e _ (by omega)
    · rw [if_neg (fun r => q ((shr_1 w (by omega)).mp r)), prO, if_neg q]
      exact pr_m hV w f (i + 1) e _ (by omega)
theorem eq_price : EQ1 Inv fX4_price fX5_price := by
  intro n S a1 hI hn
  by_cases h : inR a1 65536
  · have pc : fX4_price_L20 FU a1 0 0 S = prC S (prO (S 42) a1 16 0 0) := pr_c hI.R hI.V a1 16 0 1007 0 (by omega)
    have pm : ∀ S1 : St, S1 42 = S 42 → fX5_price_L23 FU a1 0 0 S1 = prM S1 (prO (S 42) a1 16 0 0) := fun S1 e => by
      have := pr_m (S := S1) (by rw [e]; exact hI.V) a1 16 0 1007 0 (by omega)
      rw [e] at this
      exact this
    have fc : fX4_price a1 S = prC S (prO (S 42) a1 16 0 0) := by
      unfold fX4_price
      rw [cl_s (within65535 _ S), b2i_t h, if_neg one_ne, pc]
    have fm : ∀ S1 : St, S1 42 = S 42 → fX5_price a1 S1 = prM S1 (prO (S 42) a1 16 0 0) := fun S1 e => by
      unfold fX5_price
      rw [cl_s (isIn65535 _ _), b2i_t h, if_neg one_ne, pm S1 e]
    cases hx : prO (S 42) a1 16 0 0 with
    | none =>
      rw [hx] at fc
      have e42 : cnC 3 S 42 = S 42 := up2_qn (by omega)
      have g := fm _ e42
      rw [hx] at g
      exact ⟨_, _, _, fc, g, hI.cn (by decide)⟩
    | some x =>
      rw [hx] at fc
      have g := fm S rfl
      rw [hx] at g
      exact ⟨_, _, _, fc, g, inv_stay _ _ hI⟩
  · refine hI.bad ?_ ?_
    · unfold fX4_price
      rw [cl_s (within65535 _ S), b2i_f h, if_pos rfl, cl_s (fo1 S)]
    · intro S1 _
      unfold fX5_price
      rw [cl_s (isIn65535 _ _), b2i_f h, if_pos rfl, cl_s (fq1 S1)]
/-! cover -/
def coO (T : Row) (w : Int32) : Nat → Option Nat
  | 0 => none
  | i + 1 => if w &&& (knF T (nI i) (nN T) ^^^ (-1)) = 0 then (match coO T w i with | none => some i | some b => if bcN b ≤ bcN i then some b else some i) else coO T w i
theorem coO_lt {T : Row} {w : Int32} : ∀ i j, coO T w i = some j → j < i
  | 0, j, h => by
    rw [coO] at h
    cases h
  | i + 1, j, h => by
    rw [coO] at h
    split at h
    · split at h
      · injection h with h
        omega
      · rename_i q hq
        have := coO_lt i q hq
        split at h <;> injection h with h <;> omega
    · have := coO_lt i j h
      omega
theorem p2_256 {n : Nat} (h : n ≤ 8) : 2 ^ n ≤ 256 := Nat.pow_le_pow_right (by decide) h
theorem co_c {S : St} {T : Row} (hR : Rep 1 T 0 S) (hV : VT T) (w : Int32) : ∀ (f i : Nat), i ≤ 2 ^ nN T → 2 ^ nN T - i < f → fX4_cover_L31 f w (oI (coO T w i)) (nI (2 ^ nN T)) (nI i) S = fX4_cover_L31 (0 + 1) w (oI (coO T w (2 ^ nN T))) (nI (2 ^ nN T)) (nI (2 ^ nN T)) S
  | 0, i, h1, h2 => by omega
  | f + 1, i, h1, h2 => by
    have h8 := p2_256 hV.n8
    by_cases hi : 2 ^ nN T ≤ i
    · rw [show i = 2 ^ nN T by omega]
      have c : nI (2 ^ nN T) ≤ nI (2 ^ nN T) := nI_le (Nat.le_refl _) (by omega)
      unfold fX4_cover_L31
      rw [if_pos c, if_pos c]
    · have ih := co_c hR hV w f (i + 1) (by omega) (by omega)
      rw [← ih]
      conv => lhs; unfold fX4_cover_L31
      unfold fX4_cover_L53 fX4_cover_L58 fX4_cover_L84
      simp only [bnd_s]
      rw [if_neg (nI_ge (by omega) (by omega)), nI_1]
      rw [coO]
      cases hc : coO T w i with
      | none =>
        have c : oI none < 0 := by decide
        rw [if_pos c, if_neg one_ne, cl_s (pof_eq (nI i) hR hV)]
        by_cases q : w &&& (knF T (nI i) (nN T) ^^^ (-1)) = 0
        · rw [if_pos q, if_pos q]
          rfl
        · rw [if_neg q, if_neg q]
      | some b =>
        have hb := coO_lt i b hc
        have u1 := @bc_le b
        have u2 := @bc_le i
        have c : ¬ oI (some b) < 0 := nI_pos (n := b) (by omega)
        have e : oI (some b) = nI b := rfl
        rw [if_neg c, cl_s (bitCount_eq (x := i) (by omega) S), e, cl_s (bitCount_eq (x := b) (by omega) S)]
        by_cases v : bcN b ≤ bcN i
        · rw [if_pos (nI_le v (by omega)), if_pos True.intro]
          have e3 : (match some b with | none => some i | some b => if bcN b ≤ bcN i then some b else some i) = some b := if_pos v
          rw [e3]
          by_cases q : w &&& (knF T (nI i) (nN T) ^^^ (-1)) = 0
          · rw [if_pos q]
            rfl
          · rw [if_neg q]
            rfl
        · rw [if_neg (nI_ge (by omega) (by omega)), if_neg one_ne, cl_s (pof_eq (nI i) hR hV)]
          have e3 : (match some b with | none => some i | some b => if bcN b ≤ bcN i then some b else some i) = some i := if_neg v
          rw [e3]
          by_cases q : w &&& (knF T (nI i) (nN T) ^^^ (-1)) = 0
          · rw [if_pos q, if_pos q]
            rfl
          · rw [if_neg q, if_neg q]
            rfl
theorem co_m {S : St} (hV : VT (S 42)) (w : Int32) : ∀ (f i : Nat), i ≤ 2 ^ nN (S 42) → 2 ^ nN (S 42) - i < f → fX5_cover_L23 f w (oI (coO (S 42) w i)) (nI i) S = fX5_cover_L23 (0 + 1) w (oI (coO (S 42) w (2 ^ nN (S 42)))) (nI (2 ^ nN (S 42))) S
  | 0, i, h1, h2 => by omega
  | f + 1, i, h1, h2 => by
    have hn8 := hV.n8
    have h8 := p2_256 hV.n8
    have eb : (1 : Int32) <<< (nI (nN (S 42)) &&& 31) = nI (2 ^ nN (S 42)) := b1_nI _ (by omega)
    by_cases hi : 2 ^ nN (S 42) ≤ i
    · rw [show i = 2 ^ nN (S 42) by omega]
      have c : nI (2 ^ nN (S 42)) ≤ nI (2 ^ nN (S 42)) := nI_le (Nat.le_refl _) (by omega)
      unfold fX5_cover_L23
      rw [rd0, hV.n, eb, if_pos c, rd0, hV.n, eb, if_pos c]
    · have ih := co_m hV w f (i + 1) (by omega) (by omega)
      rw [← ih]
      conv => lhs; unfold fX5_cover_L23
      unfold fX5_cover_L50 fX5_cover_L66 fX5_cover_L67
      simp only [bnd_s]
      rw [rd0, hV.n, eb, if_neg (nI_ge (by omega) (by omega)), nI_1]
      rw [coO]
      cases hc : coO (S 42) w i with
      | none =>
        have c : oI none < 0 := by decide
        rw [if_pos c, cl_s (known_eq (nI i) hV)]
        by_cases q : w &&& (knF (S 42) (nI i) (nN (S 42)) ^^^ (-1)) = 0
        · rw [if_pos q, if_pos q]
          rfl
        · rw [if_neg q, if_neg q]
      | some b =>
        have hb := coO_lt i b hc
        have u1 := @bc_le b
        have u2 := @bc_le i
        have c : ¬ oI (some b) < 0 := nI_pos (n := b) (by omega)
        have e : oI (some b) = nI b := rfl
        rw [if_neg c, cl_s (many_eq (x := i) (by omega) S), e, cl_s (many_eq (x := b) (by omega) S)]
        by_cases v : bcN b ≤ bcN i
        · rw [if_pos (nI_le v (by omega))]
          have e3 : (match some b with | none => some i | some b => if bcN b ≤ bcN i then some b else some i) = some b := if_pos v
          rw [e3]
          by_cases q : w &&& (knF (S 42) (nI i) (nN (S 42)) ^^^ (-1)) = 0
          · rw [if_pos q]
            rfl
          · rw [if_neg q]
            rfl
        · rw [if_neg (nI_ge (by omega) (by omega)), cl_s (known_eq (nI i) hV)]
          have e3 : (match some b with | none => some i | some b => if bcN b ≤ bcN i then some b else some i) = some i := if_neg v
          rw [e3]
          by_cases q : w &&& (knF (S 42) (nI i) (nN (S 42)) ^^^ (-1)) = 0
          · rw [if_pos q, if_pos q]
            rfl
          · rw [if_neg q, if_neg q]
            rfl
theorem orN_n (S : St) : fX5_orNone (oI none) S = some (-1000004, cnM 3 S) := by
  have c2 : ¬ (0 : Int32) ≤ oI none := by decide
  unfold fX5_orNone fX5_orNone_L14
  rw [if_neg c2, cl_s (fq4 S)]
theorem orN_s {v : Int32} (h : (0 : Int32) ≤ v) (S : St) : fX5_orNone v S = some (v, S) := by
  unfold fX5_orNone fX5_orNone_L14
  rw [if_pos h]
theorem eq_cover : EQ1 Inv fX4_cover fX5_cover := by
  intro n S a1 hI hn
  have hn8 := hI.V.n8
  have h8 := p2_256 hn8
  by_cases h : inR a1 65536
  · have eb : (1 : Int32) <<< (nI (nN (S 42)) &&& 31) = nI (2 ^ nN (S 42)) := b1_nI _ (by omega)
    have c0 : nI (2 ^ nN (S 42)) ≤ nI (2 ^ nN (S 42)) := nI_le (Nat.le_refl _) (by omega)
    have pc : fX4_cover_L31 FU a1 (-1) (nI (2 ^ nN (S 42))) 0 S = _ := co_c hI.R hI.V a1 FU 0 (Nat.zero_le _) (by have := Nat.two_pow_pos (nN (S 42)); unfold FU; omega)
    have fc : fX4_cover a1 S = fX4_cover_L31 (0 + 1) a1 (oI (coO (S 42) a1 (2 ^ nN (S 42)))) (nI (2 ^ nN (S 42))) (nI (2 ^ nN (S 42))) S := by
      unfold fX4_cover
      rw [cl_s (within65535 _ S), b2i_t h, if_neg one_ne, hI.R.n, hI.V.n, eb, bnd_s, pc]
    have fm : ∀ S1 : St, S1 42 = S 42 → fX5_cover a1 S1 = fX5_cover_L23 (0 + 1) a1 (oI (coO (S 42) a1 (2 ^ nN (S 42)))) (nI (2 ^ nN (S 42))) S1 := fun S1 e => by
      have pm := co_m (S := S1) (by rw [e]; exact hI.V) a1 FU 0 (Nat.zero_le _) (by rw [e]; have := Nat.two_pow_pos (nN (S 42)); unfold FU; omega)
      rw [e] at pm
      have pm' : fX5_cover_L23 FU a1 (-1) 0 S1 = _ := pm
      unfold fX5_cover
      rw [cl_s (isIn65535 _ _), b2i_t h, if_neg one_ne, pm']
    cases hx : coO (S 42) a1 (2 ^ nN (S 42)) with
    | none =>
      rw [hx] at fc
      have e42 : cnC 3 S 42 = S 42 := up2_qn (by omega)
      have g := fm _ e42
      rw [hx] at g
      have c2 : ¬ (0 : Int32) ≤ oI none := by decide
      refine ⟨-1000004, cnC 3 S, cnM 3 (cnC 3 S), ?_, ?_, hI.cn (by decide)⟩
      · rw [fc]
        unfold fX4_cover_L31 fX4_cover_L104
        rw [if_pos c0, if_neg c2, cl_s (fo4 S)]
      · rw [g]
        unfold fX5_cover_L23
        rw [rd0, e42, hI.V.n, eb, if_pos c0, cl_s (orN_n _)]
    | some x =>
      have hj := coO_lt _ _ hx
      rw [hx] at fc
      have g := fm S rfl
      rw [hx] at g
      have c2 : (0 : Int32) ≤ oI (some x) := nI_le (a := 0) (b := x) (by omega) (by omega)
      refine ⟨nI x, S, S, ?_, ?_, inv_stay _ _ hI⟩
      · rw [fc]
        unfold fX4_cover_L31 fX4_cover_L104
        rw [if_pos c0, if_pos c2]
        rfl
      · rw [g]
        unfold fX5_cover_L23
        rw [rd0, hI.V.n, eb, if_pos c0, cl_s (orN_s c2 S)]
        rfl
  · refine hI.bad ?_ ?_
    · unfold fX4_cover
      rw [cl_s (within65535 _ S), b2i_f h, if_pos rfl, cl_s (fo1 S)]
    · intro S1 _
      unfold fX5_cover
      rw [cl_s (isIn65535 _ _), b2i_f h, if_pos rfl, cl_s (fq1 S1)]
