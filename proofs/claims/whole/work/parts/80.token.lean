/-! TEXT: tokens -/
def tkN (c : Int32) : Nat := if 0 ≤ c then (if ¬ c < 97 ∧ ¬ 122 < c then 1 else if ¬ c < 48 ∧ ¬ 57 < c then 2 else if c = 59 then 3 else 4) else 0
theorem tk_c (c : Int32) (S : St) : fX1_tokenBeginningWith c S = some (nI (tkN c), S) := by
  unfold fX1_tokenBeginningWith fX1_tokenBeginningWith_L20 fX1_tokenBeginningWith_L34 fX1_tokenBeginningWith_L45 tkN
  by_cases h0 : 0 ≤ c
  · rw [if_pos h0, if_pos h0]
    have dg : (if c < 48 then (if c = 59 then some ((3 : Int32), S) else some (4, S)) else if 57 < c then (if c = 59 then some (3, S) else some (4, S)) else some (2, S)) = some (nI (if ¬ c < 48 ∧ ¬ 57 < c then 2 else if c = 59 then 3 else 4), S) := by
      by_cases h1 : c < 48
      · rw [if_pos h1, if_neg (show ¬ (¬ c < 48 ∧ ¬ 57 < c) from fun q => q.1 h1)]
        split <;> rfl
      · by_cases h2 : 57 < c
        · rw [if_neg h1, if_pos h2, if_neg (show ¬ (¬ c < 48 ∧ ¬ 57 < c) from fun q => q.2 h2)]
          split <;> rfl
        · rw [if_neg h1, if_neg h2, if_pos (show ¬ c < 48 ∧ ¬ 57 < c from ⟨h1, h2⟩)]
          rfl
    by_cases h3 : c < 97
    · rw [if_pos h3, if_neg (show ¬ (¬ c < 97 ∧ ¬ 122 < c) from fun q => q.1 h3)]
      exact dg
    · by_cases h4 : 122 < c
      · rw [if_neg h3, if_pos h4, if_neg (show ¬ (¬ c < 97 ∧ ¬ 122 < c) from fun q => q.2 h4)]
        exact dg
      · rw [if_neg h3, if_neg h4, if_pos (show ¬ c < 97 ∧ ¬ 122 < c from ⟨h3, h4⟩)]
        rfl
  · rw [if_neg h0, if_neg h0]
    rfl
theorem letter_m (c : Int32) (S : St) : fX5_isLetter c S = some (b2i (¬ c < 97 ∧ ¬ 122 < c), S) := by
  unfold fX5_isLetter fX5_isLetter_L16 fX5_isLetter_L17
  by_cases h1 : c < 97
  · rw [if_pos h1, b2i_f (fun q => q.1 h1), retN_0]
  · by_cases h2 : 122 < c
    · rw [if_neg h1, if_pos h2, b2i_f (fun q => q.2 h2), retN_0]
    · rw [if_neg h1, if_neg h2, b2i_t ⟨h1, h2⟩, retN_1]
theorem digit_m (c : Int32) (S : St) : fX5_isDigit c S = some (b2i (¬ c < 48 ∧ ¬ 57 < c), S) := by
  unfold fX5_isDigit fX5_isDigit_L16 fX5_isDigit_L17
  by_cases h1 : c < 48
  · rw [if_pos h1, b2i_f (fun q => q.1 h1), retN_0]
  · by_cases h2 : 57 < c
    · rw [if_neg h1, if_pos h2, b2i_f (fun q => q.2 h2), retN_0]
    · rw [if_neg h1, if_neg h2, b2i_t ⟨h1, h2⟩, retN_1]
theorem tk_1 (c : Int32) : tkN c = 1 ↔ (¬ c < 97 ∧ ¬ 122 < c) := by
  unfold tkN
  by_cases h0 : 0 ≤ c
  · rw [if_pos h0]
    by_cases h1 : ¬ c < 97 ∧ ¬ 122 < c
    · rw [if_pos h1]
      exact ⟨fun _ => h1, fun _ => rfl⟩
    · rw [if_neg h1]
      refine ⟨fun q => ?_, fun q => absurd q h1⟩
      split at q
      · exact absurd q (by decide)
      · split at q <;> exact absurd q (by decide)
  · rw [if_neg h0]
    refine ⟨fun q => absurd q (by decide), fun q => absurd ?_ h0⟩
    have h := q.1
    have e0 : (0 : Int32).toInt = 0 := by decide
    have e97 : (97 : Int32).toInt = 97 := by decide
    rw [Int32.lt_iff_toInt_lt] at h
    rw [Int32.le_iff_toInt_le]
    omega
theorem tk_2 (c : Int32) : tkN c = 2 ↔ (¬ c < 48 ∧ ¬ 57 < c) := by
  have e0 : (0 : Int32).toInt = 0 := by decide
  have e48 : (48 : Int32).toInt = 48 := by decide
  have e57 : (57 : Int32).toInt = 57 := by decide
  have e97 : (97 : Int32).toInt = 97 := by decide
  unfold tkN
  by_cases h0 : 0 ≤ c
  · rw [if_pos h0]
    by_cases h1 : ¬ c < 97 ∧ ¬ 122 < c
    · rw [if_pos h1]
      refine ⟨fun q => absurd q (by decide), fun q => ?_⟩
      exfalso
      have g1 := h1.1
      have g2 := q.2
      rw [Int32.lt_iff_toInt_lt] at g1 g2
      omega
    · rw [if_neg h1]
      by_cases h2 : ¬ c < 48 ∧ ¬ 57 < c
      · rw [if_pos h2]
        exact ⟨fun _ => h2, fun _ => rfl⟩
      · rw [if_neg h2]
        refine ⟨fun q => ?_, fun q => absurd q h2⟩
        split at q <;> exact absurd q (by decide)
  · rw [if_neg h0]
    refine ⟨fun q => absurd q (by decide), fun q => absurd ?_ h0⟩
    have h := q.1
    rw [Int32.lt_iff_toInt_lt] at h
    rw [Int32.le_iff_toInt_le]
    omega
theorem tk_m (c : Int32) : tkN c = 0 ↔ ¬ 0 ≤ c := by
  unfold tkN
  by_cases h0 : 0 ≤ c
  · rw [if_pos h0]
    refine ⟨fun q => ?_, fun q => absurd h0 q⟩
    split at q
    · exact absurd q (by decide)
    · split at q
      · exact absurd q (by decide)
      · split at q <;> exact absurd q (by decide)
  · rw [if_neg h0]
    exact ⟨fun _ => h0, fun _ => rfl⟩
theorem tk_5 (c : Int32) : tkN c ≤ 4 := by
  unfold tkN
  split
  · split
    · decide
    · split
      · decide
      · split <;> decide
  · decide
/-- the tape, and what is at a place of it -/
def TpB (t : Nat) (b : Row) : Prop := t ≤ 120 ∧ ∀ j, j < t → ∃ w, w < 256 ∧ b j = nI w
def TpC (t : Nat) (b : Row) (S : St) : Prop := S 28 1 = nI t ∧ ∀ j, j < t → S 29 j = b j
def TpM (t : Nat) (b : Row) (S : St) : Prop := S 41 7 = nI t ∧ ∀ j, j < t → S 47 j = b j
def bA (t : Nat) (b : Row) (j : Nat) : Int32 := if j < t then b j else -1
theorem byte_c {t j : Nat} {b : Row} {S : St} (hB : TpB t b) (hC : TpC t b S) (hj : j < 2 ^ 31) : fX3_byteAt (nI j) S = some (bA t b j, S) := by
  have h1 := hB.1
  unfold fX3_byteAt fX3_byteAt_L21 fX3_byteAt_L22 bA
  rw [if_neg (nI_pos hj), hC.1]
  by_cases h : j < t
  · rw [if_neg (nI_ge h (by omega)), rd_n (by omega) (by decide), hC.2 j h, if_pos h]
  · rw [if_pos (nI_le (by omega) hj), if_neg h]
theorem byte_m {t j : Nat} {b : Row} {S : St} (hB : TpB t b) (hM : TpM t b S) (hj : j < 2 ^ 31) : fX5_byteAt (nI j) S = some (bA t b j, S) := by
  have h1 := hB.1
  unfold fX5_byteAt fX5_byteAt_L18 bA
  rw [hM.1]
  by_cases h : j < t
  · rw [if_neg (nI_ge h (by omega)), rd_n (by omega) (by decide), hM.2 j h, if_pos h]
  · rw [if_pos (nI_le (by omega) hj), if_neg h]
theorem bA_i {t j : Nat} {b : Row} (h : j < t) : bA t b j = b j := if_pos h
theorem bA_o {t j : Nat} {b : Row} (h : ¬ j < t) : bA t b j = -1 := if_neg h
def SK (t : Nat) (b : Row) (p q : Nat) : Prop := p ≤ q ∧ q ≤ t ∧ (∀ j, p ≤ j → j < q → b j = 32) ∧ (q = t ∨ b q ≠ 32)
def TK (t : Nat) (b : Row) (q tok e : Nat) : Prop := q ≤ t ∧ tok = tkN (bA t b q) ∧ q ≤ e ∧ e ≤ t ∧ ((tok = 1 ∨ tok = 2) → q < e ∧ (∀ j, q ≤ j → j < e → tkN (b j) = tok) ∧ (e = t ∨ tkN (b e) ≠ tok)) ∧ (tok = 3 → e = q + 1) ∧ ((tok = 0 ∨ tok = 4) → e = q)
theorem run_ex (P : Nat → Prop) (hP : ∀ j, P j ∨ ¬ P j) (t : Nat) : ∀ n p, p + n = t → ∃ q, p ≤ q ∧ q ≤ t ∧ (∀ j, p ≤ j → j < q → P j) ∧ (q = t ∨ ¬ P q)
  | 0, p, h => ⟨p, by omega, by omega, fun j h1 h2 => by omega, Or.inl (by omega)⟩
  | n + 1, p, h => by
    rcases hP p with hp | hp
    · obtain ⟨q, h1, h2, h3, h4⟩ := run_ex P hP t n (p + 1) (by omega)
      refine ⟨q, by omega, h2, fun j g1 g2 => ?_, h4⟩
      by_cases e : j = p
      · rw [e]
        exact hp
      · exact h3 j (by omega) g2
    · exact ⟨p, by omega, by omega, fun j h1 h2 => by omega, Or.inr hp⟩
theorem tok_ex {t : Nat} {b : Row} (hB : TpB t b) {p : Nat} (hp : p ≤ t) : ∃ q tok e, SK t b p q ∧ TK t b q tok e := by
  obtain ⟨q, h1, h2, h3, h4⟩ := run_ex (fun j => b j = 32) (fun j => Classical.em _) t (t - p) p (by omega)
  have hs : SK t b p q := ⟨h1, h2, h3, h4⟩
  by_cases hq : q < t
  · obtain ⟨w, w1, w2⟩ := hB.2 q hq
    have h0 : (0 : Int32) ≤ b q := by rw [w2]; exact nI_pos' (by omega)
    have hb : bA t b q = b q := bA_i hq
    have hn0 : tkN (b q) ≠ 0 := fun z => (tk_m _).mp z h0
    by_cases h12 : tkN (b q) = 1 ∨ tkN (b q) = 2
    · obtain ⟨e, g1, g2, g3, g4⟩ := run_ex (fun j => tkN (b j) = tkN (b q)) (fun j => Classical.em _) t (t - q) q (by omega)
      have hqe : q < e := by
        rcases g4 with g4 | g4
        · omega
        · rcases Nat.lt_or_ge q e with z | z
          · exact z
          · exact absurd rfl (show ¬ tkN (b q) = tkN (b q) by rw [show e = q by omega] at g4; exact g4)
      refine ⟨q, tkN (b q), e, hs, h2, by rw [hb], g1, g2, fun _ => ⟨hqe, g3, g4⟩, fun z => ?_, fun z => ?_⟩
      · omega
      · omega
    · by_cases h3' : tkN (b q) = 3
      · exact ⟨q, tkN (b q), q + 1, hs, h2, by rw [hb], by omega, by omega, fun z => absurd z h12, fun _ => rfl, fun z => by omega⟩
      · exact ⟨q, tkN (b q), q, hs, h2, by rw [hb], by omega, h2, fun z => absurd z h12, fun z => absurd z h3', fun _ => rfl⟩
  · have h0 : tkN (bA t b q) = 0 := by
      rw [bA_o hq]
      decide
    exact ⟨q, 0, q, hs, h2, h0.symm, Nat.le_refl _, h2, fun z => by omega, fun z => by omega, fun _ => rfl⟩
/-! the class steps on -/
theorem so8_c {t p q : Nat} {b : Row} (hB : TpB t b) (hs : SK t b p q) : ∀ (f i : Nat) (S : St), p ≤ i → i ≤ q → q - i < f → TpC t b S → S 30 3 = nI i → ∃ S', fX1_stepOn_L8 f S = fX1_stepOn_L51 S' ∧ S' 30 3 = nI q ∧ (∀ j, j ≠ 3 → S' 30 j = S 30 j) ∧ ∀ k, k ≠ 30 → S' k = S k
  | 0, i, S, h1, h2, h3, hC, h30 => by omega
  | f + 1, i, S, h1, h2, h3, hC, h30 => by
    obtain ⟨s1, s2, s3, s4⟩ := hs
    have hb := hB.1
    unfold fX1_stepOn_L8
    rw [h30, hC.1]
    by_cases ht : t ≤ i
    · rw [if_pos (nI_le ht (by omega))]
      exact ⟨S, rfl, by rw [h30]; congr 1; omega, fun _ _ => rfl, fun _ _ => rfl⟩
    · rw [if_neg (nI_ge (by omega) (by omega)), cl_s (byte_c hB hC (by omega)), bA_i (by omega)]
      by_cases hi : i < q
      · rw [if_pos (s3 i h1 hi), bnd_s, h30, nI_1]
        obtain ⟨S', p1, p2, p0, p3⟩ := so8_c hB ⟨s1, s2, s3, s4⟩ f (i + 1) (up2 S 30 3 (nI (i + 1))) (by omega) (by omega) (by omega) ⟨by rw [up2_qn (by decide)]; exact hC.1, fun j hj => by rw [up2_qn (by decide)]; exact hC.2 j hj⟩ (by rw [up2_qq, upd_s])
        exact ⟨S', p1, p2, fun j hj => by rw [p0 j hj, up2_qq, upd_n hj], fun k hk => by rw [p3 k hk, up2_qn hk]⟩
      · have e : i = q := by omega
        subst e
        have ne : b i ≠ 32 := by
          rcases s4 with s4 | s4
          · omega
          · exact s4
        rw [if_neg ne]
        exact ⟨S, rfl, h30, fun _ _ => rfl, fun _ _ => rfl⟩
theorem so93_c {t q e tok : Nat} {b : Row} (hB : TpB t b) (h12 : tok = 1 ∨ tok = 2) (hT : TK t b q tok e) : ∀ (f i : Nat) (S : St), q ≤ i → i ≤ e → e - i < f → TpC t b S → S 30 2 = nI tok → S 30 4 = nI i → ∃ S', fX1_stepOn_L93 f S = some ((), S') ∧ S' 30 4 = nI e ∧ (∀ j, j ≠ 4 → S' 30 j = S 30 j) ∧ ∀ k, k ≠ 30 → S' k = S k
  | 0, i, S, h1, h2, h3, hC, h30, h4 => by omega
  | f + 1, i, S, h1, h2, h3, hC, h30, h4 => by
    obtain ⟨a1, a2, a3, a4, a5, a6, a7⟩ := hT
    obtain ⟨c1, c2, c3⟩ := a5 h12
    have hb := hB.1
    unfold fX1_stepOn_L93 fX1_stepOn_L159
    rw [h4, hC.1]
    by_cases ht : t ≤ i
    · rw [if_pos (nI_le ht (by omega))]
      exact ⟨S, rfl, by rw [h4]; congr 1; omega, fun _ _ => rfl, fun _ _ => rfl⟩
    · rw [if_neg (nI_ge (by omega) (by omega)), cl_s (byte_c hB hC (by omega)), bA_i (by omega), cl_s (tk_c _ S), h30]
      have k5 := tk_5 (b i)
      by_cases hi : i < e
      · rw [if_pos (by rw [c2 i h1 hi]), bnd_s, h4, nI_1]
        obtain ⟨S', p1, p2, p3, p4⟩ := so93_c hB h12 ⟨a1, a2, a3, a4, a5, a6, a7⟩ f (i + 1) (up2 S 30 4 (nI (i + 1))) (by omega) (by omega) (by omega) ⟨by rw [up2_qn (by decide)]; exact hC.1, fun j hj => by rw [up2_qn (by decide)]; exact hC.2 j hj⟩ (by rw [up2_qq, upd_n (by decide)]; exact h30) (by rw [up2_qq, upd_s])
        exact ⟨S', p1, p2, fun j hj => by rw [p3 j hj, up2_qq, upd_n hj], fun k hk => by rw [p4 k hk, up2_qn hk]⟩
      · have ei : i = e := by omega
        subst ei
        have ne : tkN (b i) ≠ tok := by
          rcases c3 with c3 | c3
          · omega
          · exact c3
        have ne2 : ¬ nI (tkN (b i)) = nI tok := fun z => ne ((nI_eq (by omega) (by omega)).mp z)
        rw [if_neg ne2]
        exact ⟨S, rfl, h4, fun _ _ => rfl, fun _ _ => rfl⟩
theorem step_c {t p q tok e : Nat} {b : Row} {S : St} (hB : TpB t b) (hC : TpC t b S) (h4 : S 30 4 = nI p) (hs : SK t b p q) (hT : TK t b q tok e) : ∃ S', fX1_stepOn S = some ((), S') ∧ S' 30 2 = nI tok ∧ S' 30 3 = nI q ∧ S' 30 4 = nI e ∧ S' 30 5 = S 30 5 ∧ ∀ k, k ≠ 30 → S' k = S k := by
  have hb := hB.1
  have hs' := hs
  obtain ⟨s1, s2, s3, s4⟩ := hs'
  have hT' := hT
  obtain ⟨a1, a2, a3, a4, a5, a6, a7⟩ := hT'
  have k5 : tok ≤ 4 := by rw [a2]; exact tk_5 _
  obtain ⟨S2, p1, p2, p0, p3⟩ := so8_c hB hs FU p (up2 S 30 3 (nI p)) (by omega) s1 (by unfold FU; omega) ⟨by rw [up2_qn (by decide)]; exact hC.1, fun j hj => by rw [up2_qn (by decide)]; exact hC.2 j hj⟩ (by rw [up2_qq, upd_s])
  have o2 : ∀ k, k ≠ 30 → S2 k = S k := fun k hk => by rw [p3 k hk, up2_qn hk]
  have hC2 : TpC t b S2 := ⟨by rw [o2 28 (by decide)]; exact hC.1, fun j hj => by rw [o2 29 (by decide)]; exact hC.2 j hj⟩
  have e5 : S2 30 5 = S 30 5 := by rw [p0 5 (by decide), up2_qq, upd_n (by decide)]
  have run : fX1_stepOn S = fX1_stepOn_L51 S2 := by
    unfold fX1_stepOn
    rw [bnd_s, h4]
    exact p1
  rw [run]
  unfold fX1_stepOn_L51 fX1_stepOn_L159
  rw [p2, cl_s (byte_c hB hC2 (by omega)), cl_s (tk_c _ S2), ← a2, bnd_s, bnd_s]
  have f3 : up2 S2 30 2 (nI tok) 30 3 = nI q := by rw [up2_qq, upd_n (by decide), p2]
  rw [f3]
  have g2 : up2 (up2 S2 30 2 (nI tok)) 30 4 (nI q) 30 2 = nI tok := by rw [up2_qq, upd_n (by decide), up2_qq, upd_s]
  have g3 : up2 (up2 S2 30 2 (nI tok)) 30 4 (nI q) 30 3 = nI q := by rw [up2_qq, upd_n (by decide), f3]
  have g4 : up2 (up2 S2 30 2 (nI tok)) 30 4 (nI q) 30 4 = nI q := by rw [up2_qq, upd_s]
  have g5 : up2 (up2 S2 30 2 (nI tok)) 30 4 (nI q) 30 5 = S 30 5 := by rw [up2_qq, upd_n (by decide), up2_qq, upd_n (by decide), e5]
  have gk : ∀ k, k ≠ 30 → up2 (up2 S2 30 2 (nI tok)) 30 4 (nI q) k = S k := fun k hk => by rw [up2_qn hk, up2_qn hk, o2 k hk]
  generalize up2 (up2 S2 30 2 (nI tok)) 30 4 (nI q) = S4 at g2 g3 g4 g5 gk
  have hC4 : TpC t b S4 := ⟨by rw [gk 28 (by decide)]; exact hC.1, fun j hj => by rw [gk 29 (by decide)]; exact hC.2 j hj⟩
  rw [g2, g4]
  have go93 : (tok = 1 ∨ tok = 2) → ∃ S', fX1_stepOn_L93 FU S4 = some ((), S') ∧ S' 30 2 = nI tok ∧ S' 30 3 = nI q ∧ S' 30 4 = nI e ∧ S' 30 5 = S 30 5 ∧ ∀ k, k ≠ 30 → S' k = S k := by
    intro h12
    obtain ⟨S', r1, r2, r3, r4⟩ := so93_c hB h12 hT FU q S4 (by omega) a3 (by unfold FU; omega) hC4 g2 g4
    exact ⟨S', r1, by rw [r3 2 (by decide)]; exact g2, by rw [r3 3 (by decide)]; exact g3, r2, by rw [r3 5 (by decide)]; exact g5, fun k hk => by rw [r4 k hk, gk k hk]⟩
  have tc : tok = 0 ∨ tok = 1 ∨ tok = 2 ∨ tok = 3 ∨ tok = 4 := by omega
  rcases tc with h | h | h | h | h
  · have e0 : e = q := a7 (Or.inl h)
    rw [h, if_neg (by decide), if_neg (by decide), if_neg (by decide)]
    exact ⟨S4, rfl, by rw [g2, h], g3, by rw [g4, e0], g5, gk⟩
  · obtain ⟨S', r⟩ := go93 (Or.inl h)
    rw [if_pos (by rw [h]; decide)]
    exact ⟨S', r⟩
  · obtain ⟨S', r⟩ := go93 (Or.inr h)
    rw [if_neg (by rw [h]; decide), if_pos (by rw [h]; decide)]
    exact ⟨S', r⟩
  · have e0 : e = q + 1 := a6 h
    rw [h, if_neg (by decide), if_neg (by decide), if_pos (by decide), bnd_s, nI_1]
    refine ⟨_, rfl, by rw [up2_qq, upd_n (by decide), g2, h], by rw [up2_qq, upd_n (by decide), g3], by rw [up2_qq, upd_s, e0], by rw [up2_qq, upd_n (by decide), g5], fun k hk => by rw [up2_qn hk, gk k hk]⟩
  · have e0 : e = q := a7 (Or.inr h)
    rw [h, if_neg (by decide), if_neg (by decide), if_neg (by decide)]
    exact ⟨S4, rfl, by rw [g2, h], g3, by rw [g4, e0], g5, gk⟩
