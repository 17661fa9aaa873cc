/-! the model's next token -/
def dgN (b : Row) (j : Nat) : Nat := (b j).toNatClampNeg - 48
def vmN (b : Row) (q : Nat) : Nat → Nat
  | 0 => 0
  | k + 1 => if 99999 < vmN b q k then vmN b q k else 10 * vmN b q k + dgN b (q + k)
def vcN (b : Row) (q : Nat) : Nat → Nat
  | 0 => 0
  | k + 1 => if 100000 < vcN b q k * 10 + dgN b (q + k) then 100000 else vcN b q k * 10 + dgN b (q + k)
theorem vcm (b : Row) (q : Nat) : ∀ k, vcN b q k = if vmN b q k ≤ 99999 then vmN b q k else 100000
  | 0 => rfl
  | k + 1 => by
    have ih := vcm b q k
    rw [vcN, vmN, ih]
    by_cases h : vmN b q k ≤ 99999
    · rw [if_pos h, if_neg (show ¬ 99999 < vmN b q k by omega)]
      by_cases h2 : 10 * vmN b q k + dgN b (q + k) ≤ 99999
      · rw [if_pos h2, if_neg (by omega)]
        omega
      · rw [if_neg h2]
        split <;> omega
    · rw [if_neg h, if_pos (show 99999 < vmN b q k by omega), if_neg h]
      split <;> omega
theorem dg_of {t j : Nat} {b : Row} (hB : TpB t b) (hj : j < t) (h : tkN (b j) = 2) : dgN b j ≤ 9 ∧ b j = nI (48 + dgN b j) := by
  obtain ⟨w, w1, w2⟩ := hB.2 j hj
  have h2 := (tk_2 _).mp h
  have e : (b j).toNatClampNeg = w := by rw [w2, nI_clamp (by omega)]
  have c1 : 48 ≤ w := by
    rcases Nat.lt_or_ge w 48 with z | z
    · exact absurd (show b j < 48 by rw [w2]; exact nI_lt (b := 48) z (by decide)) h2.1
    · exact z
  have c2 : w ≤ 57 := by
    rcases Nat.lt_or_ge 57 w with z | z
    · exact absurd (show 57 < b j by rw [w2]; exact nI_lt (a := 57) z (by omega)) h2.2
    · exact z
  unfold dgN
  rw [e]
  refine ⟨by omega, ?_⟩
  rw [w2]
  congr 1
  omega
theorem vm_lt {t q e : Nat} {b : Row} (hB : TpB t b) (he : e ≤ t) (h : ∀ j, q ≤ j → j < e → tkN (b j) = 2) : ∀ k, q + k ≤ e → vmN b q k < 1000000
  | 0, _ => by
    rw [vmN]
    decide
  | k + 1, hk => by
    have ih := vm_lt hB he h k (by omega)
    have hd := dg_of hB (j := q + k) (by omega) (h _ (by omega) (by omega))
    rw [vmN]
    split
    · exact ih
    · omega
theorem nt8_m {t p q : Nat} {b : Row} (hB : TpB t b) (hs : SK t b p q) : ∀ (f i : Nat) (S : St), p ≤ i → i ≤ q → q - i < f → TpM t b S → S 41 12 = nI i → ∃ S', fX5_nextToken_L8 f S = fX5_nextToken_L8 (0 + 1) S' ∧ S' 41 12 = nI q ∧ (∀ j, j ≠ 12 → S' 41 j = S 41 j) ∧ ∀ k, k ≠ 41 → S' k = S k
  | 0, i, S, h1, h2, h3, hM, h12 => by omega
  | f + 1, i, S, h1, h2, h3, hM, h12 => by
    obtain ⟨s1, s2, s3, s4⟩ := hs
    have hb := hB.1
    by_cases hi : i < q
    · obtain ⟨S', p1, p2, p0, p3⟩ := nt8_m hB ⟨s1, s2, s3, s4⟩ f (i + 1) (up2 S 41 12 (nI (i + 1))) (by omega) (by omega) (by omega) ⟨by rw [up2_qq, upd_n (by decide)]; exact hM.1, fun j hj => by rw [up2_qn (by decide)]; exact hM.2 j hj⟩ (by rw [up2_qq, upd_s])
      refine ⟨S', ?_, p2, fun j hj => by rw [p0 j hj, up2_qq, upd_n hj], fun k hk => by rw [p3 k hk, up2_qn hk]⟩
      rw [← p1]
      conv => lhs; unfold fX5_nextToken_L8
      rw [h12, cl_s (byte_m hB hM (by omega)), bA_i (by omega), if_pos (s3 i h1 hi), bnd_s, h12, nI_1]
    · have ei : i = q := by omega
      subst ei
      have ne : ¬ bA t b i = 32 := by
        rcases s4 with s4 | s4
        · rw [bA_o (by omega)]
          decide
        · by_cases hit : i < t
          · rw [bA_i hit]
            exact s4
          · rw [bA_o hit]
            decide
      refine ⟨S, ?_, h12, fun _ _ => rfl, fun _ _ => rfl⟩
      unfold fX5_nextToken_L8
      rw [h12, cl_s (byte_m hB hM (by omega)), if_neg ne, cl_s (byte_m hB hM (by omega)), if_neg ne]
theorem nt210_m {tok e : Nat} {S : St} (h11 : S 41 11 = nI tok) (hk : tok ≤ 4) (h13 : S 41 13 = nI e) : ∃ S', fX5_nextToken_L210 S = some ((), S') ∧ S' 41 13 = nI (if tok ≤ 2 then e else e + 1) ∧ (∀ j, j ≠ 13 → S' 41 j = S 41 j) ∧ ∀ k, k ≠ 41 → S' k = S k := by
  unfold fX5_nextToken_L210 fX5_nextToken_L228
  rw [h11, h13]
  by_cases h : tok ≤ 2
  · have c : nI tok ≤ (2 : Int32) := nI_le (b := 2) h (by decide)
    rw [if_pos c, bnd_s, if_pos h]
    exact ⟨_, rfl, by rw [up2_qq, upd_s, Int32.add_zero], fun j hj => by rw [up2_qq, upd_n hj], fun k hk => up2_qn hk⟩
  · have c : ¬ nI tok ≤ (2 : Int32) := nI_ge (a := 2) (by omega) (by omega)
    rw [if_neg c, bnd_s, if_neg h]
    exact ⟨_, rfl, by rw [up2_qq, upd_s, nI_1], fun j hj => by rw [up2_qq, upd_n hj], fun k hk => up2_qn hk⟩
theorem nt101_m {t q e : Nat} {b : Row} (hB : TpB t b) (hT : TK t b q 1 e) : ∀ (f i : Nat) (S : St), q ≤ i → i ≤ e → e - i < f → TpM t b S → S 41 11 = 1 → S 41 13 = nI i → ∃ S', fX5_nextToken_L101 f S = fX5_nextToken_L136 FU S' ∧ S' 41 13 = nI e ∧ (∀ j, j ≠ 13 → S' 41 j = S 41 j) ∧ ∀ k, k ≠ 41 → S' k = S k
  | 0, i, S, h1, h2, h3, hM, h11, h13 => by omega
  | f + 1, i, S, h1, h2, h3, hM, h11, h13 => by
    obtain ⟨a1, a2, a3, a4, a5, a6, a7⟩ := hT
    obtain ⟨c1, c2, c3⟩ := a5 (Or.inl rfl)
    have hb := hB.1
    unfold fX5_nextToken_L101
    rw [if_pos h11, h13, cl_s (byte_m hB hM (by omega)), cl_s (letter_m _ S)]
    by_cases hi : i < e
    · rw [bA_i (by omega), b2i_t ((tk_1 _).mp (c2 i h1 hi)), if_neg one_ne, bnd_s, h13, nI_1]
      obtain ⟨S', p1, p2, p3, p4⟩ := nt101_m hB ⟨a1, a2, a3, a4, a5, a6, a7⟩ f (i + 1) (up2 S 41 13 (nI (i + 1))) (by omega) (by omega) (by omega) ⟨by rw [up2_qq, upd_n (by decide)]; exact hM.1, fun j hj => by rw [up2_qn (by decide)]; exact hM.2 j hj⟩ (by rw [up2_qq, upd_n (by decide)]; exact h11) (by rw [up2_qq, upd_s])
      exact ⟨S', p1, p2, fun j hj => by rw [p3 j hj, up2_qq, upd_n hj], fun k hk => by rw [p4 k hk, up2_qn hk]⟩
    · have ei : i = e := by omega
      subst ei
      have ne : ¬ (¬ bA t b i < 97 ∧ ¬ 122 < bA t b i) := by
        intro z
        have z1 := (tk_1 _).mpr z
        by_cases hit : i < t
        · rw [bA_i hit] at z1
          rcases c3 with c3 | c3
          · omega
          · exact c3 z1
        · rw [bA_o hit] at z1
          exact absurd z1 (by decide)
      rw [b2i_f ne, if_pos rfl]
      exact ⟨S, rfl, h13, fun _ _ => rfl, fun _ _ => rfl⟩
theorem nt136_m {t q e : Nat} {b : Row} (hB : TpB t b) (hT : TK t b q 2 e) : ∀ (f k : Nat) (S : St), q + k ≤ e → e - (q + k) < f → TpM t b S → S 41 11 = 2 → S 41 13 = nI (q + k) → S 41 14 = nI (vmN b q k) → ∃ S', fX5_nextToken_L136 f S = fX5_nextToken_L210 S' ∧ S' 41 13 = nI e ∧ S' 41 14 = nI (vmN b q (e - q)) ∧ (∀ j, j ≠ 13 → j ≠ 14 → S' 41 j = S 41 j) ∧ ∀ k, k ≠ 41 → S' k = S k
  | 0, k, S, h2, h3, hM, h11, h13, h14 => by omega
  | f + 1, k, S, h2, h3, hM, h11, h13, h14 => by
    obtain ⟨a1, a2, a3, a4, a5, a6, a7⟩ := hT
    obtain ⟨c1, c2, c3⟩ := a5 (Or.inr rfl)
    have hb := hB.1
    have hv := vm_lt hB a4 c2 k h2
    by_cases hi : q + k < e
    · have hd := dg_of hB (j := q + k) (by omega) (c2 _ (by omega) hi)
      obtain ⟨S', p1, p2, p3, p4, p5⟩ := nt136_m hB ⟨a1, a2, a3, a4, a5, a6, a7⟩ f (k + 1) (up2 (up2 S 41 14 (nI (vmN b q (k + 1)))) 41 13 (nI (q + (k + 1)))) (by omega) (by omega) ⟨by rw [up2_qq, upd_n (by decide), up2_qq, upd_n (by decide)]; exact hM.1, fun j hj => by rw [up2_qn (by decide), up2_qn (by decide)]; exact hM.2 j hj⟩ (by rw [up2_qq, upd_n (by decide), up2_qq, upd_n (by decide)]; exact h11) (by rw [up2_qq, upd_s]) (by rw [up2_qq, upd_n (by decide), up2_qq, upd_s])
      refine ⟨S', ?_, p2, p3, fun j h5 h6 => by rw [p4 j h5 h6, up2_qq, upd_n h5, up2_qq, upd_n h6], fun k hk => by rw [p5 k hk, up2_qn hk, up2_qn hk]⟩
      rw [← p1]
      conv => lhs; unfold fX5_nextToken_L136
      unfold fX5_nextToken_L194
      simp only [bnd_s]
      have g13 : ∀ x : Int32, up2 S 41 14 x 41 13 = nI (q + k) := fun x => by rw [up2_qq, upd_n (by decide)]; exact h13
      rw [if_pos h11, h13, cl_s (byte_m hB hM (by omega)), cl_s (digit_m _ S), bA_i (by omega), b2i_t ((tk_2 _).mp (c2 _ (by omega) hi)), if_neg one_ne, h14, h13, g13, nI_1]
      rw [vmN]
      by_cases hm : 99999 < vmN b q k
      · have c : ¬ nI (vmN b q k) ≤ (99999 : Int32) := nI_ge (a := 99999) hm (by omega)
        rw [if_neg c, if_pos hm]
        rfl
      · have c : nI (vmN b q k) ≤ (99999 : Int32) := nI_le (b := 99999) (by omega) (by decide)
        rw [if_pos c, if_neg hm, cl_s (byte_m hB hM (by omega)), bA_i (by omega), g13, nI_1, hd.2, show (10 : Int32) = nI 10 from rfl, pk_mul, nI_add, show (48 : Int32) = nI 48 from rfl, pk_sub (by omega), show 10 * vmN b q k + (48 + dgN b (q + k)) - 48 = 10 * vmN b q k + dgN b (q + k) by omega]
        rfl
    · have ei : q + k = e := by omega
      have ne : ¬ (¬ bA t b (q + k) < 48 ∧ ¬ 57 < bA t b (q + k)) := by
        intro z
        have z1 := (tk_2 _).mpr z
        by_cases hit : q + k < t
        · rw [bA_i hit] at z1
          rcases c3 with c3 | c3
          · omega
          · rw [ei] at z1
            exact c3 z1
        · rw [bA_o hit] at z1
          exact absurd z1 (by decide)
      refine ⟨S, ?_, by rw [h13, ei], by rw [h14]; congr 2; omega, fun _ _ _ => rfl, fun _ _ => rfl⟩
      unfold fX5_nextToken_L136
      rw [if_pos h11, h13, cl_s (byte_m hB hM (by omega)), cl_s (digit_m _ S), b2i_f ne, if_pos rfl]
theorem step_m {t p q tok e : Nat} {b : Row} {S : St} (hB : TpB t b) (hM : TpM t b S) (h13 : S 41 13 = nI p) (hs : SK t b p q) (hT : TK t b q tok e) : ∃ S', fX5_nextToken S = some ((), S') ∧ S' 41 11 = nI tok ∧ S' 41 12 = nI q ∧ (tok ≠ 4 → S' 41 13 = nI e) ∧ (tok = 2 → S' 41 14 = nI (vmN b q (e - q))) ∧ (∀ j, (j < 11 ∨ 15 ≤ j) → S' 41 j = S 41 j) ∧ ∀ k, k ≠ 41 → S' k = S k := by
  have hb := hB.1
  have hs' := hs
  obtain ⟨s1, s2, s3, s4⟩ := hs'
  have hT' := hT
  obtain ⟨a1, a2, a3, a4, a5, a6, a7⟩ := hT'
  have k5 : tok ≤ 4 := by rw [a2]; exact tk_5 _
  obtain ⟨S2, p1, p2, p0, p3⟩ := nt8_m hB hs FU p (up2 S 41 12 (nI p)) (by omega) s1 (by unfold FU; omega) ⟨by rw [up2_qq, upd_n (by decide)]; exact hM.1, fun j hj => by rw [up2_qn (by decide)]; exact hM.2 j hj⟩ (by rw [up2_qq, upd_s])
  have o2 : ∀ k, k ≠ 41 → S2 k = S k := fun k hk => by rw [p3 k hk, up2_qn hk]
  have o41 : ∀ j, j ≠ 12 → S2 41 j = S 41 j := fun j hj => by rw [p0 j hj, up2_qq, upd_n hj]
  have hM2 : TpM t b S2 := ⟨by rw [o41 7 (by decide)]; exact hM.1, fun j hj => by rw [o2 47 (by decide)]; exact hM.2 j hj⟩
  have run : fX5_nextToken S = fX5_nextToken_L8 (0 + 1) S2 := by
    unfold fX5_nextToken
    rw [bnd_s, h13]
    exact p1
  have ne : ¬ bA t b q = 32 := by
    rcases s4 with s4 | s4
    · rw [bA_o (by omega)]
      decide
    · by_cases hit : q < t
      · rw [bA_i hit]
        exact s4
      · rw [bA_o hit]
        decide
  have run2 : fX5_nextToken S = fX5_nextToken_L93 (nI tok) (up2 S2 41 13 (nI q)) := by
    rw [run]
    have hM3 : TpM t b (up2 S2 41 13 (nI q)) := ⟨by rw [up2_qq, upd_n (by decide)]; exact hM2.1, fun j hj => by rw [up2_qn (by decide)]; exact hM2.2 j hj⟩
    have g12 : up2 S2 41 13 (nI q) 41 12 = nI q := by rw [up2_qq, upd_n (by decide), p2]
    unfold fX5_nextToken_L8
    rw [p2, cl_s (byte_m hB hM2 (by omega)), if_neg ne, bnd_s, p2, g12, cl_s (byte_m hB hM3 (by omega)), cl_s (letter_m _ _), cl_s (digit_m _ _)]
    rw [a2]
    unfold tkN
    by_cases h0 : 0 ≤ bA t b q
    · rw [if_pos h0, if_pos h0]
      by_cases h1 : ¬ bA t b q < 97 ∧ ¬ 122 < bA t b q
      · rw [b2i_t h1, if_neg one_ne, if_pos h1]
        rfl
      · rw [b2i_f h1, if_pos rfl, if_neg h1]
        by_cases h2 : ¬ bA t b q < 48 ∧ ¬ 57 < bA t b q
        · rw [b2i_t h2, if_neg one_ne, if_pos h2]
          rfl
        · rw [b2i_f h2, if_pos rfl, if_neg h2]
          split <;> rfl
    · rw [if_neg h0, if_neg h0]
      rfl
  rw [run2]
  unfold fX5_nextToken_L93
  rw [bnd_s, bnd_s]
  have g11 : up2 (up2 (up2 S2 41 13 (nI q)) 41 11 (nI tok)) 41 14 0 41 11 = nI tok := by rw [up2_qq, upd_n (by decide), up2_qq, upd_s]
  have g12 : up2 (up2 (up2 S2 41 13 (nI q)) 41 11 (nI tok)) 41 14 0 41 12 = nI q := by rw [up2_qq, upd_n (by decide), up2_qq, upd_n (by decide), up2_qq, upd_n (by decide), p2]
  have g13 : up2 (up2 (up2 S2 41 13 (nI q)) 41 11 (nI tok)) 41 14 0 41 13 = nI q := by rw [up2_qq, upd_n (by decide), up2_qq, upd_n (by decide), up2_qq, upd_s]
  have g14 : up2 (up2 (up2 S2 41 13 (nI q)) 41 11 (nI tok)) 41 14 0 41 14 = 0 := by rw [up2_qq, upd_s]
  have gj : ∀ j, (j < 11 ∨ 15 ≤ j) → up2 (up2 (up2 S2 41 13 (nI q)) 41 11 (nI tok)) 41 14 0 41 j = S 41 j := fun j hj => by rw [up2_qq, upd_n (by omega), up2_qq, upd_n (by omega), up2_qq, upd_n (by omega), o41 j (by omega)]
  have gk : ∀ k, k ≠ 41 → up2 (up2 (up2 S2 41 13 (nI q)) 41 11 (nI tok)) 41 14 0 k = S k := fun k hk => by rw [up2_qn hk, up2_qn hk, up2_qn hk, o2 k hk]
  generalize up2 (up2 (up2 S2 41 13 (nI q)) 41 11 (nI tok)) 41 14 0 = S4 at g11 g12 g13 g14 gj gk
  have hM4 : TpM t b S4 := ⟨by rw [gj 7 (by decide)]; exact hM.1, fun j hj => by rw [gk 47 (by decide)]; exact hM.2 j hj⟩
  have L101 : tok ≠ 1 → fX5_nextToken_L101 FU S4 = fX5_nextToken_L136 FU S4 := by
    intro h
    have c : ¬ S4 41 11 = 1 := by
      rw [g11]
      exact fun z => h ((nI_eq (b := 1) (by omega) (by decide)).mp z)
    show fX5_nextToken_L101 (1023 + 1) S4 = _
    unfold fX5_nextToken_L101
    rw [if_neg c]
  have L136 : ∀ S : St, S 41 11 = nI tok → tok ≠ 2 → fX5_nextToken_L136 FU S = fX5_nextToken_L210 S := by
    intro S g h
    have c : ¬ S 41 11 = 2 := by
      rw [g]
      exact fun z => h ((nI_eq (b := 2) (by omega) (by decide)).mp z)
    show fX5_nextToken_L136 (1023 + 1) S = _
    unfold fX5_nextToken_L136
    rw [if_neg c]
  by_cases h1 : tok = 1
  · subst h1
    obtain ⟨S5, r1, r2, r3, r4⟩ := nt101_m hB hT FU q S4 (by omega) a3 (by unfold FU; omega) hM4 g11 g13
    obtain ⟨S6, u1, u2, u3, u4⟩ := nt210_m (tok := 1) (e := e) (S := S5) (by rw [r3 11 (by decide)]; exact g11) (by decide) r2
    refine ⟨S6, ?_, ?_, ?_, fun _ => u2, fun z => absurd z (by decide), fun j hj => ?_, fun k hk => by rw [u4 k hk, r4 k hk, gk k hk]⟩
    · rw [r1, L136 S5 (by rw [r3 11 (by decide)]; exact g11) (by decide), u1]
    · rw [u3 11 (by decide), r3 11 (by decide), g11]
    · rw [u3 12 (by decide), r3 12 (by decide), g12]
    · rw [u3 j (by omega), r3 j (by omega), gj j hj]
  · by_cases h2 : tok = 2
    · subst h2
      obtain ⟨S5, r1, r2, r0, r3, r4⟩ := nt136_m hB hT FU 0 S4 (by omega) (by unfold FU; omega) hM4 g11 g13 g14
      obtain ⟨S6, u1, u2, u3, u4⟩ := nt210_m (tok := 2) (e := e) (S := S5) (by rw [r3 11 (by decide) (by decide)]; exact g11) (by decide) r2
      refine ⟨S6, ?_, ?_, ?_, fun _ => u2, fun _ => ?_, fun j hj => ?_, fun k hk => by rw [u4 k hk, r4 k hk, gk k hk]⟩
      · rw [L101 (by decide), r1, u1]
      · rw [u3 11 (by decide), r3 11 (by decide) (by decide), g11]
      · rw [u3 12 (by decide), r3 12 (by decide) (by decide), g12]
      · rw [u3 14 (by decide), r0]
      · rw [u3 j (by omega), r3 j (by omega) (by omega), gj j hj]
    · obtain ⟨S6, u1, u2, u3, u4⟩ := nt210_m (tok := tok) (e := q) (S := S4) g11 k5 g13
      refine ⟨S6, ?_, ?_, ?_, fun h4 => ?_, fun z => absurd z h2, fun j hj => ?_, fun k hk => by rw [u4 k hk, gk k hk]⟩
      · rw [L101 h1, L136 S4 g11 h2, u1]
      · rw [u3 11 (by decide), g11]
      · rw [u3 12 (by decide), g12]
      · rw [u2]
        by_cases h3 : tok = 3
        · rw [if_neg (by omega), a6 h3]
        · rw [if_pos (by omega), a7 (by omega)]
      · rw [u3 j (by omega), gj j hj]
