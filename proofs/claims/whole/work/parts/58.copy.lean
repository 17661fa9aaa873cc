/-! Copies: of a cliff, of a row. -/
theorem ac_st {S : St} {q0 q1 n : Nat} {m : Int32} (hm : m.toNatClampNeg = n) (h0 : ¬ m < 0) : ∃ S', (∀ (β : Type) (K : St → Option β), ac S q0 q1 n n 0 0 m K = K S') ∧ (∀ k, k ≠ q1 → S' k = S k) ∧ ∀ j, j < n → S' q1 j = S q0 j := by
  have z : (0 : Int32).toNatClampNeg = 0 := by decide
  refine ⟨upR S q1 (va_cpy (S q0) (S q1) 0 0 n), fun β K => ?_, fun k hk => upR_qn hk, fun j hj => ?_⟩
  · unfold ac
    rw [z, hm, if_neg]
    intro q
    rcases q with q | q | q | q | q
    · exact absurd q (by decide)
    · exact absurd q (by decide)
    · exact h0 q
    · omega
    · omega
  · rw [upR_qq]
    unfold va_cpy
    rw [if_pos (by omega)]
    congr 1
    omega
theorem become_c {a b : Nat} {T : Row} {go : Int32} {S : St} (hR : Rep a T go S) (hab : a + 9 ≤ b ∨ b + 9 ≤ a) : ∃ S', fX0_become b a S = some ((), S') ∧ Rep b T go S' ∧ Fr b S S' := by
  obtain ⟨S1, e1, f1, g1⟩ := ac_st (S := S) (q0 := a + 1) (q1 := b + 1) (n := 12) (m := 12) (by decide) (by decide)
  obtain ⟨S2, e2, f2, g2⟩ := ac_st (S := S1) (q0 := a + 2) (q1 := b + 2) (n := 8) (m := 8) (by decide) (by decide)
  obtain ⟨S3, e3, f3, g3⟩ := ac_st (S := S2) (q0 := a + 3) (q1 := b + 3) (n := 8) (m := 8) (by decide) (by decide)
  obtain ⟨S4, e4, f4, g4⟩ := ac_st (S := S3) (q0 := a + 4) (q1 := b + 4) (n := 8) (m := 8) (by decide) (by decide)
  obtain ⟨S5, e5, f5, g5⟩ := ac_st (S := S4) (q0 := a + 5) (q1 := b + 5) (n := 8) (m := 8) (by decide) (by decide)
  obtain ⟨S6, e6, f6, g6⟩ := ac_st (S := S5) (q0 := a + 6) (q1 := b + 6) (n := 8) (m := 8) (by decide) (by decide)
  obtain ⟨S7, e7, f7, g7⟩ := ac_st (S := S6) (q0 := a + 7) (q1 := b + 7) (n := 8) (m := 8) (by decide) (by decide)
  obtain ⟨S8, e8, f8, g8⟩ := ac_st (S := S7) (q0 := a + 8) (q1 := b + 8) (n := 10) (m := 10) (by decide) (by decide)
  have o : ∀ k, (k < b + 1 ∨ b + 9 ≤ k) → S8 k = S k := fun k hk => by rw [f8 k (by omega), f7 k (by omega), f6 k (by omega), f5 k (by omega), f4 k (by omega), f3 k (by omega), f2 k (by omega), f1 k (by omega)]
  have c1 : ∀ j, j < 12 → S8 (b + 1) j = S (a + 1) j := fun j hj => by rw [f8 (b + 1) (by omega), f7 (b + 1) (by omega), f6 (b + 1) (by omega), f5 (b + 1) (by omega), f4 (b + 1) (by omega), f3 (b + 1) (by omega), f2 (b + 1) (by omega), g1 j hj]
  have c2 : ∀ j, j < 8 → S8 (b + 2) j = S (a + 2) j := fun j hj => by rw [f8 (b + 2) (by omega), f7 (b + 2) (by omega), f6 (b + 2) (by omega), f5 (b + 2) (by omega), f4 (b + 2) (by omega), f3 (b + 2) (by omega), g2 j hj, f1 (a + 2) (by omega)]
  have c3 : ∀ j, j < 8 → S8 (b + 3) j = S (a + 3) j := fun j hj => by rw [f8 (b + 3) (by omega), f7 (b + 3) (by omega), f6 (b + 3) (by omega), f5 (b + 3) (by omega), f4 (b + 3) (by omega), g3 j hj, f2 (a + 3) (by omega), f1 (a + 3) (by omega)]
  have c4 : ∀ j, j < 8 → S8 (b + 4) j = S (a + 4) j := fun j hj => by rw [f8 (b + 4) (by omega), f7 (b + 4) (by omega), f6 (b + 4) (by omega), f5 (b + 4) (by omega), g4 j hj, f3 (a + 4) (by omega), f2 (a + 4) (by omega), f1 (a + 4) (by omega)]
  have c5 : ∀ j, j < 8 → S8 (b + 5) j = S (a + 5) j := fun j hj => by rw [f8 (b + 5) (by omega), f7 (b + 5) (by omega), f6 (b + 5) (by omega), g5 j hj, f4 (a + 5) (by omega), f3 (a + 5) (by omega), f2 (a + 5) (by omega), f1 (a + 5) (by omega)]
  have c6 : ∀ j, j < 8 → S8 (b + 6) j = S (a + 6) j := fun j hj => by rw [f8 (b + 6) (by omega), f7 (b + 6) (by omega), g6 j hj, f5 (a + 6) (by omega), f4 (a + 6) (by omega), f3 (a + 6) (by omega), f2 (a + 6) (by omega), f1 (a + 6) (by omega)]
  have c7 : ∀ j, j < 8 → S8 (b + 7) j = S (a + 7) j := fun j hj => by rw [f8 (b + 7) (by omega), g7 j hj, f6 (a + 7) (by omega), f5 (a + 7) (by omega), f4 (a + 7) (by omega), f3 (a + 7) (by omega), f2 (a + 7) (by omega), f1 (a + 7) (by omega)]
  have c8 : ∀ j, j < 10 → S8 (b + 8) j = S (a + 8) j := fun j hj => by rw [g8 j hj, f7 (a + 8) (by omega), f6 (a + 8) (by omega), f5 (a + 8) (by omega), f4 (a + 8) (by omega), f3 (a + 8) (by omega), f2 (a + 8) (by omega), f1 (a + 8) (by omega)]
  have oa : S8 a = S a := o a (by omega)
  have nb : a ≠ b := by omega
  refine ⟨up2 (up2 (up2 (up2 (up2 (up2 S8 b 8 (S a 8)) b 9 (S a 9)) b 10 (S a 10)) b 11 (S a 11)) b 12 (S a 12)) b 13 (S a 13), ?_, ⟨fun j hj => ?_, fun j hj => ?_, fun j hj => ?_, fun j hj => ?_, fun j hj => ?_, fun j hj => ?_, fun j hj => ?_, fun j hj => ?_, ?_, ?_, ?_, ?_, ?_, ?_⟩, ?_⟩
  · unfold fX0_become
    rw [e1, e2, e3, e4, e5, e6, e7, e8, bnd_s, bnd_s, bnd_s, bnd_s, bnd_s, bnd_s]
    simp only [up2_qn nb, oa]
  · rw [up2_qn (by omega), up2_qn (by omega), up2_qn (by omega), up2_qn (by omega), up2_qn (by omega), up2_qn (by omega), c1 j hj, hR.gr hj]
  · rw [up2_qn (by omega), up2_qn (by omega), up2_qn (by omega), up2_qn (by omega), up2_qn (by omega), up2_qn (by omega), c2 j hj, hR.kd hj]
  · rw [up2_qn (by omega), up2_qn (by omega), up2_qn (by omega), up2_qn (by omega), up2_qn (by omega), up2_qn (by omega), c3 j hj, hR.ld hj]
  · rw [up2_qn (by omega), up2_qn (by omega), up2_qn (by omega), up2_qn (by omega), up2_qn (by omega), up2_qn (by omega), c4 j hj, hR.kn hj]
  · rw [up2_qn (by omega), up2_qn (by omega), up2_qn (by omega), up2_qn (by omega), up2_qn (by omega), up2_qn (by omega), c5 j hj, hR.ag hj]
  · rw [up2_qn (by omega), up2_qn (by omega), up2_qn (by omega), up2_qn (by omega), up2_qn (by omega), up2_qn (by omega), c6 j hj, hR.fe hj]
  · rw [up2_qn (by omega), up2_qn (by omega), up2_qn (by omega), up2_qn (by omega), up2_qn (by omega), up2_qn (by omega), c7 j hj, hR.aq hj]
  · rw [up2_qn (by omega), up2_qn (by omega), up2_qn (by omega), up2_qn (by omega), up2_qn (by omega), up2_qn (by omega), c8 j hj, hR.sp hj]
  · rw [up2_qq, upd_n (by omega), up2_qq, upd_n (by omega), up2_qq, upd_n (by omega), up2_qq, upd_n (by omega), up2_qq, upd_n (by omega), up2_qq, upd_s, hR.n]
  · rw [up2_qq, upd_n (by omega), up2_qq, upd_n (by omega), up2_qq, upd_n (by omega), up2_qq, upd_n (by omega), up2_qq, upd_s, hR.go]
  · rw [up2_qq, upd_n (by omega), up2_qq, upd_n (by omega), up2_qq, upd_n (by omega), up2_qq, upd_s, hR.gw]
  · rw [up2_qq, upd_n (by omega), up2_qq, upd_n (by omega), up2_qq, upd_s, hR.sa]
  · rw [up2_qq, upd_n (by omega), up2_qq, upd_s, hR.dy]
  · rw [up2_qq, upd_s, hR.zz]
  · intro k hk
    rw [up2_qn (by omega), up2_qn (by omega), up2_qn (by omega), up2_qn (by omega), up2_qn (by omega), up2_qn (by omega), o k (by omega)]
theorem cr_loop {p q : Nat} (hpq : p ≠ q) (S0 : St) : ∀ (f i : Nat) (S : St), i ≤ 75 → 75 - i < f → (∀ k, k ≠ q → S k = S0 k) → (∀ j, j < i → S q j = S0 p j) → ∃ S', fX5_copyRow_L2 p q f (nI i) S = some ((), S') ∧ (∀ k, k ≠ q → S' k = S0 k) ∧ EqT (S0 p) (S' q)
  | 0, i, S, h1, h2, h3, h4 => by omega
  | f + 1, i, S, h1, h2, h3, h4 => by
    unfold fX5_copyRow_L2
    by_cases hi : 75 ≤ i
    · have c : (75 : Int32) ≤ nI i := nI_le (a := 75) hi (by omega)
      rw [if_pos c]
      exact ⟨S, rfl, h3, fun j hj => h4 j (by omega)⟩
    · have c : ¬ (75 : Int32) ≤ nI i := nI_ge (b := 75) (by omega) (by decide)
      rw [if_neg c, rd_n (by omega) (by decide), wr_n (by omega) (by decide), bnd_s, nI_1]
      refine cr_loop hpq S0 f (i + 1) _ (by omega) (by omega) (fun k hk => ?_) (fun j hj => ?_)
      · rw [up2_qn hk, h3 k hk]
      · rw [up2_qq]
        by_cases e : j = i
        · rw [e, upd_s, h3 p hpq]
        · rw [upd_n e, h4 j (by omega)]
theorem copyRow_m {p q : Nat} (hpq : p ≠ q) (S : St) : ∃ S', fX5_copyRow p q S = some ((), S') ∧ (∀ k, k ≠ q → S' k = S k) ∧ EqT (S p) (S' q) :=
  cr_loop hpq S FU 0 S (by omega) (by unfold FU; omega) (fun _ _ => rfl) (fun j hj => by omega)
