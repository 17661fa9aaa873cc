/-! feed -/
theorem Inv.tape {n m : Nat} {S S' : St} (h : Inv n S) (e : ∀ k, (k = 0 ∨ 19 ≤ k) → k ≠ 28 → k ≠ 29 → k ≠ 30 → k ≠ 41 → k ≠ 42 → k ≠ 44 → k ≠ 45 → k ≠ 47 → S' k = S k) (e4 : S' 41 4 = S 41 4) (hR : Rep 1 (S' 42) 0 S') (hT : RwI m (S' 42)) (hm : m ≤ n + 1) (tp : TpI S') : Inv (n + 1) S' := by
  obtain ⟨a, b, c, d, f⟩ := h
  have o : ∀ k, (k = 0 ∨ (19 ≤ k ∧ k < 28) ∨ (31 ≤ k ∧ k < 41) ∨ k = 43 ∨ k = 46 ∨ k = 48 ∨ k = 49 ∨ k = 50) → S' k = S k := fun k hk => e k (by omega) (by omega) (by omega) (by omega) (by omega) (by omega) (by omega) (by omega) (by omega)
  refine ⟨⟨?_, hR⟩, ?_, tp, d.fr (fun k h1 h2 => o k (by omega)) (o 48 (by omega)) (o 49 (by omega)) (o 50 (by omega)), f.fr (o 40 (by omega)) (o 46 (by omega))⟩
  · obtain ⟨h1, ⟨d', h2, h3⟩, h4⟩ := hT
    exact ⟨h1, ⟨d', by omega, h3⟩, h4⟩
  · obtain ⟨h1, h2⟩ := b.up
    refine ⟨by rw [o 0 (by omega), e4]; exact h1, ?_⟩
    rw [o 0 (by omega), o 43 (by omega)]
    rcases h2 with h2 | ⟨p, q, r⟩
    · exact Or.inl h2
    · exact Or.inr ⟨p, q, r.fr (fun i hi => o _ (by omega))⟩
def byN (x : Int32) (k : Nat) : Nat := x.toBitVec.toNat / 2 ^ (8 * k) % 256
theorem by_lt (x : Int32) (k : Nat) : byN x k < 256 := Nat.mod_lt _ (by decide)
theorem w4 {k : Nat} (h : k < 4) : k = 0 ∨ k = 1 ∨ k = 2 ∨ k = 3 := by omega
theorem by_c (x : Int32) {k : Nat} (hk : k < 4) : (((x : Int32).toUInt32 >>> ((8 * nI k : Int32).toUInt32 &&& Int32.toUInt32 31)).toInt32) &&& 255 = nI (byN x k) := by
  have hs : (((8 * nI k : Int32).toUInt32 &&& Int32.toUInt32 31).toBitVec % 32).toNat = 8 * k := by
    rcases w4 hk with rfl | rfl | rfl | rfl <;> decide
  conv => lhs; rw [i_nI x]
  rw [pk_ushrN (BitVec.isLt _) _ _ hs, pk_andN (Nat.lt_of_le_of_lt (Nat.div_le_self _ _) (BitVec.isLt _)) 8 (by decide)]
  rfl
theorem tb_nat (x : Int32) (i : Nat) : tb x i = x.toBitVec.toNat.testBit i := rfl
theorem by_m (x : Int32) {k : Nat} (hk : k < 4) : (x >>> ((8 * nI k) &&& 31)) &&& 255 = nI (byN x k) := by
  apply tb_ext
  intro i hi
  have e8 : (8 : Int32) * nI k = nI (8 * k) := by rw [show (8 : Int32) = nI 8 from rfl, pk_mul]
  rw [tb_and, tb_255b i hi, tb_nI (Nat.lt_trans (by_lt x k) (by decide)), e8]
  unfold byN
  rw [show (256 : Nat) = 2 ^ 8 from rfl, Nat.testBit_mod_two_pow, Nat.testBit_div_two_pow]
  by_cases h8 : i < 8
  · have h1 : tb (x >>> (nI (8 * k) &&& 31)) i = tb x (8 * k + i) := by
      unfold tb
      show ((x.toBitVec).sshiftRight (((nI (8 * k) &&& 31).toBitVec).smod 32).toNat).getLsbD i = _
      rw [sh_amt (8 * k) (by omega), BitVec.getLsbD_sshiftRight]
      have c1 : ¬ 32 ≤ i := by omega
      have c2 : 8 * k + i < 32 := by omega
      simp [c1, c2]
    rw [h1, tb_nat]
    simp [h8, Nat.add_comm]
  · simp [h8]
theorem ap_c (x : Int32) : ∀ (k f t : Nat) (S : St), k < f → k ≤ 4 → S 28 1 = nI t → t + k ≤ 120 → ∃ S', fX3_append_L4 f x (nI k - 1) S = some ((), S') ∧ S' 28 1 = nI (t + k) ∧ (∀ q, q ≠ 28 → q ≠ 29 → S' q = S q) ∧ (∀ j, j < t → S' 29 j = S 29 j) ∧ ∀ j, j < k → S' 29 (t + j) = nI (byN x (k - 1 - j))
  | 0, f + 1, t, S, h1, h2, h3, h4 => by
    unfold fX3_append_L4
    rw [if_pos (by decide)]
    exact ⟨S, rfl, h3, fun _ _ _ => rfl, fun _ _ => rfl, fun j hj => absurd hj (by omega)⟩
  | k + 1, f + 1, t, S, h1, h2, h3, h4 => by
    have e1 : up2 S 29 t (nI (byN x k)) 28 = S 28 := up2_qn (by decide)
    obtain ⟨S', p1, p2, p3, p4, p5⟩ := ap_c x k f (t + 1) (up2 (up2 S 29 t (nI (byN x k))) 28 1 (nI (t + 1))) (by omega) (by omega) (by rw [up2_qq, upd_s]) (by omega)
    refine ⟨S', ?_, by rw [p2]; congr 1; omega, fun q h5 h6 => by rw [p3 q h5 h6, up2_qn h5, up2_qn h6], fun j hj => ?_, fun j hj => ?_⟩
    · unfold fX3_append_L4
      rw [nI_pred, if_neg (nI_pos (by omega)), h3, wr_n (by omega) (by decide), by_c x (by omega), bnd_s, bnd_s, e1, h3, nI_1, show nI k + (-1) = nI k - 1 by rw [Int32.sub_eq_add_neg]]
      exact p1
    · rw [p4 j (by omega), up2_qn (by decide), up2_qq, upd_n (by omega)]
    · by_cases hj0 : j = 0
      · subst hj0
        rw [p4 (t + 0) (by omega), up2_qn (by decide), up2_qq, Nat.add_zero, upd_s]
        rfl
      · have := p5 (j - 1) (by omega)
        rw [show t + 1 + (j - 1) = t + j by omega, show k - 1 - (j - 1) = k + 1 - 1 - j by omega] at this
        exact this
  | 0, 0, t, S, h1, h2, h3, h4 => by omega
  | k + 1, 0, t, S, h1, h2, h3, h4 => by omega
theorem ap_m (x : Int32) : ∀ (k f t : Nat) (S : St), k < f → k ≤ 4 → S 41 7 = nI t → t + k ≤ 120 → ∃ S', fX5_feed_L41 f x (nI k - 1) S = some (nI (t + k), S') ∧ S' 41 7 = nI (t + k) ∧ (∀ j, j ≠ 7 → S' 41 j = S 41 j) ∧ (∀ q, q ≠ 41 → q ≠ 47 → S' q = S q) ∧ (∀ j, j < t → S' 47 j = S 47 j) ∧ ∀ j, j < k → S' 47 (t + j) = nI (byN x (k - 1 - j))
  | 0, f + 1, t, S, h1, h2, h3, h4 => by
    unfold fX5_feed_L41
    rw [if_pos (by decide), h3]
    exact ⟨S, rfl, h3, fun _ _ => rfl, fun _ _ _ => rfl, fun _ _ => rfl, fun j hj => absurd hj (by omega)⟩
  | k + 1, f + 1, t, S, h1, h2, h3, h4 => by
    have e1 : up2 S 47 t (nI (byN x k)) 41 = S 41 := up2_qn (by decide)
    obtain ⟨S', p1, p2, p0, p3, p4, p5⟩ := ap_m x k f (t + 1) (up2 (up2 S 47 t (nI (byN x k))) 41 7 (nI (t + 1))) (by omega) (by omega) (by rw [up2_qq, upd_s]) (by omega)
    refine ⟨S', ?_, by rw [p2]; congr 1; omega, fun j hj => by rw [p0 j hj, up2_qq, upd_n hj, e1], fun q h5 h6 => by rw [p3 q h5 h6, up2_qn h5, up2_qn h6], fun j hj => ?_, fun j hj => ?_⟩
    · unfold fX5_feed_L41
      rw [nI_pred, if_neg (nI_pos (by omega)), h3, wr_n (by omega) (by decide), by_m x (by omega), bnd_s, bnd_s, e1, h3, nI_1, show nI k + (-1) = nI k - 1 by rw [Int32.sub_eq_add_neg], p1, show t + 1 + k = t + (k + 1) by omega]
    · rw [p4 j (by omega), up2_qn (by decide), up2_qq, upd_n (by omega)]
    · by_cases hj0 : j = 0
      · subst hj0
        rw [p4 (t + 0) (by omega), up2_qn (by decide), up2_qq, Nat.add_zero, upd_s]
        rfl
      · have := p5 (j - 1) (by omega)
        rw [show t + 1 + (j - 1) = t + j by omega, show k - 1 - (j - 1) = k + 1 - 1 - j by omega] at this
        exact this
  | 0, 0, t, S, h1, h2, h3, h4 => by omega
  | k + 1, 0, t, S, h1, h2, h3, h4 => by omega
theorem eq_feed : EQ2 Inv fX4_feed fX5_feed := by
  intro n S a1 a2 hI hn
  obtain ⟨t, t1, t2, t3, t4⟩ := hI.2.2.1
  by_cases h : ¬ a2 < 1 ∧ ¬ 4 < a2
  · have h0 : ¬ a2 < 0 := fun q => h.1 (by rw [Int32.lt_iff_toInt_lt] at q ⊢; have e0 : (0 : Int32).toInt = 0 := by decide
                                           have e1 : (1 : Int32).toInt = 1 := by decide
                                           omega)
    obtain ⟨j, hj, rfl⟩ := nI_of h0
    have hj4 : j ≤ 4 := Nat.not_lt.mp (fun q => h.2 (nI_lt (a := 4) q hj))
    have c4 : nI j ≤ (4 : Int32) := nI_le (b := 4) hj4 (by decide)
    by_cases ht : t + j ≤ 120
    · have c9 : nI (t + j) ≤ (120 : Int32) := nI_le (b := 120) ht (by decide)
      obtain ⟨S1, p1, p2, p3, p4, p5⟩ := ap_c a1 j FU t S (by unfold FU; omega) hj4 t2 ht
      have t3' : S1 41 7 = nI t := by rw [p3 41 (by decide) (by decide)]; exact t3
      obtain ⟨S2, q1, q2, q0, q3, q4, q5⟩ := ap_m a1 j FU t S1 (by unfold FU; omega) hj4 t3' ht
      refine ⟨nI (t + j), S1, S2, ?_, ?_, ?_⟩
      · unfold fX4_feed fX3_append
        rw [if_neg h.1, if_pos c4, t2, nI_add, if_pos c9, bnd_s, cl_s p1, p2]
      · unfold fX5_feed
        rw [cl_s (isIn_l (lo := 1) (hi := 4) _ 1 4 rfl rfl _), b2i_t h, if_neg one_ne, t3', nI_add, if_pos c9, bnd_s]
        exact q1
      · have e42 : S2 42 = S 42 := by rw [q3 42 (by decide) (by decide), p3 42 (by decide) (by decide)]
        refine hI.tape (m := n) (fun k h1 h2 h3 h4 h5 h6 h7 h8 h9 => by rw [q3 k h5 h9, p3 k h2 h3]) (by rw [q0 4 (by decide), p3 41 (by decide) (by decide)]) ?_ (by rw [e42]; exact hI.1.1) (by omega) ⟨t + j, ht, ?_, q2, fun k hk => ?_⟩
        · rw [e42]
          exact hI.R.fr (fun i hi => by rw [q3 _ (by omega) (by omega), p3 _ (by omega) (by omega)])
        · rw [q3 28 (by decide) (by decide)]
          exact p2
        · rw [q3 29 (by decide) (by decide)]
          by_cases hkt : k < t
          · rw [p4 k hkt, q4 k hkt, p3 47 (by decide) (by decide)]
            exact t4 k hkt
          · have e5 := p5 (k - t) (by omega)
            have e6 := q5 (k - t) (by omega)
            rw [show t + (k - t) = k by omega] at e5 e6
            exact ⟨by rw [e5, e6], _, by_lt a1 _, e5⟩
    · have c9 : ¬ nI (t + j) ≤ (120 : Int32) := nI_ge (a := 120) (by omega) (by omega)
      refine ⟨-1000002, cnC 1 S, cnM 1 (cnC 1 S), ?_, ?_, hI.cn (by decide)⟩
      · unfold fX4_feed
        rw [if_neg h.1, if_pos c4, t2, nI_add, if_neg c9, cl_s (fo2 S)]
      · have e41 : cnC 1 S 41 = S 41 := up2_qn (by decide)
        unfold fX5_feed
        rw [cl_s (isIn_l (lo := 1) (hi := 4) _ 1 4 rfl rfl _), b2i_t h, if_neg one_ne, e41, t3, nI_add, if_neg c9, cl_s (fq2 _)]
  · refine hI.bad ?_ ?_
    · unfold fX4_feed fX4_feed_L10
      by_cases h1 : a2 < 1
      · rw [if_pos h1, cl_s (fo1 S)]
      · have h2 : ¬ a2 ≤ 4 := by
          intro q
          refine h ⟨h1, fun r => ?_⟩
          rw [Int32.lt_iff_toInt_lt] at r
          rw [Int32.le_iff_toInt_le] at q
          omega
        rw [if_neg h1, if_neg h2, cl_s (fo1 S)]
    · intro S1 _
      unfold fX5_feed
      rw [cl_s (isIn_l (lo := 1) (hi := 4) _ 1 4 rfl rfl _), b2i_f h, if_pos rfl, cl_s (fq1 S1)]
