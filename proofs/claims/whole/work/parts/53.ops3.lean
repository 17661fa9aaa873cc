/-! A goat comes. -/
def comeR (T : Row) (m : Nat) (k l v : Int32) : Row := upd (upd (upd (upd (upd (upd T (17 + 6 * m) k) (18 + 6 * m) l) (19 + 6 * m) v) (20 + 6 * m) 0) (21 + 6 * m) 30) (22 + 6 * m) 0
def comeT (T : Row) (k l v : Int32) : Row := upd (comeR T (nN T) k l v) 0 (T 0 + 1)
theorem comeR_n {T : Row} {m j : Nat} {k l v : Int32} (h : j < 17 + 6 * m ∨ 22 + 6 * m < j) : comeR T m k l v j = T j := by
  unfold comeR
  rw [upd_n (by omega), upd_n (by omega), upd_n (by omega), upd_n (by omega), upd_n (by omega), upd_n (by omega)]
theorem comeR_0 {T : Row} {m : Nat} {k l v : Int32} : comeR T m k l v (17 + 6 * m) = k := by
  unfold comeR
  rw [upd_n (by omega), upd_n (by omega), upd_n (by omega), upd_n (by omega), upd_n (by omega), upd_s]
theorem comeR_1 {T : Row} {m : Nat} {k l v : Int32} : comeR T m k l v (18 + 6 * m) = l := by
  unfold comeR
  rw [upd_n (by omega), upd_n (by omega), upd_n (by omega), upd_n (by omega), upd_s]
theorem comeR_2 {T : Row} {m : Nat} {k l v : Int32} : comeR T m k l v (19 + 6 * m) = v := by
  unfold comeR
  rw [upd_n (by omega), upd_n (by omega), upd_n (by omega), upd_s]
theorem come_V {n : Nat} {T : Row} {k l v : Int32} (h : RwI n T) (h8 : nN T < 8) (hk : ∃ j, j < 7 ∧ k = nI j) (hl : ∃ j, j < 12 ∧ l = nI j) (hv : ∃ j, j < 65536 ∧ v = nI j) : RwI n (comeT T k l v) ∧ nN (comeT T k l v) = nN T + 1 := by
  obtain ⟨a, ⟨d, d1, d2⟩, c⟩ := h
  have e0 : comeT T k l v 0 = nI (nN T + 1) := by
    unfold comeT
    rw [upd_s, a.n, nI_1]
  have en : nN (comeT T k l v) = nN T + 1 := by
    show (comeT T k l v 0).toNatClampNeg = _
    rw [e0, nI_clamp (by omega)]
  have lo : ∀ j, j ≠ 0 → comeT T k l v j = comeR T (nN T) k l v j := fun j hj => upd_n hj
  refine ⟨⟨VT.of ⟨nN T + 1, by omega, e0⟩ (fun g hg => ⟨?_, ?_, ?_⟩), ⟨d, d1, ?_⟩, fun j hj => ?_⟩, en⟩
  · rw [lo _ (by omega)]
    by_cases e : g = nN T
    · rw [e, comeR_0]
      exact hk
    · rw [comeR_n (by omega)]
      exact ⟨_, a.kd hg⟩
  · rw [lo _ (by omega)]
    by_cases e : g = nN T
    · rw [e, comeR_1]
      exact hl
    · rw [comeR_n (by omega)]
      exact ⟨_, a.ld hg⟩
  · rw [lo _ (by omega)]
    by_cases e : g = nN T
    · rw [e, comeR_2]
      exact hv
    · rw [comeR_n (by omega)]
      exact ⟨_, a.kn hg⟩
  · rw [lo _ (by omega), comeR_n (by omega)]
    exact d2
  · rw [lo _ (by omega), comeR_n (by omega), en]
    rcases c j hj with q | ⟨g, q1, q2⟩
    · exact Or.inl q
    · exact Or.inr ⟨g, by omega, q2⟩
theorem add_c {b : Nat} {T : Row} {go k l : Int32} {S : St} (hR : Rep b T go S) (hV : VT T) (h8 : nN T < 8) : ∃ S', fX0_addGoat b k l S = some (nI (nN T), S') ∧ Rep b (comeT T k l 0) go S' ∧ Fr b S S' := by
  have q1 := hR.s_kd (v := k) h8
  have q2 := q1.s_ld (v := l) h8
  have q3 := q2.s_kn (v := 0) h8
  have q4 := q3.s_ag (v := 0) h8
  have q5 := q4.s_fe (v := 30) h8
  have q6 := q5.s_aq (v := 0) h8
  have q7 := q6.s_n (v := T 0 + 1)
  have e := q6.n
  rw [upd_n (by omega), upd_n (by omega), upd_n (by omega), upd_n (by omega), upd_n (by omega), upd_n (by omega)] at e
  refine ⟨_, ?_, q7, ((((((Fr.up (by omega)).tr (Fr.up (by omega))).tr (Fr.up (by omega))).tr (Fr.up (by omega))).tr (Fr.up (by omega))).tr (Fr.up (by omega))).tr Fr.up0⟩
  unfold fX0_addGoat
  rw [bnd_s, hR.n, hV.n, wr_n h8 (by decide), wr_n h8 (by decide), wr_n h8 (by decide), wr_n h8 (by decide), wr_n h8 (by decide), wr_n h8 (by decide), bnd_s, e, hV.n]
theorem ati0 (m : Nat) (S : St) : fX5_at (nI m) 0 S = some (nI (17 + 6 * m), S) := at_n m 0 S
theorem ati1 (m : Nat) (S : St) : fX5_at (nI m) 1 S = some (nI (18 + 6 * m), S) := by
  rw [show 18 + 6 * m = 17 + 6 * m + 1 by omega]
  exact at_n m 1 S
theorem ati2 (m : Nat) (S : St) : fX5_at (nI m) 2 S = some (nI (19 + 6 * m), S) := by
  rw [show 19 + 6 * m = 17 + 6 * m + 2 by omega]
  exact at_n m 2 S
theorem ati3 (m : Nat) (S : St) : fX5_at (nI m) 3 S = some (nI (20 + 6 * m), S) := by
  rw [show 20 + 6 * m = 17 + 6 * m + 3 by omega]
  exact at_n m 3 S
theorem ati4 (m : Nat) (S : St) : fX5_at (nI m) 4 S = some (nI (21 + 6 * m), S) := by
  rw [show 21 + 6 * m = 17 + 6 * m + 4 by omega]
  exact at_n m 4 S
theorem ati5 (m : Nat) (S : St) : fX5_at (nI m) 5 S = some (nI (22 + 6 * m), S) := by
  rw [show 22 + 6 * m = 17 + 6 * m + 5 by omega]
  exact at_n m 5 S
theorem comes_m {S : St} {k l v : Int32} (hV : VT (S 42)) (h8 : nN (S 42) < 8) : fX5_comes k l v S = some ((), upR S 42 (comeT (S 42) k l v)) := by
  have h1 : fX5_comes k l v S = some ((), up2 (up2 (up2 (up2 (up2 (up2 (up2 S 42 (17 + 6 * nN (S 42)) k) 42 (18 + 6 * nN (S 42)) l) 42 (19 + 6 * nN (S 42)) v) 42 (20 + 6 * nN (S 42)) 0) 42 (21 + 6 * nN (S 42)) 30) 42 (22 + 6 * nN (S 42)) 0) 42 0 (S 42 0 + 1)) := by
    generalize hm : nN (S 42) = m at h8
    have en : S 42 0 = nI m := by rw [hV.n, hm]
    unfold fX5_comes
    rw [rd0, en, cl_s (ati0 m _), wr_n (by omega) (by decide), cl_s (ati1 m _), wr_n (by omega) (by decide), cl_s (ati2 m _), wr_n (by omega) (by decide), cl_s (ati3 m _), wr_n (by omega) (by decide), cl_s (ati4 m _), wr_n (by omega) (by decide), cl_s (ati5 m _), wr_n (by omega) (by decide), rd0, wr0]
    rw [up2_qq, upd_n (by omega), up2_qq, upd_n (by omega), up2_qq, upd_n (by omega), up2_qq, upd_n (by omega), up2_qq, upd_n (by omega), up2_qq, upd_n (by omega), en]
  rw [h1]
  unfold comeT comeR
  simp only [upR_up2, upR_qq, upR_upR]
theorem full_c {b : Nat} {T : Row} {go : Int32} {S : St} (hR : Rep b T go S) (hV : VT T) : fX0_isFull b S = some (b2i (nN T = 8), S) := by
  have h8 := hV.n8
  unfold fX0_isFull fX0_isFull_L14
  rw [hR.n, hV.n]
  by_cases h : nN T = 8
  · have c : ¬ nI (nN T) < (8 : Int32) := nI_nlt (b := 8) (by omega) (by omega)
    rw [if_neg c, b2i_t h, retN_1]
  · have c : nI (nN T) < (8 : Int32) := nI_lt (b := 8) (by omega) (by decide)
    rw [if_pos c, b2i_f h, retN_0]
