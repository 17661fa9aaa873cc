/-! slips -/
theorem i_nI (x : Int32) : x = nI x.toBitVec.toNat := by
  apply Int32.toBitVec_inj.mp
  rw [nI_bv, BitVec.ofNat_toNat, BitVec.setWidth_eq]
def zN (z : Int32) : Int32 := (z * 1103515245) + 12345
def drN (z : Int32) : Nat := (zN z).toBitVec.toNat / 2 ^ 8
theorem dr_eq (z : Int32) : (((zN z : Int32).toUInt32 >>> ((8 : Int32).toUInt32 &&& Int32.toUInt32 31)).toInt32) = nI (drN z) := by
  conv => lhs; rw [i_nI (zN z)]
  exact pk_ushrN (BitVec.isLt _) 8 8 (by decide)
theorem dr_lt (z : Int32) : drN z < 2 ^ 24 := by
  unfold drN
  have := (zN z).toBitVec.isLt
  omega
theorem dr_12 (z : Int32) : nI (drN z) - nI (drN z) / 12 * 12 = nI (drN z % 12) := pk_rem (d := 12) (by have := dr_lt z; omega) (by decide) (by decide)
theorem dr_8 (z : Int32) : nI (drN z) - nI (drN z) / 8 * 8 = nI (drN z % 8) := pk_rem (d := 8) (by have := dr_lt z; omega) (by decide) (by decide)
theorem draw_c {b : Nat} {T : Row} {go : Int32} {S : St} (hR : Rep b T go S) : fX0_draw b S = some (nI (drN (T 2)), up2 S b 13 (zN (T 2))) := by
  unfold fX0_draw
  rw [bnd_s, up2_qq, upd_s, hR.zz]
  have h := dr_eq (T 2)
  unfold zN at h ⊢
  rw [h]
theorem draw_m (S : St) : fX5_draw S = some (nI (drN (S 42 2)), up2 S 42 2 (zN (S 42 2))) := by
  unfold fX5_draw
  rw [rd2, wr2, rd2, up2_qq, upd_s]
  have h := dr_eq (S 42 2)
  unfold zN at h ⊢
  rw [h]
/-- the row behind one landslip -/
def sl1 (T : Row) : Row := upd (upd (upd T 2 (zN (T 2))) (5 + drN (T 2) % 12) 0) 2 (zN (zN (T 2)))
def slT (T : Row) : Row := if drN (zN (T 2)) % 8 < nN T then upd (sl1 T) (18 + 6 * (drN (zN (T 2)) % 8)) 0 else sl1 T
theorem sl1_n {T : Row} {j : Nat} (h : j < 2 ∨ 17 ≤ j) : sl1 T j = T j := by
  unfold sl1
  rw [upd_n (by omega), upd_n (by omega), upd_n (by omega)]
theorem slT_n {T : Row} {j : Nat} (h : j < 2 ∨ 65 ≤ j) : slT T j = T j := by
  unfold slT
  split
  · rw [upd_n (by omega), sl1_n (by omega)]
  · exact sl1_n (by omega)
theorem slT_V {T : Row} (h : VT T) : VT (slT T) := by
  refine h.to (slT_n (by omega)) (fun g hg => ?_)
  unfold slT
  split
  · refine ⟨Or.inl (by rw [upd_n (by omega), sl1_n (by omega)]), ?_, Or.inl (by rw [upd_n (by omega), sl1_n (by omega)])⟩
    by_cases e : g = drN (zN (T 2)) % 8
    · rw [← e]
      exact Or.inr ⟨0, by omega, by rw [upd_s]; rfl⟩
    · exact Or.inl (by rw [upd_n (by omega), sl1_n (by omega)])
  · exact ⟨Or.inl (sl1_n (by omega)), Or.inl (sl1_n (by omega)), Or.inl (sl1_n (by omega))⟩
theorem slip_c {b : Nat} {T : Row} {go : Int32} {S : St} (hR : Rep b T go S) (hV : VT T) : ∃ S', fX0_slip b S = some ((), S') ∧ Rep b (slT T) go S' ∧ Fr b S S' := by
  have h8 := hV.n8
  have m12 : drN (T 2) % 12 < 12 := Nat.mod_lt _ (by decide)
  have m8 : drN (zN (T 2)) % 8 < 8 := Nat.mod_lt _ (by decide)
  have q1 := hR.s_zz (v := zN (T 2))
  have q2 := q1.s_gr (v := 0) m12
  have q3 := q2.s_zz (v := zN (zN (T 2)))
  have F : Fr b S (up2 (up2 (up2 S b 13 (zN (T 2))) (b + 1) (drN (T 2) % 12) 0) b 13 (zN (zN (T 2)))) := (Fr.up0.tr (Fr.up (by omega))).tr Fr.up0
  have z2 : upd (upd T 2 (zN (T 2))) (5 + drN (T 2) % 12) 0 2 = zN (T 2) := by rw [upd_n (by omega), upd_s]
  have d2 := draw_c q2
  rw [z2] at d2
  have e8 := q3.n
  rw [upd_n (by omega), upd_n (by omega), upd_n (by omega), hV.n] at e8
  have run : fX0_slip b S = if nI (nN T) ≤ nI (drN (zN (T 2)) % 8) then some ((), up2 (up2 (up2 S b 13 (zN (T 2))) (b + 1) (drN (T 2) % 12) 0) b 13 (zN (zN (T 2)))) else some ((), up2 (up2 (up2 (up2 S b 13 (zN (T 2))) (b + 1) (drN (T 2) % 12) 0) b 13 (zN (zN (T 2)))) (b + 3) (drN (zN (T 2)) % 8) 0) := by
    unfold fX0_slip fX0_slip_L36
    rw [cl_s (draw_c hR), dr_12, wr_n m12 (by decide), cl_s d2, dr_8, bnd_s, wr_n m8 (by decide), e8]
  unfold slT
  by_cases c : drN (zN (T 2)) % 8 < nN T
  · rw [if_pos c]
    rw [if_neg (nI_ge c (by omega))] at run
    exact ⟨_, run, q3.s_ld m8, F.tr (Fr.up (by omega))⟩
  · rw [if_neg c]
    rw [if_pos (nI_le (by omega) (by omega))] at run
    exact ⟨_, run, q3, F⟩
def slN (T : Row) : Nat → Row
  | 0 => T
  | k + 1 => dayT (slT (slN T k)) 0
theorem slN_V {T : Row} (hV : VT T) {d : Nat} (hd : T 1 = nI d) : ∀ k, VT (slN T k) ∧ (∀ j, (j < 1 ∨ 65 ≤ j) → slN T k j = T j) ∧ slN T k 1 = nI (d + k)
  | 0 => ⟨hV, fun _ _ => rfl, hd⟩
  | k + 1 => by
    obtain ⟨h1, h2, h3⟩ := slN_V hV hd k
    obtain ⟨g1, g2, g3⟩ := day_V (slT_V h1) 0
    refine ⟨g1, fun j hj => ?_, ?_⟩
    · rw [slN, g2 j (by omega) (by omega), slT_n (by omega), h2 j hj]
    · rw [slN, g3, slT_n (by omega), h3, nI_1]
      rfl
theorem slips_c {T : Row} {n d : Nat} (hV : VT T) (hd : T 1 = nI d) (hn : d + n ≤ 99999) : ∀ (f i : Nat) (S : St), i ≤ n → n - i < f → Rep 1 (slN T i) 0 S → ∃ S', fX4_slips_L41 f (nI n) (nI i) S = some (kaF (slN T n) 0, S') ∧ Rep 1 (slN T n) 0 S' ∧ Fr 1 S S'
  | 0, i, S, h1, h2, hR => by omega
  | f + 1, i, S, h1, h2, hR => by
    obtain ⟨v1, v2, v3⟩ := slN_V hV hd i
    by_cases hi : n ≤ i
    · have e : i = n := by omega
      subst e
      unfold fX4_slips_L41
      rw [if_pos (nI_le hi (by omega)), cl_s (pkn_eq hR v1)]
      exact ⟨S, rfl, hR, Fr.rf⟩
    · obtain ⟨S1, p1, p2, p3⟩ := slip_c hR v1
      obtain ⟨S2, q1, q2, q3⟩ := day_c p2 (slT_V v1) (by rw [slT_n (by omega)]; exact v3) (by omega)
      obtain ⟨S3, r1, r2, r3⟩ := slips_c hV hd hn f (i + 1) S2 (by omega) (by omega) q2
      refine ⟨S3, ?_, r2, (p3.tr q3).tr r3⟩
      unfold fX4_slips_L41
      rw [if_neg (nI_ge (by omega) (by omega)), cl_s p1, cl_s q1, bnd_s, nI_1]
      exact r1
theorem slips_m {T : Row} {S : St} {n d : Nat} (hV : VT T) (hd : T 1 = nI d) (hn : d + n ≤ 99999) : ∀ (f i : Nat), i ≤ n → n - i < f → fX5_slips_L41 f (nI n) (nI i) (upR S 42 (slN T i)) = some (kaF (slN T n) 0, upR S 42 (slN T n))
  | 0, i, h1, h2 => by omega
  | f + 1, i, h1, h2 => by
    obtain ⟨v1, v2, v3⟩ := slN_V hV hd i
    have h8 := v1.n8
    by_cases hi : n ≤ i
    · have e : i = n := by omega
      subst e
      unfold fX5_slips_L41
      rw [if_pos (nI_le hi (by omega)), cl_s (ka_eq (by rw [upR_qq]; exact v1)), upR_qq]
    · have ih := slips_m (S := S) hV hd hn f (i + 1) (by omega) (by omega)
      generalize hU : slN T i = U at v1 v2 v3 h8
      have m12 : drN (U 2) % 12 < 12 := Nat.mod_lt _ (by decide)
      have m8 : drN (zN (U 2)) % 8 < 8 := Nat.mod_lt _ (by decide)
      have z2 : upd (upd U 2 (zN (U 2))) (5 + drN (U 2) % 12) 0 2 = zN (U 2) := by rw [upd_n (by omega), upd_s]
      have d1 := draw_m (upR S 42 U)
      rw [upR_qq, upR_up2, upR_qq, upR_upR] at d1
      have d2 := draw_m (upR S 42 (upd (upd U 2 (zN (U 2))) (5 + drN (U 2) % 12) 0))
      rw [upR_qq, z2, upR_up2, upR_qq, upR_upR] at d2
      have e1 : upd (upd (upd U 2 (zN (U 2))) (5 + drN (U 2) % 12) 0) 2 (zN (zN (U 2))) = sl1 U := rfl
      rw [e1] at d2
      have e0 : sl1 U 0 = nI (nN U) := by rw [sl1_n (by omega), v1.n]
      have hd1 := day_m (S := upR S 42 (slT U)) (by rw [upR_qq]; exact slT_V v1) 0
      rw [upR_qq, upR_upR] at hd1
      have e2 : slN T (i + 1) = dayT (slT U) 0 := by rw [slN, hU]
      rw [e2] at ih
      conv => lhs; unfold fX5_slips_L41
      unfold fX5_slips_L88
      simp only [bnd_s]
      rw [if_neg (nI_ge (by omega) (by omega)), cl_s d1, dr_12, n5, wr_n (by omega) (by decide), upR_up2, upR_qq, upR_upR, cl_s d2, dr_8, cl_s (goatG_m _ _), upR_qq, e0, nI_1]
      by_cases c : drN (zN (U 2)) % 8 < nN U
      · have es : slT U = upd (sl1 U) (18 + 6 * (drN (zN (U 2)) % 8)) 0 := by unfold slT; rw [if_pos c]
        rw [es] at hd1
        rw [b2i_t (inR_j c (by omega)), if_neg one_ne, cl_s (ati1 _ _), wr_n (by omega) (by decide), upR_up2, upR_qq, upR_upR, cl_s hd1]
        rw [es] at ih
        exact ih
      · have es : slT U = sl1 U := by unfold slT; rw [if_neg c]
        rw [es] at hd1
        rw [b2i_f (fun q => q.2 (nI_le (by omega) (by omega))), if_pos rfl, cl_s hd1]
        rw [es] at ih
        exact ih
theorem eq_slips : EQ1 Inv fX4_slips fX5_slips := by
  intro n S a1 hI hn
  by_cases h : ¬ a1 < 1 ∧ ¬ 20 < a1
  · have h0 : ¬ a1 < 0 := fun q => h.1 (by rw [Int32.lt_iff_toInt_lt] at q ⊢; have e0 : (0 : Int32).toInt = 0 := by decide
                                           have e1 : (1 : Int32).toInt = 1 := by decide
                                           omega)
    obtain ⟨j, hj, rfl⟩ := nI_of h0
    have hj20 : j ≤ 20 := Nat.not_lt.mp (fun q => h.2 (nI_lt (a := 20) q hj))
    obtain ⟨d, hd, ed⟩ := hI.1.1.2.1
    have hda : d + j ≤ 99999 := by omega
    obtain ⟨S1, p1, p2, p3⟩ := slips_c (n := j) hI.V ed hda FU 0 S (by omega) (by unfold FU; omega) hI.R
    obtain ⟨v1, v2, v3⟩ := slN_V hI.V ed j
    have e42 : S1 42 = S 42 := p3 42 (by omega)
    have c20 : nI j ≤ (20 : Int32) := nI_le (b := 20) hj20 (by decide)
    have c9 : nI (d + j) ≤ (99999 : Int32) := nI_le (b := 99999) hda (by decide)
    refine ⟨kaF (slN (S 42) j) 0, S1, upR S1 42 (slN (S 42) j), ?_, ?_, ?_⟩
    · unfold fX4_slips
      rw [if_neg h.1, if_pos c20, hI.R.dy, ed, nI_add, if_pos c9]
      exact p1
    · have hg := slips_m (S := S1) (n := j) hI.V ed hda FU 0 (by omega) (by unfold FU; omega)
      have e0 : upR S1 42 (slN (S 42) 0) = S1 := by
        show upR S1 42 (S 42) = S1
        rw [← e42]
        exact upR_self
      rw [e0] at hg
      unfold fX5_slips
      rw [cl_s (isIn_l (lo := 1) (hi := 20) _ 1 20 rfl rfl _), b2i_t h, if_neg one_ne, rd1, e42, ed, nI_add, if_pos c9]
      exact hg
    · refine hI.row (T := slN (S 42) j) (m := n + 1) (fun q h1 h2 h3 h4 h5 => ?_) ?_ ?_ ?_ (Nat.le_refl _)
      · rw [upR_qn h3]
        exact p3 q (by omega)
      · rw [upR_qq]
      · exact p2.fr (fun i hi => upR_qn (by omega))
      · refine ⟨v1, ⟨d + j, by omega, v3⟩, fun k hk => ?_⟩
        rw [v2 (65 + k) (by omega), nN_eq (v2 0 (by omega))]
        exact hI.1.1.2.2 k hk
  · refine hI.bad ?_ ?_
    · unfold fX4_slips fX4_slips_L11
      by_cases h1 : a1 < 1
      · rw [if_pos h1, cl_s (fo1 S)]
      · have h2 : ¬ a1 ≤ 20 := by
          intro q
          refine h ⟨h1, fun r => ?_⟩
          rw [Int32.lt_iff_toInt_lt] at r
          rw [Int32.le_iff_toInt_le] at q
          omega
        rw [if_neg h1, if_neg h2, cl_s (fo1 S)]
    · intro S1 _
      unfold fX5_slips
      rw [cl_s (isIn_l (lo := 1) (hi := 20) _ 1 20 rfl rfl _), b2i_f h, if_pos rfl, cl_s (fq1 S1)]
