/-! TEXT: the whole of it -/
theorem item_no {n t q tok e : Nat} {b T : Row} {SC0 SM0 SC SM : St} (hB : TpB t b) (h : PRx n t b q tok e T SC0 SM0 SC SM) (ht : tok ≠ 1) : fX5_itemHere SM = some (0, up2 SM 41 15 (nI q)) := by
  have km := kind_m hB h.1 h.2.2.1
  have hneg : kdI t b q tok e < 0 := by
    rcases kd_cases t b q tok e with hk | hk
    · rw [hk]
      decide
    · exact absurd hk.2 ht
  have no : ∀ w, ¬ WDx t b q tok e w = true := fun w z => ht (wd_tok z)
  have m10 : fX5_isFive 103 114 97 115 115 SM = some (b2i (WDx t b q tok e (wdL 10) = true), SM) := five_m hB h.1 h.2.2.1 103 114 97 115 115
  have m11 : fX5_isFive 103 114 111 119 115 SM = some (b2i (WDx t b q tok e (wdL 11) = true), SM) := five_m hB h.1 h.2.2.1 103 114 111 119 115
  have m12 : fX5_isFour 115 97 108 116 SM = some (b2i (WDx t b q tok e (wdL 12) = true), SM) := four_m hB h.1 h.2.2.1 115 97 108 116
  unfold fX5_itemHere fX5_itemHere_L94
  rw [cl_s km, if_pos hneg, cl_s m10, b2i_f (no _), if_pos rfl, cl_s m11, b2i_f (no _), if_pos rfl, cl_s m12, b2i_f (no _), if_pos rfl, cl_s (fails_m h.2.2.1.2.2.1), retN_0]
def TAx (n i : Nat) (SC0 SM0 : St) (x : Option (Int32 × St)) (y : Option (Int32 × St)) : Prop := ∃ k T' SC' SM', i ≤ k ∧ k ≤ 120 ∧ x = some (nI k, SC') ∧ y = fX5_text_L54 (nI k) 1 SM' ∧ SM' 41 11 = 0 ∧ Rep 10 T' 0 SC' ∧ SM' 42 = T' ∧ RwI n T' ∧ CF SC0 SC' ∧ MF SM0 SM'
def TBx (t : Nat) (SC0 SM0 : St) (x : Option (Int32 × St)) (y : Option (Int32 × St)) : Prop := ∃ p z SC' SM', p ≤ t ∧ x = some ((-1) - nI p, SC') ∧ y = fX5_text_L76 z SM' ∧ SM' 41 15 = nI p ∧ CF SC0 SC' ∧ MF SM0 SM'
theorem text_loop {n t : Nat} {b : Row} {SC0 SM0 : St} (hB : TpB t b) : ∀ (f i q tok e : Nat) (T : Row) (SC SM : St), PRx n t b q tok e T SC0 SM0 SC SM → 1 ≤ i → i ≤ q + 1 → 121 - i < f → TAx n i SC0 SM0 (fX1_readText_L11 f (nI i) SC) (cl (fX5_itemHere SM) fun v1 S4 => fX5_text_L27 f (nI i) v1 S4) ∨ TBx t SC0 SM0 (fX1_readText_L11 f (nI i) SC) (cl (fX5_itemHere SM) fun v1 S4 => fX5_text_L27 f (nI i) v1 S4)
  | 0, i, q, tok, e, T, SC, SM, h, h1, h2, h3 => by omega
  | f + 1, i, q, tok, e, T, SC, SM, h, h1, h2, h3 => by
    obtain ⟨l1, l2, l3, l4⟩ := h.1.lim hB
    have y1 : ¬ (1 : Int32) = 0 := one_ne
    have l27_0 : ∀ S : St, fX5_text_L27 (f + 1) (nI i) 0 S = fX5_text_L76 (nI i) S := by
      intro S
      unfold fX5_text_L27 fX5_text_L54
      rw [if_pos rfl, if_pos rfl]
    by_cases hi : 120 < i
    · have c : (120 : Int32) < nI i := nI_lt (a := 120) hi (by omega)
      have t0 : tok = 0 := by
        rw [h.1.2.1, bA_o (by omega)]
        decide
      refine Or.inr ⟨q, nI i, SC, up2 SM 41 15 (nI q), by omega, ?_, ?_, by rw [up2_qq, upd_s], h.2.2.2.2.2.2.1, (h.fail hB).elim (fun _ z => z.2.2.2.2)⟩
      · unfold fX1_readText_L11
        rw [if_pos c, h.2.1.2.2.1]
      · rw [cl_s (item_no hB h (by omega)), l27_0]
    · have c : ¬ (120 : Int32) < nI i := nI_nlt (a := 120) (by omega) (by decide)
      rcases item_PR hB h with ⟨q', tok', e', T', SC1, SM1, g1, g2, g3, g4⟩ | ⟨SC1, SM1, g1, g2, p, p1, p2, p3, p4, p5⟩
      · obtain ⟨k1, k2, k3, k4⟩ := g3.1.lim hB
        rw [cl_s g2]
        by_cases t0 : tok' = 0
        · have e2 : SC1 30 2 = 0 := by rw [g3.2.1.2.1, t0]; rfl
          have e11 : SM1 41 11 = 0 := by rw [g3.2.2.1.2.1, t0]; rfl
          have n3 : ¬ (0 : Int32) = 3 := by decide
          refine Or.inl ⟨i, T', SC1, SM1, Nat.le_refl _, by omega, ?_, ?_, e11, g3.2.2.2.1, g3.2.2.2.2.1, g3.2.2.2.2.2.1, g3.2.2.2.2.2.2.1, g3.2.2.2.2.2.2.2⟩
          · unfold fX1_readText_L11
            rw [if_neg c, cl_s g1, if_neg one_ne, if_pos e2]
          · conv => lhs; unfold fX5_text_L27
            rw [if_neg one_ne, e11, if_neg n3]
        · have e2 : ¬ SC1 30 2 = 0 := by
            rw [g3.2.1.2.1]
            exact nI_ne0 (by omega) (by omega)
          have e11 : ¬ SM1 41 11 = 0 := by
            rw [g3.2.2.1.2.1]
            exact nI_ne0 (by omega) (by omega)
          by_cases t3 : tok' = 3
          · have f2 : SC1 30 2 = 3 := by rw [g3.2.1.2.1, t3]; rfl
            have f11 : SM1 41 11 = 3 := by rw [g3.2.2.1.2.1, t3]; rfl
            have he : e' = q' + 1 := g3.1.2.2.2.2.2.1 t3
            obtain ⟨q2, tok2, e2', SC2, SM2, s1, s2, s3, s4⟩ := step_PR hB g3 (by omega)
            have ih := text_loop hB f (i + 1) q2 tok2 e2' T' SC2 SM2 s3 (by omega) (by omega) (by omega)
            have xc : fX1_readText_L11 (f + 1) (nI i) SC = fX1_readText_L11 f (nI (i + 1)) SC2 := by
              conv => lhs; unfold fX1_readText_L11
              rw [if_neg c, cl_s g1, if_neg one_ne, if_neg e2, if_pos f2, cl_s s1, bnd_s, nI_1]
            have xm : fX5_text_L27 (f + 1) (nI i) 1 SM1 = cl (fX5_itemHere SM2) fun v1 S4 => fX5_text_L27 f (nI (i + 1)) v1 S4 := by
              conv => lhs; unfold fX5_text_L27
              rw [if_neg one_ne, if_pos f11, cl_s s2]
              simp only [bnd_s]
              rw [nI_1]
            rw [xc, xm]
            rcases ih with ⟨k, T'', SC', SM', z0, z1, z2, z3, z4⟩ | z
            · exact Or.inl ⟨k, T'', SC', SM', by omega, z1, z2, z3, z4⟩
            · exact Or.inr z
          · have f2 : ¬ SC1 30 2 = 3 := by
              rw [g3.2.1.2.1]
              exact fun z => t3 ((nI_eq (b := 3) (by omega) (by decide)).mp z)
            have f11 : ¬ SM1 41 11 = 3 := by
              rw [g3.2.2.1.2.1]
              exact fun z => t3 ((nI_eq (b := 3) (by omega) (by decide)).mp z)
            refine Or.inr ⟨q', nI i, SC1, up2 SM1 41 15 (nI q'), by omega, ?_, ?_, by rw [up2_qq, upd_s], g3.2.2.2.2.2.2.1, (g3.fail hB).elim (fun _ z => z.2.2.2.2)⟩
            · unfold fX1_readText_L11
              rw [if_neg c, cl_s g1, if_neg one_ne, if_neg e2, if_neg f2, g3.2.1.2.2.1]
            · conv => lhs; unfold fX5_text_L27
              unfold fX5_text_L54
              rw [if_neg one_ne, if_neg f11, if_neg one_ne, if_neg e11, cl_s (fails_m g3.2.2.1.2.2.1), if_pos rfl]
      · refine Or.inr ⟨p, nI i, SC1, SM1, p1, ?_, ?_, p3, p4, p5⟩
        · unfold fX1_readText_L11
          rw [if_neg c, cl_s g1, if_pos rfl, p2]
        · rw [cl_s g2, l27_0]
theorem text_run {n t : Nat} {b T : Row} {SC SM : St} (hB : TpB t b) (hC : TpC t b SC) (hM : TpM t b SM) (hR : Rep 10 T 0 SC) (h42 : SM 42 = T) (hT : RwI n T) : TAx n 1 SC (upR SM 44 (mixR (SM 42) (SM 44))) (fX1_readText SC) (fX5_text SM) ∨ TBx t SC (upR SM 44 (mixR (SM 42) (SM 44))) (fX1_readText SC) (fX5_text SM) := by
  obtain ⟨q, tok, e, hs, hK⟩ := tok_ex hB (p := 0) (Nat.zero_le _)
  obtain ⟨SC1, p1, p2, p3, p4, p5, p6⟩ := step_c (S := up2 SC 30 4 0) (p := 0) hB ⟨by rw [up2_qn (by decide)]; exact hC.1, fun j hj => by rw [up2_qn (by decide)]; exact hC.2 j hj⟩ (by rw [up2_qq, upd_s]; rfl) hs hK
  generalize hA : upR SM 44 (mixR (SM 42) (SM 44)) = A
  have oA : ∀ k, k ≠ 44 → A k = SM k := fun k hk => by rw [← hA, upR_qn hk]
  obtain ⟨SM1, r1, r2, r3, r4, r5, r6, r7⟩ := step_m (S := up2 A 41 13 0) (p := 0) hB ⟨by rw [up2_qq, upd_n (by decide), oA 41 (by decide)]; exact hM.1, fun j hj => by rw [up2_qn (by decide), oA 47 (by decide)]; exact hM.2 j hj⟩ (by rw [up2_qq, upd_s]; rfl) hs hK
  have o6 : ∀ k, k ≠ 30 → SC1 k = SC k := fun k hk => by rw [p6 k hk, up2_qn hk]
  have o7 : ∀ k, k ≠ 41 → SM1 k = A k := fun k hk => by rw [r7 k hk, up2_qn hk]
  have o41 : ∀ j, (j < 11 ∨ 15 ≤ j) → SM1 41 j = A 41 j := fun j hj => by rw [r6 j hj, up2_qq, upd_n (by omega)]
  have P : PRx n t b q tok e T SC A SC1 SM1 := ⟨hK, ⟨⟨by rw [o6 28 (by decide)]; exact hC.1, fun j hj => by rw [o6 29 (by decide)]; exact hC.2 j hj⟩, p2, p3, p4⟩, ⟨⟨by rw [o41 7 (by decide), oA 41 (by decide)]; exact hM.1, fun j hj => by rw [o7 47 (by decide), oA 47 (by decide)]; exact hM.2 j hj⟩, r2, r3, r4, r5⟩, hR.fr (fun i hi => o6 _ (by omega)), by rw [o7 42 (by decide), oA 42 (by decide)]; exact h42, hT, fun k g1 g2 => o6 k g2, fun k g1 g2 => o7 k g1, fun j hj => o41 j (by omega)⟩
  have L := text_loop hB FU 1 q tok e T SC1 SM1 P (by omega) (by omega) (by unfold FU; omega)
  have xc : fX1_readText SC = fX1_readText_L11 FU (nI 1) SC1 := by
    unfold fX1_readText
    rw [bnd_s, cl_s p1]
    rfl
  have xm : fX5_text SM = cl (fX5_itemHere SM1) fun v1 S4 => fX5_text_L27 FU (nI 1) v1 S4 := by
    unfold fX5_text
    rw [cl_s (copyRow_x (by decide) SM), hA, bnd_s, cl_s r1]
    rfl
  rw [xc, xm]
  exact L
theorem neg_p {p : Nat} (hp : p ≤ 120) : (-1) - nI p < (0 : Int32) := by
  have e0 : (0 : Int32).toInt = 0 := by decide
  have e1 : (-1 : Int32).toInt = -1 := by decide
  rw [Int32.lt_iff_toInt_lt, Int32.toInt_sub, nI_toInt (by omega), e0, e1, Int.bmod_def]
  split <;> omega
theorem eq_text : EQ0 Inv fX4_text fX5_text := by
  intro n S hI hn
  obtain ⟨t, t1, t2, t3, t4⟩ := hI.2.2.1
  have hB : TpB t (S 29) := ⟨t1, fun j hj => (t4 j hj).2⟩
  obtain ⟨S1, p1, p2, p3⟩ := become_c (b := 10) hI.R (by omega)
  have hC : TpC t (S 29) S1 := ⟨by rw [p3 28 (by omega)]; exact t2, fun j hj => by rw [p3 29 (by omega)]⟩
  have hMt : ∀ A : St, A 41 7 = S 41 7 → A 47 = S 47 → TpM t (S 29) A := fun A a1 a2 => ⟨by rw [a1]; exact t3, fun j hj => by rw [a2]; exact (t4 j hj).1.symm⟩
  -- what the class's run leaves as it was
  have oC : ∀ SC', CF S1 SC' → ∀ k, (k < 10 ∨ 19 ≤ k) → k ≠ 30 → SC' k = S k := fun SC' h k h1 h2 => by rw [h k h1 h2, p3 k (by omega)]
  rcases text_run (n := n) hB hC (hMt S rfl rfl) p2 rfl hI.1.1 with ⟨x, T1, SC', _, x1, x2, x3, _, _, x6, _, x8, x9, _⟩ | ⟨p, _, SC', _, y1, y2, _, _, y5, _⟩
  · have nx : ¬ nI x < 0 := nI_pos (by omega)
    obtain ⟨S3, b1, b2, b3⟩ := become_c (b := 1) x6 (by omega)
    have o3 : ∀ k, 19 ≤ k → k ≠ 30 → S3 k = S k := fun k h1 h2 => by rw [b3 k (by omega), oC SC' x9 k (by omega) h2]
    have o0 : S3 0 = S 0 := by rw [b3 0 (by omega), oC SC' x9 0 (by omega) (by omega)]
    have fc : fX4_text S = some (nI x, up2 S3 28 1 0) := by
      unfold fX4_text fX4_text_L34
      rw [cl_s p1, cl_s x3, if_neg nx, cl_s b1, bnd_s]
    have e4 : ∀ k, k ≠ 28 → up2 S3 28 1 0 k = S3 k := fun k hk => up2_qn hk
    have e28 : up2 S3 28 1 0 28 1 = 0 := by rw [up2_qq, upd_s]
    generalize up2 S3 28 1 0 = S4 at fc e4 e28
    have e42 : S4 42 = S 42 := by rw [e4 42 (by omega), o3 42 (by omega) (by omega)]
    rcases text_run (n := n) hB hC (hMt S4 (by rw [e4 41 (by omega), o3 41 (by omega) (by omega)]) (by rw [e4 47 (by omega), o3 47 (by omega) (by omega)])) p2 e42 hI.1.1 with ⟨z, T2, SD', SM', z1, z2, z3, z4, z5, z6, z7, z8, z9, z10, z11⟩ | ⟨p, z, SD', SM', y1, y2, y3⟩
    · rw [x3] at z3
      injection z3 with z3
      injection z3 with zx zs
      rw [← zs] at z6
      obtain ⟨S3', c1, c2, c3⟩ := become_c (b := 1) z6 (by omega)
      rw [b1] at c1
      injection c1 with c1
      injection c1 with _ c1
      rw [← c1] at c2
      have fm : fX5_text S4 = some (nI x, up2 SM' 41 7 0) := by
        rw [z4, ← zx]
        unfold fX5_text_L54 fX5_text_L72 fX5_text_L77 fX5_text_L98 fX5_text_L112
        rw [if_neg one_ne, if_pos z5, bnd_s, if_neg one_ne, if_neg one_ne]
      have oM : ∀ k, k ≠ 41 → k ≠ 42 → k ≠ 44 → SM' k = S4 k := fun k h1 h2 h3 => by rw [z10 k h1 h2, upR_qn h3]
      refine ⟨nI x, S4, up2 SM' 41 7 0, fc, fm, ?_⟩
      refine hI.tape (m := n) (fun k h1 h2 h3 h4 h5 h6 h7 h8 h9 => ?_) ?_ ?_ ?_ (by omega) ⟨0, by omega, ?_, ?_, fun j hj => absurd hj (by omega)⟩
      · rw [up2_qn h5, oM k h5 h6 h7, e4 k h2]
        rcases h1 with h1 | h1
        · rw [h1]
          exact o0
        · exact o3 k h1 h4
      · rw [up2_qq, upd_n (by decide), z11 4 (by decide), upR_qn (by decide), e4 41 (by decide), o3 41 (by decide) (by decide)]
      · rw [up2_qn (by decide), z7]
        exact c2.fr (fun i hi => by rw [up2_qn (by omega), oM _ (by omega) (by omega) (by omega), e4 _ (by omega)])
      · rw [up2_qn (by decide), z7]
        exact z8
      · rw [up2_qn (by decide), oM 28 (by decide) (by decide) (by decide)]
        exact e28
      · rw [up2_qq, upd_s]
        rfl
    · rw [x3] at y2
      injection y2 with y2
      injection y2 with yx ys
      exact absurd (by rw [yx]; exact neg_p (by omega)) nx
  · have ny : (-1) - nI p < (0 : Int32) := neg_p (by omega)
    have fc : fX4_text S = some ((-1) - nI p, up2 SC' 28 1 0) := by
      unfold fX4_text fX4_text_L34
      rw [cl_s p1, cl_s y2, if_pos ny, bnd_s]
    have o3 := oC SC' y5
    have e4 : ∀ k, k ≠ 28 → up2 SC' 28 1 0 k = SC' k := fun k hk => up2_qn hk
    have e28 : up2 SC' 28 1 0 28 1 = 0 := by rw [up2_qq, upd_s]
    generalize up2 SC' 28 1 0 = S4 at fc e4 e28
    have e42 : S4 42 = S 42 := by rw [e4 42 (by omega), o3 42 (by omega) (by omega)]
    rcases text_run (n := n) hB hC (hMt S4 (by rw [e4 41 (by omega), o3 41 (by omega) (by omega)]) (by rw [e4 47 (by omega), o3 47 (by omega) (by omega)])) p2 e42 hI.1.1 with ⟨z, T2, SD', SM', z1, z2, z3, z4⟩ | ⟨p', z, SD', SM', z1, z2, z3, z4, z5, z6, z7⟩
    · rw [y2] at z3
      injection z3 with z3
      injection z3 with zx zs
      exact absurd (by rw [← zx]; exact ny) (nI_pos (n := z) (by omega))
    · rw [y2] at z2
      injection z2 with z2
      injection z2 with zx zs
      have oM : ∀ k, k ≠ 41 → k ≠ 42 → k ≠ 44 → SM' k = S4 k := fun k h1 h2 h3 => by rw [z6 k h1 h2, upR_qn h3]
      have o44 : SM' 44 = mixR (S4 42) (S4 44) := by rw [z6 44 (by decide) (by decide), upR_qq]
      have fm : fX5_text S4 = some ((-1) - nI p, upR (up2 SM' 41 7 0) 42 (mixR (SM' 44) (SM' 42))) := by
        rw [z3]
        unfold fX5_text_L76 fX5_text_L77 fX5_text_L98 fX5_text_L112
        rw [bnd_s, if_pos rfl, cl_s (copyRow_x (by decide) _), if_pos rfl, upR_qn (by decide), up2_qq, upd_n (by decide), z4, ← zx, up2_qn (by decide), up2_qn (by decide)]
      have eT : EqT (S 42) (mixR (SM' 44) (SM' 42)) := fun j hj => by
        have e1 : mixR (SM' 44) (SM' 42) j = SM' 44 j := if_pos hj
        rw [e1, o44]
        have e2 : mixR (S4 42) (S4 44) j = S4 42 j := if_pos hj
        rw [e2, e42]
      refine ⟨(-1) - nI p, S4, upR (up2 SM' 41 7 0) 42 (mixR (SM' 44) (SM' 42)), fc, fm, ?_⟩
      refine hI.tape (m := n) (fun k h1 h2 h3 h4 h5 h6 h7 h8 h9 => ?_) ?_ ?_ ?_ (by omega) ⟨0, by omega, ?_, ?_, fun j hj => absurd hj (by omega)⟩
      · rw [upR_qn h6, up2_qn h5, oM k h5 h6 h7, e4 k h2, o3 k (by omega) h4]
      · rw [upR_qn (by decide), up2_qq, upd_n (by decide), z7 4 (by decide), upR_qn (by decide), e4 41 (by decide), o3 41 (by decide) (by decide)]
      · rw [upR_qq]
        exact (hI.R.eqT eT).fr (fun i hi => by rw [upR_qn (by omega), up2_qn (by omega), oM _ (by omega) (by omega) (by omega), e4 _ (by omega), o3 _ (by omega) (by omega)])
      · rw [upR_qq]
        exact hI.1.1.eqT eT
      · rw [upR_qn (by decide), up2_qn (by decide), oM 28 (by decide) (by decide) (by decide)]
        exact e28
      · rw [upR_qn (by decide), up2_qq, upd_s]
        rfl
