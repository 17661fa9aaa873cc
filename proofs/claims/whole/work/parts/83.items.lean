/-! TEXT: items, of both in step -/
def CF (SC0 SC : St) : Prop := ∀ k, (k < 10 ∨ 19 ≤ k) → k ≠ 30 → SC k = SC0 k
def MF (SM0 SM : St) : Prop := (∀ k, k ≠ 41 → k ≠ 42 → SM k = SM0 k) ∧ ∀ j, (j < 11 ∨ 16 ≤ j) → SM 41 j = SM0 41 j
def PRx (n t : Nat) (b : Row) (q tok e : Nat) (T : Row) (SC0 SM0 SC SM : St) : Prop := TK t b q tok e ∧ CR t b q tok e SC ∧ MR' t b q tok e SM ∧ Rep 10 T 0 SC ∧ SM 42 = T ∧ RwI n T ∧ CF SC0 SC ∧ MF SM0 SM
def FLx (t : Nat) (SC0 SM0 SC SM : St) : Prop := ∃ q, q ≤ t ∧ SC 30 3 = nI q ∧ SM 41 15 = nI q ∧ CF SC0 SC ∧ MF SM0 SM
def RES (n t : Nat) (b : Row) (q : Nat) (SC0 SM0 : St) (x y : Option (Int32 × St)) : Prop := (∃ q' tok' e' T' SC' SM', x = some (1, SC') ∧ y = some (1, SM') ∧ PRx n t b q' tok' e' T' SC0 SM0 SC' SM' ∧ q ≤ q') ∨ ∃ SC' SM', x = some (0, SC') ∧ y = some (0, SM') ∧ FLx t SC0 SM0 SC' SM'
def PNx (t : Nat) (b : Row) (q tok e : Nat) (T : Row) (place v : Nat) (SC0 SM0 SC SM : St) : Prop := TK t b q tok e ∧ CR t b q tok e SC ∧ MR' t b q tok e SM ∧ Rep 10 T 0 SC ∧ SM 42 = upd T place (nI v) ∧ SC 30 5 = nI v ∧ CF SC0 SC ∧ MF SM0 SM
theorem CF.tr {A B C : St} (h : CF A B) (e : ∀ k, (k < 10 ∨ 19 ≤ k) → k ≠ 30 → C k = B k) : CF A C := fun k h1 h2 => (e k h1 h2).trans (h k h1 h2)
theorem CR.fr {t q tok e : Nat} {b : Row} {S S1 : St} (h : CR t b q tok e S) (e1 : S1 28 = S 28) (e2 : S1 29 = S 29) (e3 : S1 30 = S 30) : CR t b q tok e S1 := by
  obtain ⟨⟨a1, a2⟩, b1, c1, d1⟩ := h
  exact ⟨⟨by rw [e1]; exact a1, fun j hj => by rw [e2]; exact a2 j hj⟩, by rw [e3]; exact b1, by rw [e3]; exact c1, by rw [e3]; exact d1⟩
theorem MR'.fr {t q tok e : Nat} {b : Row} {S S1 : St} (h : MR' t b q tok e S) (e1 : S1 41 = S 41) (e2 : S1 47 = S 47) : MR' t b q tok e S1 := by
  obtain ⟨⟨a1, a2⟩, b1, c1, d1, f1⟩ := h
  exact ⟨⟨by rw [e1]; exact a1, fun j hj => by rw [e2]; exact a2 j hj⟩, by rw [e1]; exact b1, by rw [e1]; exact c1, fun z => by rw [e1]; exact d1 z, fun z => by rw [e1]; exact f1 z⟩
theorem PNx.close {n t q tok e place v : Nat} {b T : Row} {SC0 SM0 SC SM SC' : St} (h : PNx t b q tok e T place v SC0 SM0 SC SM) (hT : RwI n (upd T place (nI v))) (hR : Rep 10 (upd T place (nI v)) 0 SC') (hF : Fr 10 SC SC') : PRx n t b q tok e (upd T place (nI v)) SC0 SM0 SC' SM := by
  obtain ⟨h1, h2, h3, h4, h5, h6, h7, h8⟩ := h
  exact ⟨h1, h2.fr (hF 28 (by omega)) (hF 29 (by omega)) (hF 30 (by omega)), h3, hR, h5, hT, h7.tr (fun k g1 g2 => hF k (by omega)), h8⟩
/-- a row that both changed alike -/
theorem PRx.row {n t q tok e : Nat} {b T T' : Row} {SC0 SM0 SC SM SC' : St} (h : PRx n t b q tok e T SC0 SM0 SC SM) (hT : RwI n T') (hR : Rep 10 T' 0 SC') (hF : Fr 10 SC SC') : PRx n t b q tok e T' SC0 SM0 SC' (upR SM 42 T') := by
  obtain ⟨h1, h2, h3, h4, h5, h6, h7, h8, h9⟩ := h
  exact ⟨h1, h2.fr (hF 28 (by omega)) (hF 29 (by omega)) (hF 30 (by omega)), h3.fr (upR_qn (by decide)) (upR_qn (by decide)), hR, upR_qq, hT, h7.tr (fun k g1 g2 => hF k (by omega)), fun k g1 g2 => by rw [upR_qn g2]; exact h8 k g1 g2, fun j hj => by rw [upR_qn (by decide)]; exact h9 j hj⟩
theorem step_PR {n t q tok e : Nat} {b T : Row} {SC0 SM0 SC SM : St} (hB : TpB t b) (h : PRx n t b q tok e T SC0 SM0 SC SM) (h4 : tok ≠ 4) : ∃ q' tok' e' SC' SM', fX1_stepOn SC = some ((), SC') ∧ fX5_nextToken SM = some ((), SM') ∧ PRx n t b q' tok' e' T SC0 SM0 SC' SM' ∧ e ≤ q' := by
  obtain ⟨h1, h2, h3, hR, h5, h6, h7, h8, h9⟩ := h
  obtain ⟨l1, l2, l3, l4⟩ := h1.lim hB
  obtain ⟨q', tok', e', hs, hT⟩ := tok_ex hB l2
  obtain ⟨SC', p1, p2, p3, p4, p5, p6⟩ := step_c hB h2.1 h2.2.2.2 hs hT
  obtain ⟨SM', r1, r2, r3, r4, r5, r6, r7⟩ := step_m hB h3.1 (h3.2.2.2.1 h4) hs hT
  refine ⟨q', tok', e', SC', SM', p1, r1, ⟨hT, ⟨⟨by rw [p6 28 (by decide)]; exact h2.1.1, fun j hj => by rw [p6 29 (by decide)]; exact h2.1.2 j hj⟩, p2, p3, p4⟩, ⟨⟨by rw [r6 7 (by decide)]; exact h3.1.1, fun j hj => by rw [r7 47 (by decide)]; exact h3.1.2 j hj⟩, r2, r3, r4, r5⟩, hR.fr (fun i hi => p6 _ (by omega)), by rw [r7 42 (by decide)]; exact h5, h6, h7.tr (fun k g1 g2 => p6 k g2), fun k g1 g2 => by rw [r7 k g1]; exact h8 k g1 g2, fun j hj => by rw [r6 j (by omega)]; exact h9 j hj⟩, hs.1⟩
/-- a number that is right: both take it and step on -/
theorem take_PR {n t q tok e most : Nat} {b T : Row} {SC0 SM0 SC SM : St} (hB : TpB t b) (h : PRx n t b q tok e T SC0 SM0 SC SM) (hm : most < 99999) (hv : tok = 2 ∧ vmN b q (e - q) ≤ most) : ∃ q' tok' e' SC' SM', fX1_takeNumber (nI most) SC = some (1, SC') ∧ SC' 30 5 = nI (vmN b q (e - q)) ∧ fX5_nextToken SM = some ((), SM') ∧ PRx n t b q' tok' e' T SC0 SM0 SC' SM' ∧ e ≤ q' := by
  obtain ⟨h1, h2, h3, hR, h5, h6, h7, h8, h9⟩ := h
  obtain ⟨l1, l2, l3, l4⟩ := h1.lim hB
  obtain ⟨q', tok', e', hs, hT⟩ := tok_ex hB l2
  obtain ⟨SC', p1, p2, p3, p4⟩ := take_c hB h1 h2 hm hv hs hT
  obtain ⟨SM', r1, r2, r3, r4, r5, r6, r7⟩ := step_m hB h3.1 (h3.2.2.2.1 (by omega)) hs hT
  exact ⟨q', tok', e', SC', SM', p1, p3, r1, ⟨hT, p2, ⟨⟨by rw [r6 7 (by decide)]; exact h3.1.1, fun j hj => by rw [r7 47 (by decide)]; exact h3.1.2 j hj⟩, r2, r3, r4, r5⟩, hR.fr (fun i hi => p4 _ (by omega)), by rw [r7 42 (by decide)]; exact h5, h6, h7.tr (fun k g1 g2 => p4 k g2), fun k g1 g2 => by rw [r7 k g1]; exact h8 k g1 g2, fun j hj => by rw [r6 j (by omega)]; exact h9 j hj⟩, hs.1⟩
theorem num_PR {n t q tok e most place : Nat} {b T : Row} {SC0 SM0 SC SM : St} (hB : TpB t b) (h : PRx n t b q tok e T SC0 SM0 SC SM) (hm : most < 99999) (hp : place < 75) : (∃ v q' tok' e' SC' SM', v ≤ most ∧ fX1_takeNumber (nI most) SC = some (1, SC') ∧ fX5_isNumber 0 (nI most) SM = some (1, SM) ∧ SM 41 14 = nI v ∧ fX5_nextToken (up2 SM 42 place (nI v)) = some ((), SM') ∧ PNx t b q' tok' e' T place v SC0 SM0 SC' SM' ∧ q ≤ q') ∨ ∃ SC' SM', fX1_takeNumber (nI most) SC = some (0, SC') ∧ fX5_isNumber 0 (nI most) SM = some (0, SM') ∧ FLx t SC0 SM0 SC' SM' := by
  obtain ⟨h1, h2, h3, hR, h5, h6, h7, h8, h9⟩ := h
  obtain ⟨l1, l2, l3, l4⟩ := h1.lim hB
  by_cases hv : tok = 2 ∧ vmN b q (e - q) ≤ most
  · obtain ⟨q', tok', e', hs, hT⟩ := tok_ex hB l2
    obtain ⟨SC', p1, p2, p3, p4⟩ := take_c hB h1 h2 hm hv hs hT
    have o : ∀ k, k ≠ 42 → up2 SM 42 place (nI (vmN b q (e - q))) k = SM k := fun k hk => up2_qn hk
    have o42 : up2 SM 42 place (nI (vmN b q (e - q))) 42 = upd T place (nI (vmN b q (e - q))) := by rw [up2_qq, h5]
    obtain ⟨SM', r1, r2, r3, r4, r5, r6, r7⟩ := step_m (S := up2 SM 42 place (nI (vmN b q (e - q)))) (p := e) hB ⟨by rw [o 41 (by decide)]; exact h3.1.1, fun j hj => by rw [o 47 (by decide)]; exact h3.1.2 j hj⟩ (by rw [o 41 (by decide)]; exact h3.2.2.2.1 (by omega)) hs hT
    refine Or.inl ⟨vmN b q (e - q), q', tok', e', SC', SM', hv.2, p1, num_m hB h1 h3 hm hv, h3.2.2.2.2 hv.1, r1, ⟨hT, p2, ⟨⟨?_, fun j hj => ?_⟩, r2, r3, r4, r5⟩, hR.fr (fun i hi => p4 _ (by omega)), ?_, p3, h7.tr (fun k g1 g2 => p4 k g2), fun k g1 g2 => ?_, fun j hj => ?_⟩, Nat.le_trans l1 hs.1⟩
    · rw [r6 7 (by decide), o 41 (by decide)]
      exact h3.1.1
    · rw [r7 47 (by decide), o 47 (by decide)]
      exact h3.1.2 j hj
    · rw [r7 42 (by decide)]
      exact o42
    · rw [r7 k g1, o k g2]
      exact h8 k g1 g2
    · rw [r6 j (by omega), o 41 (by decide)]
      exact h9 j hj
  · refine Or.inr ⟨SC, up2 SM 41 15 (nI q), take_n hB h1 h2 hm hv, num_n hB h1 h3 hm hv, q, by omega, h2.2.2.1, by rw [up2_qq, upd_s], h7, fun k g1 g2 => by rw [up2_qn g1]; exact h8 k g1 g2, fun j hj => ?_⟩
    rw [up2_qq, upd_n (by omega)]
    exact h9 j hj
theorem perhaps_1 {place most v : Nat} {SM SM1 SM' : St} (hp : place < 75) (e1 : fX5_nextToken SM = some ((), SM1)) (e2 : fX5_isNumber 0 (nI most) SM1 = some (1, SM1)) (e3 : SM1 41 14 = nI v) (e4 : fX5_nextToken (up2 SM1 42 place (nI v)) = some ((), SM')) : fX5_perhaps 1 (nI place) (nI most) SM = some (1, SM') := by
  unfold fX5_perhaps
  rw [if_neg one_ne, cl_s e1, cl_s e2, if_neg one_ne, e3, wr_n hp (by decide), cl_s e4, retN_1]
theorem perhaps_n {most : Nat} {pl : Int32} {SM SM1 SM' : St} (e1 : fX5_nextToken SM = some ((), SM1)) (e2 : fX5_isNumber 0 (nI most) SM1 = some (0, SM')) : fX5_perhaps 1 pl (nI most) SM = some (0, SM') := by
  unfold fX5_perhaps
  rw [if_neg one_ne, cl_s e1, cl_s e2, if_pos rfl, retN_0]
/-- a word behind which a number must stand -/
theorem ph_PR {n t q tok e most place : Nat} {b T : Row} {SC0 SM0 SC SM : St} (hB : TpB t b) (h : PRx n t b q tok e T SC0 SM0 SC SM) (h4 : tok ≠ 4) (hm : most < 99999) (hp : place < 75) : (∃ v q' tok' e' SC1 SC' SM', v ≤ most ∧ fX1_stepOn SC = some ((), SC1) ∧ fX1_takeNumber (nI most) SC1 = some (1, SC') ∧ fX5_perhaps 1 (nI place) (nI most) SM = some (1, SM') ∧ PNx t b q' tok' e' T place v SC0 SM0 SC' SM' ∧ q ≤ q') ∨ ∃ SC1 SC' SM', fX1_stepOn SC = some ((), SC1) ∧ fX1_takeNumber (nI most) SC1 = some (0, SC') ∧ fX5_perhaps 1 (nI place) (nI most) SM = some (0, SM') ∧ FLx t SC0 SM0 SC' SM' := by
  obtain ⟨l1, l2, l3, l4⟩ := h.1.lim hB
  obtain ⟨q1, tok1, e1, SC1, SM1, s1, s2, s3, s4⟩ := step_PR hB h h4
  rcases num_PR (place := place) hB s3 hm hp with ⟨v, q', tok', e', SC', SM', g1, g2, g3, g4, g5, g6, g7⟩ | ⟨SC', SM', g1, g2, g3⟩
  · exact Or.inl ⟨v, q', tok', e', SC1, SC', SM', g1, s1, g2, perhaps_1 hp s2 g3 g4 g5, g6, by omega⟩
  · exact Or.inr ⟨SC1, SC', SM', s1, g1, perhaps_n s2 g2, g3⟩
theorem wd_tok {t q tok e : Nat} {b : Row} {w : List Nat} (h : WDx t b q tok e w = true) : tok = 1 := by
  unfold WDx at h
  rw [Bool.and_eq_true, decide_eq_true_eq] at h
  exact h.1.1
theorem trait_PR {n t q tok e w g wd most : Nat} {b T : Row} {SC0 SM0 SC SM : St} (hB : TpB t b) (h : PRx n t b q tok e T SC0 SM0 SC SM) (hw : w < 13) (hg : g < 8) (hwd : wd < 6) (hm : most + 1 = tvM wd) : RES n t b q SC0 SM0 (fX1_readTrait w (nI g) (nI wd) (nI most) SC) (fX5_perhaps (b2i (WDx t b q tok e (wdL w) = true)) (nI (17 + 6 * g + wd)) (nI most) SM) := by
  have hM := (@tvM_le wd).2
  by_cases hW : WDx t b q tok e (wdL w) = true
  · have ht := wd_tok hW
    rw [b2i_t hW]
    rcases ph_PR (place := 17 + 6 * g + wd) (most := most) hB h (by omega) (by omega) (by omega) with ⟨v, q', tok', e', SC1, SC', SM', g1, g2, g3, g4, g5, g6⟩ | ⟨SC1, SC', SM', g1, g2, g3, g4⟩
    · have hq := g5.2.2.2.1.s_w (v := nI v) hg hwd
      have hT := h.2.2.2.2.2.1.gt (v := nI v) hg hwd ⟨v, by omega, rfl⟩
      refine Or.inl ⟨q', tok', e', _, _, SM', ?_, g4, g5.close hT hq (Fr.up (by omega)), g6⟩
      unfold fX1_readTrait
      rw [cl_s (word_c hB h.1 h.2.1 w hw), b2i_t hW, if_neg one_ne, cl_s g2, cl_s g3, if_neg one_ne, g5.2.2.2.2.2.1, cl_s (setTrait_c hg hwd), retN_1]
    · refine Or.inr ⟨SC', SM', ?_, g3, g4⟩
      unfold fX1_readTrait
      rw [cl_s (word_c hB h.1 h.2.1 w hw), b2i_t hW, if_neg one_ne, cl_s g1, cl_s g2, if_pos rfl, retN_0]
  · rw [b2i_f hW]
    refine Or.inl ⟨q, tok, e, T, SC, SM, ?_, ?_, h, Nat.le_refl _⟩
    · unfold fX1_readTrait
      rw [cl_s (word_c hB h.1 h.2.1 w hw), b2i_f hW, if_pos rfl, retN_1]
    · unfold fX5_perhaps
      rw [if_pos rfl, retN_1]
theorem fails_m {q : Nat} {S : St} (h : S 41 12 = nI q) : fX5_fails S = some (0, up2 S 41 15 (nI q)) := by
  unfold fX5_fails
  rw [bnd_s, h, retN_0]
theorem PRx.fail {n t q tok e : Nat} {b T : Row} {SC0 SM0 SC SM : St} (hB : TpB t b) (h : PRx n t b q tok e T SC0 SM0 SC SM) : FLx t SC0 SM0 SC (up2 SM 41 15 (nI q)) := by
  obtain ⟨h1, h2, h3, hR, h5, h6, h7, h8, h9⟩ := h
  obtain ⟨l1, l2, l3, l4⟩ := h1.lim hB
  refine ⟨q, by omega, h2.2.2.1, by rw [up2_qq, upd_s], h7, fun k g1 g2 => by rw [up2_qn g1]; exact h8 k g1 g2, fun j hj => ?_⟩
  rw [up2_qq, upd_n (by omega)]
  exact h9 j hj
theorem on_m {t q tok e : Nat} {b : Row} {S : St} (hB : TpB t b) (hT : TK t b q tok e) (hR : MR' t b q tok e S) (x : Int32) : (cl (fX5_isWord 2 S) fun v4 S3 => if v4 = 0 then fX5_goatHere_L77 x S3 else cl (fX5_byteAt (S3 41 12) S3) fun v5 S4 => if v5 = 111 then cl (fX5_byteAt ((S4 41 12) + 1) S4) fun v6 S5 => if v6 = 110 then fX5_goatHere_L78 x 1 S5 else fX5_goatHere_L77 x S5 else fX5_goatHere_L77 x S4) = fX5_goatHere_L78 x (b2i (WDx t b q tok e (wdL 7) = true)) S := by
  obtain ⟨l1, l2, l3, l4⟩ := hT.lim hB
  have h2 : fX5_isWord 2 S = some (b2i (tok = 1 ∧ e = q + 2), S) := mword hB hT hR (n := 2) (by decide)
  have hw : WDx t b q tok e (wdL 7) = true ↔ ((tok = 1 ∧ e = q + 2) ∧ bA t b q = 111 ∧ bA t b (q + 1) = 110) := wd_2
  unfold fX5_goatHere_L77
  rw [cl_s h2, hR.2.2.1, cl_s (byte_m hB hR.1 (by omega)), hR.2.2.1, nI_1, cl_s (byte_m hB hR.1 (by omega))]
  by_cases c1 : tok = 1 ∧ e = q + 2
  · rw [b2i_t c1, if_neg one_ne]
    by_cases c2 : bA t b q = 111
    · rw [if_pos c2]
      by_cases c3 : bA t b (q + 1) = 110
      · rw [if_pos c3, b2i_t (hw.mpr ⟨c1, c2, c3⟩)]
      · rw [if_neg c3, b2i_f (fun r => c3 (hw.mp r).2.2)]
    · rw [if_neg c2, b2i_f (fun r => c2 (hw.mp r).2.1)]
  · rw [b2i_f c1, if_pos rfl, b2i_f (fun r => c1 (hw.mp r).1)]
theorem goat_PR {n t q tok e k : Nat} {b T : Row} {SC0 SM0 SC SM : St} (hB : TpB t b) (h : PRx n t b q tok e T SC0 SM0 SC SM) (ht : tok = 1) (hk : k < 7) : RES n t b q SC0 SM0 (fX1_readGoat (nI k) SC) (fX5_goatHere (nI k) SM) := by
  have h' := h
  obtain ⟨h1, h2, h3, hR, h5, h6, h7, h8⟩ := h'
  obtain ⟨l1, l2, l3, l4⟩ := h1.lim hB
  have hV := h6.1
  have hn8 := hV.n8
  by_cases c8 : nN T = 8
  · have e8 : T 0 = 8 := by rw [hV.n, c8]; rfl
    refine Or.inr ⟨SC, up2 SM 41 15 (nI q), ?_, ?_, h.fail hB⟩
    · unfold fX1_readGoat
      rw [cl_s (full_c hR hV), b2i_t c8, if_neg one_ne, retN_0]
    · unfold fX5_goatHere
      rw [rd0, h5, if_pos e8, cl_s (fails_m h3.2.2.1), retN_0]
  · have e8 : ¬ T 0 = 8 := by
      rw [hV.n]
      exact ne8 hn8 c8
    obtain ⟨SC1, a1, a2, a3⟩ := add_c (k := nI k) (l := 0) hR hV (by omega)
    have hcm := comes_m (S := SM) (k := nI k) (l := 0) (v := 0) (by rw [h5]; exact hV) (by rw [h5]; omega)
    rw [h5] at hcm
    have hT1 := (come_V (k := nI k) (l := 0) (v := 0) h6 (by omega) ⟨k, hk, rfl⟩ ⟨0, by decide, rfl⟩ ⟨0, by decide, rfl⟩).1
    have hP1 := h.row hT1 a2 a3
    obtain ⟨q1, tok1, e1, SC2, SM2, s1, s2, s3, s4⟩ := step_PR hB hP1 (by omega)
    generalize hg : nN T = g at *
    have hg8 : g < 8 := by omega
    have hc : fX1_readGoat (nI k) SC = cl (fX1_readTrait 7 (nI g) 1 11 SC2) fun v3 S4 => if v3 = 0 then fX1_readGoat_L69 S4 else cl (fX1_readTrait 8 (nI g) 2 65535 S4) fun v4 S5 => if v4 = 0 then fX1_readGoat_L69 S5 else cl (fX1_readTrait 9 (nI g) 4 99 S5) fun v5 S6 => if v5 = 0 then fX1_readGoat_L69 S6 else fX1_readGoat_L70 1 S6 := by
      unfold fX1_readGoat
      rw [cl_s (full_c hR hV), hg, b2i_f c8, if_pos rfl, cl_s a1, cl_s s1]
    have hm : fX5_goatHere (nI k) SM = fX5_goatHere_L78 (nI g) (b2i (WDx t b q1 tok1 e1 (wdL 7) = true)) SM2 := by
      rw [← on_m hB s3.1 s3.2.2.1]
      unfold fX5_goatHere
      rw [rd0, h5, if_neg e8, cl_s hcm, rd0, upR_qq, come_0, hV.n, hg, nI_1, bnd_s, nI_pred, cl_s s2]
    have z70 : ∀ S : St, fX1_readGoat_L70 1 S = some (1, S) := fun S => retN_1 S
    have z69 : ∀ S : St, fX1_readGoat_L69 S = some (0, S) := fun S => retN_0 S
    have y165 : ∀ S : St, fX5_goatHere_L165 1 S = some (1, S) := fun S => retN_1 S
    have y164 : ∀ S : St, fX5_goatHere_L164 S = some (0, S) := fun S => retN_0 S
    have at1 : ∀ S, fX5_at (nI g) 1 S = some (nI (17 + 6 * g + 1), S) := fun S => at_n g 1 S
    have at2 : ∀ S, fX5_at (nI g) 2 S = some (nI (17 + 6 * g + 2), S) := fun S => at_n g 2 S
    have at4 : ∀ S, fX5_at (nI g) 4 S = some (nI (17 + 6 * g + 4), S) := fun S => at_n g 4 S
    rw [hc, hm]
    rcases trait_PR (w := 7) (g := g) (wd := 1) (most := 11) hB s3 (by decide) hg8 (by decide) (by decide) with ⟨q2, tok2, e2, T2, SC3, SM3, u1, u2, u3, u4⟩ | ⟨SC3, SM3, u1, u2, u3⟩
    · have u1' : fX1_readTrait 7 (nI g) 1 11 SC2 = some (1, SC3) := u1
      have u2' : fX5_perhaps (b2i (WDx t b q1 tok1 e1 (wdL 7) = true)) (nI (17 + 6 * g + 1)) 11 SM2 = some (1, SM3) := u2
      have m8 : fX5_isFive 107 110 111 119 115 SM3 = some (b2i (WDx t b q2 tok2 e2 (wdL 8) = true), SM3) := five_m hB u3.1 u3.2.2.1 107 110 111 119 115
      rcases trait_PR (w := 8) (g := g) (wd := 2) (most := 65535) hB u3 (by decide) hg8 (by decide) (by decide) with ⟨q3, tok3, e3, T3, SC4, SM4, v1, v2, v3, v4⟩ | ⟨SC4, SM4, v1, v2, v3⟩
      · have v1' : fX1_readTrait 8 (nI g) 2 65535 SC3 = some (1, SC4) := v1
        have v2' : fX5_perhaps (b2i (WDx t b q2 tok2 e2 (wdL 8) = true)) (nI (17 + 6 * g + 2)) 65535 SM3 = some (1, SM4) := v2
        have l147 : fX5_goatHere_L78 (nI g) (b2i (WDx t b q1 tok1 e1 (wdL 7) = true)) SM2 = fX5_goatHere_L147 (nI g) (b2i (WDx t b q3 tok3 e3 (wdL 9) = true)) SM4 := by
          unfold fX5_goatHere_L78
          rw [cl_s (at1 _), cl_s u2', if_neg one_ne, cl_s m8, cl_s (at2 _), cl_s v2', if_neg one_ne]
          refine (three_m hB v3.1 v3.2.2.1 102 101 100 (A := fun _ S => fX5_goatHere_L146 (nI g) S) (B := fun _ S => fX5_goatHere_L147 (nI g) 1 S)).trans ?_
          by_cases c9 : WDx t b q3 tok3 e3 (wdL 9) = true
          · rw [b2i_t c9]
            exact if_pos c9
          · rw [b2i_f c9]
            exact if_neg c9
        rw [l147]
        rcases trait_PR (w := 9) (g := g) (wd := 4) (most := 99) hB v3 (by decide) hg8 (by decide) (by decide) with ⟨q4, tok4, e4, T4, SC5, SM5, w1, w2, w3, w4⟩ | ⟨SC5, SM5, w1, w2, w3⟩
        · have w1' : fX1_readTrait 9 (nI g) 4 99 SC4 = some (1, SC5) := w1
          have w2' : fX5_perhaps (b2i (WDx t b q3 tok3 e3 (wdL 9) = true)) (nI (17 + 6 * g + 4)) 99 SM4 = some (1, SM5) := w2
          refine Or.inl ⟨q4, tok4, e4, T4, SC5, SM5, ?_, ?_, w3, by omega⟩
          · rw [cl_s u1', if_neg one_ne, cl_s v1', if_neg one_ne, cl_s w1', if_neg one_ne, z70]
          · unfold fX5_goatHere_L147
            rw [cl_s (at4 _), cl_s w2', if_neg one_ne, y165]
        · have w1' : fX1_readTrait 9 (nI g) 4 99 SC4 = some (0, SC5) := w1
          have w2' : fX5_perhaps (b2i (WDx t b q3 tok3 e3 (wdL 9) = true)) (nI (17 + 6 * g + 4)) 99 SM4 = some (0, SM5) := w2
          refine Or.inr ⟨SC5, SM5, ?_, ?_, w3⟩
          · rw [cl_s u1', if_neg one_ne, cl_s v1', if_neg one_ne, cl_s w1', if_pos rfl, z69]
          · unfold fX5_goatHere_L147
            rw [cl_s (at4 _), cl_s w2', if_pos rfl, y164]
      · have v1' : fX1_readTrait 8 (nI g) 2 65535 SC3 = some (0, SC4) := v1
        have v2' : fX5_perhaps (b2i (WDx t b q2 tok2 e2 (wdL 8) = true)) (nI (17 + 6 * g + 2)) 65535 SM3 = some (0, SM4) := v2
        refine Or.inr ⟨SC4, SM4, ?_, ?_, v3⟩
        · rw [cl_s u1', if_neg one_ne, cl_s v1', if_pos rfl, z69]
        · unfold fX5_goatHere_L78
          rw [cl_s (at1 _), cl_s u2', if_neg one_ne, cl_s m8, cl_s (at2 _), cl_s v2', if_pos rfl, y164]
    · have u1' : fX1_readTrait 7 (nI g) 1 11 SC2 = some (0, SC3) := u1
      have u2' : fX5_perhaps (b2i (WDx t b q1 tok1 e1 (wdL 7) = true)) (nI (17 + 6 * g + 1)) 11 SM2 = some (0, SM3) := u2
      refine Or.inr ⟨SC3, SM3, ?_, ?_, u3⟩
      · rw [cl_s u1', if_pos rfl, z69]
      · unfold fX5_goatHere_L78
        rw [cl_s (at1 _), cl_s u2', if_pos rfl, y164]
theorem grass_PR {n t q tok e : Nat} {b T : Row} {SC0 SM0 SC SM : St} (hB : TpB t b) (h : PRx n t b q tok e T SC0 SM0 SC SM) (h4 : tok ≠ 4) : RES n t b q SC0 SM0 (fX1_readGrass SC) (fX5_grassHere SM) := by
  obtain ⟨l1, l2, l3, l4⟩ := h.1.lim hB
  obtain ⟨q1, tok1, e1, SC1, SM1, s1, s2, s3, s4⟩ := step_PR hB h h4
  obtain ⟨k1, k2, k3, k4⟩ := s3.1.lim hB
  by_cases hv : tok1 = 2 ∧ vmN b q1 (e1 - q1) ≤ 11
  · obtain ⟨q2, tok2, e2, SC2, SM2, r1, r2, r3, r4, r5⟩ := take_PR (most := 11) hB s3 (by decide) hv
    have i1 := num_m (most := 11) hB s3.1 s3.2.2.1 (by decide) hv
    have e14 := s3.2.2.1.2.2.2.2 hv.1
    have r1' : fX1_takeNumber 11 SC1 = some (1, SC2) := r1
    have i1' : fX5_isNumber 0 11 SM1 = some (1, SM1) := i1
    rcases num_PR (most := 99) (place := 5 + vmN b q1 (e1 - q1)) hB r4 (by decide) (by omega) with ⟨v, q', tok', e', SC', SM', g1, g2, g3, g4, g5, g6, g7⟩ | ⟨SC', SM', g1, g2, g3⟩
    · have g2' : fX1_takeNumber 99 SC2 = some (1, SC') := g2
      have hl : vmN b q1 (e1 - q1) < 12 := by omega
      have hq := g6.2.2.2.1.s_gr (v := nI v) hl
      refine Or.inl ⟨q', tok', e', _, _, SM', ?_, ?_, g6.close (r4.2.2.2.2.2.1.lo (by omega) (by omega)) hq (Fr.up (by omega)), by omega⟩
      · unfold fX1_readGrass
        rw [cl_s s1, cl_s r1', if_neg one_ne, bnd_s, r2, cl_s g2', if_neg one_ne, g6.2.2.2.2.2.1, wr_n hl (by decide), retN_1]
      · have pp : fX5_perhaps 1 (nI (5 + vmN b q1 (e1 - q1))) 99 SM1 = some (1, SM') := perhaps_1 (most := 99) (by omega) r3 g3 g4 g5
        unfold fX5_grassHere fX5_grassHere_L35
        rw [cl_s s2, cl_s i1', if_neg one_ne, e14, n5, cl_s pp, if_neg one_ne, retN_1]
    · have g1' : fX1_takeNumber 99 SC2 = some (0, SC') := g1
      refine Or.inr ⟨SC', SM', ?_, ?_, g3⟩
      · unfold fX1_readGrass
        rw [cl_s s1, cl_s r1', if_neg one_ne, bnd_s, r2, cl_s g1', if_pos rfl, retN_0]
      · have pp : fX5_perhaps 1 (nI (5 + vmN b q1 (e1 - q1))) 99 SM1 = some (0, SM') := perhaps_n (most := 99) r3 g2
        unfold fX5_grassHere fX5_grassHere_L34 fX5_grassHere_L35
        rw [cl_s s2, cl_s i1', if_neg one_ne, e14, n5, cl_s pp, if_pos rfl, retN_0]
  · have i1 := num_n (most := 11) hB s3.1 s3.2.2.1 (by decide) hv
    have i1' : fX5_isNumber 0 11 SM1 = some (0, up2 SM1 41 15 (nI q1)) := i1
    have r1' : fX1_takeNumber 11 SC1 = some (0, SC1) := take_n (most := 11) hB s3.1 s3.2.1 (by decide) hv
    refine Or.inr ⟨SC1, up2 SM1 41 15 (nI q1), ?_, ?_, s3.fail hB⟩
    · unfold fX1_readGrass
      rw [cl_s s1, cl_s r1', if_pos rfl, retN_0]
    · unfold fX5_grassHere fX5_grassHere_L34 fX5_grassHere_L35
      rw [cl_s s2, cl_s i1', if_pos rfl, retN_0]
theorem grows_PR {n t q tok e : Nat} {b T : Row} {SC0 SM0 SC SM : St} (hB : TpB t b) (h : PRx n t b q tok e T SC0 SM0 SC SM) (h4 : tok ≠ 4) : RES n t b q SC0 SM0 (fX1_readGrows SC) (fX5_perhaps 1 3 20 SM) := by
  rcases ph_PR (place := 3) (most := 20) hB h h4 (by decide) (by decide) with ⟨v, q', tok', e', SC1, SC', SM', g1, g2, g3, g4, g5, g6⟩ | ⟨SC1, SC', SM', g1, g2, g3, g4⟩
  · have g3' : fX1_takeNumber 20 SC1 = some (1, SC') := g3
    refine Or.inl ⟨q', tok', e', _, _, SM', ?_, g4, g5.close (h.2.2.2.2.2.1.lo (by omega) (by omega)) (g5.2.2.2.1.s_gw (v := nI v)) Fr.up0, g6⟩
    unfold fX1_readGrows
    rw [cl_s g2, cl_s g3', if_neg one_ne, bnd_s, g5.2.2.2.2.2.1, retN_1]
  · have g2' : fX1_takeNumber 20 SC1 = some (0, SC') := g2
    refine Or.inr ⟨SC', SM', ?_, g3, g4⟩
    unfold fX1_readGrows
    rw [cl_s g1, cl_s g2', if_pos rfl, retN_0]
theorem salt_PR {n t q tok e : Nat} {b T : Row} {SC0 SM0 SC SM : St} (hB : TpB t b) (h : PRx n t b q tok e T SC0 SM0 SC SM) (h4 : tok ≠ 4) : RES n t b q SC0 SM0 (fX1_readSalt SC) (fX5_perhaps 1 4 9999 SM) := by
  rcases ph_PR (place := 4) (most := 9999) hB h h4 (by decide) (by decide) with ⟨v, q', tok', e', SC1, SC', SM', g1, g2, g3, g4, g5, g6⟩ | ⟨SC1, SC', SM', g1, g2, g3, g4⟩
  · have g3' : fX1_takeNumber 9999 SC1 = some (1, SC') := g3
    refine Or.inl ⟨q', tok', e', _, _, SM', ?_, g4, g5.close (h.2.2.2.2.2.1.lo (by omega) (by omega)) (g5.2.2.2.1.s_sa (v := nI v)) Fr.up0, g6⟩
    unfold fX1_readSalt
    rw [cl_s g2, cl_s g3', if_neg one_ne, bnd_s, g5.2.2.2.2.2.1, retN_1]
  · have g2' : fX1_takeNumber 9999 SC1 = some (0, SC') := g2
    refine Or.inr ⟨SC', SM', ?_, g3, g4⟩
    unfold fX1_readSalt
    rw [cl_s g1, cl_s g2', if_pos rfl, retN_0]
theorem item_PR {n t q tok e : Nat} {b T : Row} {SC0 SM0 SC SM : St} (hB : TpB t b) (h : PRx n t b q tok e T SC0 SM0 SC SM) : RES n t b q SC0 SM0 (fX1_readItem SC) (fX5_itemHere SM) := by
  have kc := kind_c hB h.1 h.2.1
  have km := kind_m hB h.1 h.2.2.1
  rcases kd_cases t b q tok e with hk | ⟨⟨k, hk, ek⟩, ht⟩
  · have hneg : kdI t b q tok e < 0 := by rw [hk]; decide
    have m10 : fX5_isFive 103 114 97 115 115 SM = some (b2i (WDx t b q tok e (wdL 10) = true), SM) := five_m hB h.1 h.2.2.1 103 114 97 115 115
    have m11 : fX5_isFive 103 114 111 119 115 SM = some (b2i (WDx t b q tok e (wdL 11) = true), SM) := five_m hB h.1 h.2.2.1 103 114 111 119 115
    have m12 : fX5_isFour 115 97 108 116 SM = some (b2i (WDx t b q tok e (wdL 12) = true), SM) := four_m hB h.1 h.2.2.1 115 97 108 116
    have w := word_c hB h.1 h.2.1
    by_cases c10 : WDx t b q tok e (wdL 10) = true
    · have ht := wd_tok c10
      rcases grass_PR hB h (by omega) with ⟨q', tok', e', T', SC', SM', g1, g2, g3, g4⟩ | ⟨SC', SM', g1, g2, g3⟩
      · refine Or.inl ⟨q', tok', e', T', SC', SM', ?_, ?_, g3, g4⟩
        · unfold fX1_readItem
          rw [cl_s kc, if_pos hneg, cl_s (w 10 (by decide)), b2i_t c10, if_neg one_ne, cl_s g1, retN_1]
        · unfold fX5_itemHere
          rw [cl_s km, if_pos hneg, cl_s m10, b2i_t c10, if_neg one_ne, cl_s g2, retN_1]
      · refine Or.inr ⟨SC', SM', ?_, ?_, g3⟩
        · unfold fX1_readItem
          rw [cl_s kc, if_pos hneg, cl_s (w 10 (by decide)), b2i_t c10, if_neg one_ne, cl_s g1, retN_0]
        · unfold fX5_itemHere
          rw [cl_s km, if_pos hneg, cl_s m10, b2i_t c10, if_neg one_ne, cl_s g2, retN_0]
    · by_cases c11 : WDx t b q tok e (wdL 11) = true
      · have ht := wd_tok c11
        rcases grows_PR hB h (by omega) with ⟨q', tok', e', T', SC', SM', g1, g2, g3, g4⟩ | ⟨SC', SM', g1, g2, g3⟩
        · refine Or.inl ⟨q', tok', e', T', SC', SM', ?_, ?_, g3, g4⟩
          · unfold fX1_readItem
            rw [cl_s kc, if_pos hneg, cl_s (w 10 (by decide)), b2i_f c10, if_pos rfl, cl_s (w 11 (by decide)), b2i_t c11, if_neg one_ne, cl_s g1, retN_1]
          · unfold fX5_itemHere
            rw [cl_s km, if_pos hneg, cl_s m10, b2i_f c10, if_pos rfl, cl_s m11, b2i_t c11, if_neg one_ne, cl_s g2, retN_1]
        · refine Or.inr ⟨SC', SM', ?_, ?_, g3⟩
          · unfold fX1_readItem
            rw [cl_s kc, if_pos hneg, cl_s (w 10 (by decide)), b2i_f c10, if_pos rfl, cl_s (w 11 (by decide)), b2i_t c11, if_neg one_ne, cl_s g1, retN_0]
          · unfold fX5_itemHere
            rw [cl_s km, if_pos hneg, cl_s m10, b2i_f c10, if_pos rfl, cl_s m11, b2i_t c11, if_neg one_ne, cl_s g2, retN_0]
      · by_cases c12 : WDx t b q tok e (wdL 12) = true
        · have ht := wd_tok c12
          rcases salt_PR hB h (by omega) with ⟨q', tok', e', T', SC', SM', g1, g2, g3, g4⟩ | ⟨SC', SM', g1, g2, g3⟩
          · refine Or.inl ⟨q', tok', e', T', SC', SM', ?_, ?_, g3, g4⟩
            · unfold fX1_readItem fX1_readItem_L64
              rw [cl_s kc, if_pos hneg, cl_s (w 10 (by decide)), b2i_f c10, if_pos rfl, cl_s (w 11 (by decide)), b2i_f c11, if_pos rfl, cl_s (w 12 (by decide)), b2i_t c12, if_neg one_ne, cl_s g1, if_neg one_ne, retN_1]
            · unfold fX5_itemHere fX5_itemHere_L94
              rw [cl_s km, if_pos hneg, cl_s m10, b2i_f c10, if_pos rfl, cl_s m11, b2i_f c11, if_pos rfl, cl_s m12, b2i_t c12, if_neg one_ne, cl_s g2, retN_1]
          · refine Or.inr ⟨SC', SM', ?_, ?_, g3⟩
            · unfold fX1_readItem fX1_readItem_L63 fX1_readItem_L64
              rw [cl_s kc, if_pos hneg, cl_s (w 10 (by decide)), b2i_f c10, if_pos rfl, cl_s (w 11 (by decide)), b2i_f c11, if_pos rfl, cl_s (w 12 (by decide)), b2i_t c12, if_neg one_ne, cl_s g1, if_pos rfl, retN_0]
            · unfold fX5_itemHere fX5_itemHere_L94
              rw [cl_s km, if_pos hneg, cl_s m10, b2i_f c10, if_pos rfl, cl_s m11, b2i_f c11, if_pos rfl, cl_s m12, b2i_t c12, if_neg one_ne, cl_s g2, retN_0]
        · refine Or.inr ⟨SC, up2 SM 41 15 (nI q), ?_, ?_, h.fail hB⟩
          · unfold fX1_readItem fX1_readItem_L63 fX1_readItem_L64
            rw [cl_s kc, if_pos hneg, cl_s (w 10 (by decide)), b2i_f c10, if_pos rfl, cl_s (w 11 (by decide)), b2i_f c11, if_pos rfl, cl_s (w 12 (by decide)), b2i_f c12, if_pos rfl, retN_0]
          · unfold fX5_itemHere fX5_itemHere_L94
            rw [cl_s km, if_pos hneg, cl_s m10, b2i_f c10, if_pos rfl, cl_s m11, b2i_f c11, if_pos rfl, cl_s m12, b2i_f c12, if_pos rfl, cl_s (fails_m h.2.2.1.2.2.1), retN_0]
  · have hneg : ¬ kdI t b q tok e < 0 := by rw [ek]; exact nI_pos (by omega)
    rcases goat_PR hB h ht hk with ⟨q', tok', e', T', SC', SM', g1, g2, g3, g4⟩ | ⟨SC', SM', g1, g2, g3⟩
    · refine Or.inl ⟨q', tok', e', T', SC', SM', ?_, ?_, g3, g4⟩
      · unfold fX1_readItem
        rw [cl_s kc, if_neg hneg, ek, cl_s g1, retN_1]
      · unfold fX5_itemHere
        rw [cl_s km, if_neg hneg, ek, cl_s g2, retN_1]
    · refine Or.inr ⟨SC', SM', ?_, ?_, g3⟩
      · unfold fX1_readItem
        rw [cl_s kc, if_neg hneg, ek, cl_s g1, retN_0]
      · unfold fX5_itemHere
        rw [cl_s km, if_neg hneg, ek, cl_s g2, retN_0]
