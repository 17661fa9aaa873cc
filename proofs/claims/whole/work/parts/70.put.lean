/-! copies of the row, exactly; put, kindFor -/
def mixR (T U : Row) : Row := fun j => if j < 75 then T j else U j
theorem crx_loop {p q : Nat} (hpq : p ≠ q) (S0 : St) : ∀ (f i : Nat), i ≤ 75 → 75 - i < f → fX5_copyRow_L2 p q f (nI i) (upR S0 q (fun j => if j < i then S0 p j else S0 q j)) = some ((), upR S0 q (mixR (S0 p) (S0 q)))
  | 0, i, h1, h2 => by omega
  | f + 1, i, h1, h2 => by
    unfold fX5_copyRow_L2
    by_cases hi : 75 ≤ i
    · have c : (75 : Int32) ≤ nI i := nI_le (a := 75) hi (by omega)
      have e : i = 75 := by omega
      subst e
      rw [if_pos c]
      rfl
    · have c : ¬ (75 : Int32) ≤ nI i := nI_ge (b := 75) (by omega) (by decide)
      rw [if_neg c, rd_n (by omega) (by decide), wr_n (by omega) (by decide), bnd_s, nI_1, upR_qn hpq, upR_up2, upR_qq, upR_upR]
      have e : upd (fun j => if j < i then S0 p j else S0 q j) i (S0 p i) = fun j => if j < i + 1 then S0 p j else S0 q j := by
        funext j
        by_cases e : j = i
        · subst e
          rw [upd_s, if_pos (by omega)]
        · rw [upd_n e]
          by_cases w : j < i
          · rw [if_pos w, if_pos (by omega)]
          · rw [if_neg w, if_neg (by omega)]
      rw [e]
      exact crx_loop hpq S0 f (i + 1) (by omega) (by omega)
theorem copyRow_x {p q : Nat} (hpq : p ≠ q) (S : St) : fX5_copyRow p q S = some ((), upR S q (mixR (S p) (S q))) := by
  have h := crx_loop hpq S FU 0 (by omega) (by unfold FU; omega)
  have e : (fun j => if j < 0 then S p j else S q j) = S q := by
    funext j
    rw [if_neg (by omega)]
  rw [e, upR_self] at h
  exact h
theorem look_back {B : St} {T R : Row} (h42 : B 42 = T) (h45 : ∀ j, j < 75 → B 45 j = T j) (hR : ∀ j, 75 ≤ j → R j = T j) : fX5_copyRow 45 42 (upR B 42 R) = some ((), B) := by
  have e : mixR (B 45) R = T := by
    funext j
    unfold mixR
    by_cases h : j < 75
    · rw [if_pos h]
      exact h45 j h
    · rw [if_neg h]
      exact hR j (by omega)
  rw [copyRow_x (by decide), upR_upR, upR_qn (by decide), upR_qq, e, ← h42, upR_self]
theorem look_go (S : St) : ∃ B, fX5_copyRow 42 45 S = some ((), B) ∧ B 42 = S 42 ∧ (∀ q, q ≠ 45 → B q = S q) ∧ ∀ j, j < 75 → B 45 j = S 42 j := by
  refine ⟨_, copyRow_x (by decide) S, upR_qn (by decide), fun q hq => upR_qn hq, fun j hj => ?_⟩
  rw [upR_qq]
  exact if_pos hj
theorem days_hi {T : Row} (hV : VT T) (go : Int32) {d : Nat} (hd : T 1 = nI d) (k : Nat) : ∀ j, 75 ≤ j → daysT T go k j = T j := fun j hj => (days_V hV go hd k).2.1 j (Or.inr (by omega)) (by omega)
theorem then_m {S : St} {g w n d : Nat} (hV : VT (S 42)) (hd : S 42 1 = nI d) (hn : n ≤ 1000) (hg : g < 8) (hw : w < 6) : ∃ B, fX5_then (nI g) (nI w) (nI n) S = some (daysT (S 42) 0 n (17 + 6 * g + w), B) ∧ ∀ q, q ≠ 45 → B q = S q := by
  obtain ⟨B, b1, b2, b3, b4⟩ := look_go S
  have hgo := goes_m (S := B) (n := n) (by rw [b2]; exact hV) (by rw [b2]; exact hd) hn
  rw [b2] at hgo
  refine ⟨B, ?_, b3⟩
  unfold fX5_then
  rw [cl_s b1, cl_s hgo, cl_s (its_n hg hw _), upR_qq, cl_s (look_back b2 b4 (days_hi hV 0 hd n))]
theorem upd_upd {f : Row} {k : Nat} {x y : Int32} : upd (upd f k x) k y = upd f k y := by
  funext j
  by_cases e : j = k
  · subst e
    rw [upd_s, upd_s]
  · rw [upd_n e, upd_n e, upd_n e]
theorem upd_self {f : Row} {k : Nat} : upd f k (f k) = f := by
  funext j
  by_cases e : j = k
  · subst e
    rw [upd_s]
  · rw [upd_n e]
def pkB (T : Row) (g w n i : Nat) : Nat := bcN (knN (daysT (upd T (17 + 6 * g + w) (nI i)) 0 n) g)
def btF (T : Row) (g w n : Nat) : Nat → Int32 × Int32
  | 0 => (0, -1)
  | i + 1 => if nI (pkB T g w n i) ≤ (btF T g w n i).2 then btF T g w n i else (nI i, nI (pkB T g w n i))
theorem mx_le {a b : Int32} (h : b ≤ a) : mxI a b = a := by
  unfold mxI
  rw [if_neg (fun q => by rw [Int32.lt_iff_toInt_lt] at q; rw [Int32.le_iff_toInt_le] at h; omega)]
theorem mx_gt {a b : Int32} (h : ¬ b ≤ a) : mxI a b = b := by
  unfold mxI
  rw [if_pos (by rw [Int32.lt_iff_toInt_lt]; rw [Int32.le_iff_toInt_le] at h; omega)]
theorem Rep.f10 {T : Row} {go : Int32} {S S1 : St} (h : Rep 1 T go S) (e : Fr 10 S S1) : Rep 1 T go S1 := h.fr (fun i hi => e _ (Or.inl (by omega)))
theorem bt_c {T : Row} {m g w n d k : Nat} (hT : RwI m T) (hg : g < 8) (hw : w < 6) (hk : k ≤ tvM w) (hk12 : k ≤ 12) (ed : T 1 = nI d) (hn : n ≤ 40) (hd : d + n ≤ 99999) : ∀ (f i : Nat) (S : St), i ≤ k → k - i < f → Rep 1 T 0 S → ∃ S', fX4_bestTrait_L9 f (nI g) (nI w) (nI k) (nI n) (btF T g w n i).1 (btF T g w n i).2 (nI i) S = some ((btF T g w n k).1, S') ∧ Fr 10 S S'
  | 0, i, S, h1, h2, hR => by omega
  | f + 1, i, S, h1, h2, hR => by
    by_cases hi : k ≤ i
    · unfold fX4_bestTrait_L9
      rw [if_pos (nI_le hi (by omega)), show i = k by omega]
      exact ⟨S, rfl, Fr.rf⟩
    · obtain ⟨S1, p1, p2, p3⟩ := become_c (b := 10) hR (by omega)
      have q2 := p2.s_w (v := nI i) hg hw
      have hT2 := hT.gt (v := nI i) hg hw ⟨i, by omega, rfl⟩
      have ed2 : upd T (17 + 6 * g + w) (nI i) 1 = nI d := by rw [upd_n (by omega)]; exact ed
      obtain ⟨S3, r1, r2, r3⟩ := days_c (n := n) q2 hT2.1 ed2 hd (by omega)
      obtain ⟨v1, v2, v3⟩ := days_V hT2.1 0 ed2 n
      obtain ⟨u1, u2⟩ := v1.kn hg
      have F : Fr 10 S S3 := p3.tr ((Fr.up (by omega)).tr r3)
      obtain ⟨S4, t1, t2⟩ := bt_c hT hg hw hk hk12 ed hn hd f (i + 1) S3 (by omega) (by omega) (hR.f10 F)
      refine ⟨S4, ?_, F.tr t2⟩
      rw [← t1]
      conv => lhs; unfold fX4_bestTrait_L9
      unfold fX4_bestTrait_L75
      simp only [bnd_s]
      rw [if_neg (nI_ge (by omega) (by omega)), cl_s p1, cl_s (setTrait_c hg hw), cl_s r1, rd_n hg (by decide), r2.kn hg, u2, cl_s (bitCount_eq u1 S3), nI_1]
      rw [btF]
      by_cases c : nI (pkB T g w n i) ≤ (btF T g w n i).2
      · rw [if_pos c]
        have c' : nI (bcN (knN (daysT (upd T (17 + 6 * g + w) (nI i)) 0 n) g)) ≤ (btF T g w n i).2 := c
        rw [if_pos c']
      · rw [if_neg c]
        have c' : ¬ nI (bcN (knN (daysT (upd T (17 + 6 * g + w) (nI i)) 0 n) g)) ≤ (btF T g w n i).2 := c
        rw [if_neg c']
        rfl
theorem bt_m {T : Row} {m g w n d : Nat} (hT : RwI m T) (hg : g < 8) (hw : w < 6) (hk12 : tvM w ≤ 12) (ed : T 1 = nI d) (hn : n ≤ 40) : ∀ (f i : Nat) (S : St) (x : Int32), i ≤ tvM w → tvM w - i < f → S 42 = upd T (17 + 6 * g + w) x → ∃ S', fX5_wisestBy_L17 f (nI g) (nI w) (nI n) (T (17 + 6 * g + w)) (btF T g w n i).1 (btF T g w n i).2 (nI i) S = some ((btF T g w n (tvM w)).1, S') ∧ S' 42 = T ∧ ∀ q, q ≠ 42 → q ≠ 45 → S' q = S q
  | 0, i, S, x, h1, h2, h42 => by omega
  | f + 1, i, S, x, h1, h2, h42 => by
    have hk := (@tvM_le w).1
    by_cases hi : tvM w ≤ i
    · unfold fX5_wisestBy_L17
      rw [cl_s (gof_m w hw S), if_pos (nI_lt (by omega) (by omega)), cl_s (at_n g w S), wr_n (by omega) (by decide), show i = tvM w by omega]
      refine ⟨_, rfl, ?_, fun q h1 h2 => up2_qn h1⟩
      rw [up2_qq, h42, upd_upd, upd_self]
    · have hT2 := hT.gt (v := nI i) hg hw ⟨i, by omega, rfl⟩
      have ed2 : upd T (17 + 6 * g + w) (nI i) 1 = nI d := by rw [upd_n (by omega)]; exact ed
      have e5 : up2 S 42 (17 + 6 * g + w) (nI i) 42 = upd T (17 + 6 * g + w) (nI i) := by rw [up2_qq, h42, upd_upd]
      obtain ⟨B, b1, b2⟩ := then_m (S := up2 S 42 (17 + 6 * g + w) (nI i)) (g := g) (w := 2) (n := n) (d := d) (by rw [e5]; exact hT2.1) (by rw [e5]; exact ed2) (by omega) hg (by decide)
      rw [e5] at b1
      have b1' : fX5_then (nI g) 2 (nI n) (up2 S 42 (17 + 6 * g + w) (nI i)) = some (daysT (upd T (17 + 6 * g + w) (nI i)) 0 n (19 + 6 * g), B) := by
        rw [show 19 + 6 * g = 17 + 6 * g + 2 by omega]
        exact b1
      obtain ⟨v1, v2, v3⟩ := days_V hT2.1 0 ed2 n
      obtain ⟨u1, u2⟩ := v1.kn hg
      obtain ⟨S4, t1, t2, t3⟩ := bt_m hT hg hw hk12 ed hn f (i + 1) B (nI i) (by omega) (by omega) (by rw [b2 42 (by decide)]; exact e5)
      refine ⟨S4, ?_, t2, fun q h1 h2 => by rw [t3 q h1 h2, b2 q h2, up2_qn h1]⟩
      rw [← t1]
      conv => lhs; unfold fX5_wisestBy_L17
      unfold fX5_wisestBy_L64
      simp only [bnd_s]
      rw [cl_s (gof_m w hw S), if_neg (nI_nlt (by omega) (by omega)), cl_s (at_n g w S), wr_n (by omega) (by decide), cl_s b1', u2, cl_s (many_eq u1 B), cl_s (greatest_eq _ _ B), nI_1]
      rw [btF]
      by_cases c : nI (pkB T g w n i) ≤ (btF T g w n i).2
      · rw [if_pos c]
        have c' : nI (bcN (knN (daysT (upd T (17 + 6 * g + w) (nI i)) 0 n) g)) ≤ (btF T g w n i).2 := c
        rw [if_pos c', mx_le c']
      · rw [if_neg c]
        have c' : ¬ nI (bcN (knN (daysT (upd T (17 + 6 * g + w) (nI i)) 0 n) g)) ≤ (btF T g w n i).2 := c
        rw [if_neg c', cl_s (greatest_eq _ _ B), mx_gt c']
        rfl
theorem isIn40 (a : Int32) (S : St) : fX5_isIn a.toInt64 0 40 S = some (b2i (inR a 41), S) := isIn_n a 40 (by decide) rfl S
theorem within40 (a : Int32) (S : St) : fX4_isWithin a 40 S = some (b2i (inR a 41), S) := within_n a 40 (by decide) S
theorem asked_m (a b : Int32) (S : St) : fX5_isAsked a b S = some (b2i (inR a (S 42 0) ∧ inR b 41), S) := by
  unfold fX5_isAsked fX5_isAsked_L24 fX5_isAsked_L25
  rw [cl_s (goatG_m a S), cl_s (isIn40 b S), retN_0, retN_1]
  by_cases h : inR a (S 42 0)
  · by_cases h2 : inR b 41
    · rw [b2i_t h, if_neg one_ne, b2i_t h2, if_neg one_ne, b2i_t ⟨h, h2⟩]
    · rw [b2i_t h, if_neg one_ne, b2i_f h2, if_pos rfl, b2i_f (fun q => h2 q.2)]
  · rw [b2i_f h, if_pos rfl, b2i_f (fun q => h q.1)]
/-- the best of a trait: both -/
theorem best_cm {n g w j : Nat} {S : St} (hI : Inv n S) (hn : n < 512) (hg : g < 8) (hw : w < 6) (hk12 : tvM w ≤ 12) (hj : j ≤ 40) : ∃ (r : Int32) (S1 S2 : St), fX4_bestTrait (nI g) (nI w) (nI (tvM w)) (nI j) S = some (r, S1) ∧ S1 42 = S 42 ∧ fX5_wisestBy (nI g) (nI w) (nI j) S1 = some (r, S2) ∧ Inv (n + 1) S2 := by
  obtain ⟨d, hd, ed⟩ := hI.1.1.2.1
  obtain ⟨S1, p1, p2⟩ := bt_c hI.1.1 (n := j) hg hw (Nat.le_refl _) hk12 ed hj (by omega) FU 0 S (by omega) (by unfold FU; omega) hI.R
  have e42 : S1 42 = S 42 := p2 42 (by omega)
  obtain ⟨S2, q1, q2, q3⟩ := bt_m hI.1.1 (n := j) hg hw hk12 ed hj FU 0 S1 (S 42 (17 + 6 * g + w)) (by omega) (by unfold FU; omega) (by rw [upd_self]; exact e42)
  refine ⟨_, S1, S2, p1, e42, ?_, inv_stay _ _ ((hI.lk (Lk.fr p2)).lk ⟨fun k h1 h2 h3 => q3 k h2 h3, ?_⟩)⟩
  · unfold fX5_wisestBy
    rw [cl_s (its_n hg hw _), e42]
    exact q1
  · rw [q2, e42]
    exact EqT.rf
theorem eq_put : EQ2 Inv fX4_put fX5_put := by
  intro n S a1 a2 hI hn
  by_cases h : inR a1 (S 42 0)
  · by_cases h2 : inR a2 41
    · obtain ⟨g, hg, hgn, rfl⟩ := goatN hI h
      obtain ⟨j, hj, rfl⟩ := inR_n (m := 41) (by decide) h2
      obtain ⟨r, S1, S2, p1, e42, p2, p3⟩ := best_cm (w := 1) (j := j) hI hn hg (by decide) (by decide) (by omega)
      refine ⟨r, S1, S2, ?_, ?_, p3⟩
      · have p1' : fX4_bestTrait (nI g) 1 12 (nI j) S = some (r, S1) := p1
        unfold fX4_put
        rw [cl_s (goatG_c _ hI.R), b2i_t h, if_neg one_ne, cl_s (within40 _ S), b2i_t h2, if_neg one_ne, cl_s p1']
      · have p2' : fX5_wisestBy (nI g) 1 (nI j) S1 = some (r, S2) := p2
        unfold fX5_put fX5_put_L25
        rw [cl_s (asked_m _ _ _), e42, b2i_t ⟨h, h2⟩, if_neg one_ne, cl_s p2']
    · refine hI.bad ?_ ?_
      · unfold fX4_put fX4_put_L17
        rw [cl_s (goatG_c _ hI.R), b2i_t h, if_neg one_ne, cl_s (within40 _ S), b2i_f h2, if_pos rfl, cl_s (fo1 S)]
      · intro S1 hS1
        unfold fX5_put fX5_put_L25
        rw [cl_s (asked_m _ _ _), b2i_f (fun q => h2 q.2), if_pos rfl, cl_s (fq1 S1)]
  · refine hI.bad ?_ ?_
    · unfold fX4_put fX4_put_L17
      rw [cl_s (goatG_c _ hI.R), b2i_f h, if_pos rfl, cl_s (fo1 S)]
    · intro S1 hS1
      have e42 : S1 42 = S 42 := by rw [hS1]; exact up2_qn (by omega)
      unfold fX5_put fX5_put_L25
      rw [cl_s (asked_m _ _ _), e42, b2i_f (fun q => h q.1), if_pos rfl, cl_s (fq1 S1)]
theorem eq_kindFor : EQ2 Inv fX4_kindFor fX5_kindFor := by
  intro n S a1 a2 hI hn
  by_cases h : inR a1 (S 42 0)
  · by_cases h2 : inR a2 41
    · obtain ⟨g, hg, hgn, rfl⟩ := goatN hI h
      obtain ⟨j, hj, rfl⟩ := inR_n (m := 41) (by decide) h2
      obtain ⟨r, S1, S2, p1, e42, p2, p3⟩ := best_cm (w := 0) (j := j) hI hn hg (by decide) (by decide) (by omega)
      refine ⟨r, S1, S2, ?_, ?_, p3⟩
      · have p1' : fX4_bestTrait (nI g) 0 7 (nI j) S = some (r, S1) := p1
        unfold fX4_kindFor
        rw [cl_s (goatG_c _ hI.R), b2i_t h, if_neg one_ne, cl_s (within40 _ S), b2i_t h2, if_neg one_ne, cl_s p1']
      · have p2' : fX5_wisestBy (nI g) 0 (nI j) S1 = some (r, S2) := p2
        unfold fX5_kindFor fX5_kindFor_L25
        rw [cl_s (asked_m _ _ _), e42, b2i_t ⟨h, h2⟩, if_neg one_ne, cl_s p2']
    · refine hI.bad ?_ ?_
      · unfold fX4_kindFor fX4_kindFor_L17
        rw [cl_s (goatG_c _ hI.R), b2i_t h, if_neg one_ne, cl_s (within40 _ S), b2i_f h2, if_pos rfl, cl_s (fo1 S)]
      · intro S1 hS1
        unfold fX5_kindFor fX5_kindFor_L25
        rw [cl_s (asked_m _ _ _), b2i_f (fun q => h2 q.2), if_pos rfl, cl_s (fq1 S1)]
  · refine hI.bad ?_ ?_
    · unfold fX4_kindFor fX4_kindFor_L17
      rw [cl_s (goatG_c _ hI.R), b2i_f h, if_pos rfl, cl_s (fo1 S)]
    · intro S1 hS1
      have e42 : S1 42 = S 42 := by rw [hS1]; exact up2_qn (by omega)
      unfold fX5_kindFor fX5_kindFor_L25
      rw [cl_s (asked_m _ _ _), e42, b2i_f (fun q => h q.1), if_pos rfl, cl_s (fq1 S1)]
