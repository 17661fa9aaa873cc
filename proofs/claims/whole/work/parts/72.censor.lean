/-! censor -/
def ceB (T : Row) (p n i : Nat) : Bool := !tb (kaF (daysT T (nI i) n) (nI i)) p
def ceC (T : Row) (p n N : Nat) : Nat → Nat
  | 0 => N
  | i + 1 => if bcN (ceC T p n N i) ≤ bcN i then ceC T p n N i else if ceB T p n i = true then i else ceC T p n N i
def leO (o : Option Nat) (i : Nat) : Bool := match o with
  | none => false
  | some b => decide (bcN b ≤ bcN i)
def ceM (T : Row) (p n : Nat) : Nat → Option Nat
  | 0 => none
  | i + 1 => if leO (ceM T p n i) i = true then ceM T p n i else if ceB T p n i = true then some i else ceM T p n i
theorem knF_0 {T : Row} {s : Int32} : ∀ n, (∀ g, g < n → tb s g = false) → knF T s n = 0
  | 0, _ => rfl
  | n + 1, h => by
    rw [knF, if_neg (by rw [h n (by omega)]; decide)]
    exact knF_0 n (fun g hg => h g (by omega))
theorem full_b {n g : Nat} (h : g < n) (hn : n ≤ 8) : tb (nI (2 ^ n - 1)) g = true := by
  have hp := p2_256 hn
  rw [tb_nI (by omega), Nat.testBit_two_pow_sub_one]
  exact decide_eq_true h
theorem ce_full {T : Row} {m p n d : Nat} (hT : RwI m T) (ed : T 1 = nI d) : ceB T p n (2 ^ nN T - 1) = true := by
  have h8 := hT.1.n8
  have e : nN (daysT T (nI (2 ^ nN T - 1)) n) = nN T := nN_eq ((days_V hT.1 _ ed n).2.1 0 (by omega) (by omega))
  unfold ceB kaF
  rw [knF_0 _ (fun g hg => by
    rw [e] at hg
    rw [tb_not _ (by omega), full_b hg h8]
    rfl), tb_0]
  rfl
theorem ce_rel {T : Row} {m p n d : Nat} (hT : RwI m T) (ed : T 1 = nI d) : ∀ i, i ≤ 2 ^ nN T - 1 → (ceM T p n i = none ∧ ceC T p n (2 ^ nN T - 1) i = 2 ^ nN T - 1) ∨ ∃ b, b < i ∧ ceM T p n i = some b ∧ ceC T p n (2 ^ nN T - 1) i = b
  | 0, _ => Or.inl ⟨rfl, rfl⟩
  | i + 1, hi => by
    have hb := full_bc _ hT.1.n8 i (by omega)
    rcases ce_rel hT ed i (by omega) with ⟨a1, a2⟩ | ⟨b, b0, b1, b2⟩
    · rw [ceM, ceC, a1, a2, if_neg (show ¬ leO none i = true from Bool.false_ne_true), if_neg (show ¬ bcN (2 ^ nN T - 1) ≤ bcN i by omega)]
      by_cases q : ceB T p n i = true
      · rw [if_pos q, if_pos q]
        exact Or.inr ⟨i, by omega, rfl, rfl⟩
      · rw [if_neg q, if_neg q]
        exact Or.inl ⟨rfl, rfl⟩
    · rw [ceM, ceC, b1, b2]
      by_cases v : bcN b ≤ bcN i
      · rw [if_pos v, if_pos (show leO (some b) i = true from decide_eq_true v)]
        exact Or.inr ⟨b, by omega, rfl, rfl⟩
      · rw [if_neg v, if_neg (show ¬ leO (some b) i = true from fun r => v (of_decide_eq_true r))]
        by_cases q : ceB T p n i = true
        · rw [if_pos q, if_pos q]
          exact Or.inr ⟨i, by omega, rfl, rfl⟩
        · rw [if_neg q, if_neg q]
          exact Or.inr ⟨b, by omega, rfl, rfl⟩
theorem ce_end {T : Row} {m p n d : Nat} (hT : RwI m T) (ed : T 1 = nI d) : ceM T p n (2 ^ nN T) = some (ceC T p n (2 ^ nN T - 1) (2 ^ nN T)) ∧ ceC T p n (2 ^ nN T - 1) (2 ^ nN T) < 2 ^ nN T := by
  have h8 := p2_256 hT.1.n8
  have hpos : 0 < 2 ^ nN T := Nat.two_pow_pos _
  have hf := ce_full (p := p) (n := n) hT ed
  have key : ∀ N, N + 1 = 2 ^ nN T → N = 2 ^ nN T - 1 → ceM T p n (N + 1) = some (ceC T p n (2 ^ nN T - 1) (N + 1)) ∧ ceC T p n (2 ^ nN T - 1) (N + 1) < 2 ^ nN T := by
    intro N h1 h2
    rcases ce_rel (p := p) (n := n) hT ed N (by omega) with ⟨a1, a2⟩ | ⟨b, b0, b1, b2⟩
    · rw [ceM, ceC, a1, a2, if_neg (show ¬ leO none N = true from Bool.false_ne_true), h2, hf, if_pos (rfl : true = true), if_pos (Nat.le_refl _)]
      exact ⟨rfl, by omega⟩
    · have hb := full_bc _ hT.1.n8 b (by omega)
      have v : ¬ bcN (2 ^ nN T - 1) ≤ bcN b := by omega
      rw [← h2] at v hb
      have v2 : bcN b ≤ bcN N := by omega
      rw [ceM, ceC, b1, b2, if_pos v2, if_pos (show leO (some b) N = true from decide_eq_true v2)]
      exact ⟨rfl, by omega⟩
  have := key (2 ^ nN T - 1) (by omega) rfl
  rw [show 2 ^ nN T - 1 + 1 = 2 ^ nN T by omega] at this
  exact this
theorem ceC_lt {T : Row} {p n N : Nat} : ∀ i, ceC T p n N i ≤ N ∨ ceC T p n N i < i
  | 0 => Or.inl (Nat.le_refl _)
  | i + 1 => by
    rcases @ceC_lt T p n N i with h | h
    · rw [ceC]
      split
      · exact Or.inl h
      · split
        · exact Or.inr (by omega)
        · exact Or.inl h
    · rw [ceC]
      split
      · exact Or.inr (by omega)
      · split <;> exact Or.inr (by omega)
theorem lw_c {T : Row} {m p n d i : Nat} {S : St} (hT : RwI m T) (hp : p < 16) (ed : T 1 = nI d) (hn : n ≤ 12) (hd : d + n ≤ 99999) (hR : Rep 1 T 0 S) : ∃ S', fX4_isLostWithout (nI i) (nI p) (nI n) S = some (b2i (ceB T p n i = true), S') ∧ Fr 10 S S' := by
  obtain ⟨S1, p1, p2, p3⟩ := become_c (b := 10) hR (by omega)
  obtain ⟨S3, r1, r2, r3⟩ := days_c (n := n) (p2.s_go (v := nI i)) hT.1 ed hd (by omega)
  obtain ⟨v1, v2, v3⟩ := days_V hT.1 (nI i) ed n
  refine ⟨S3, ?_, p3.tr (Fr.up0.tr r3)⟩
  unfold fX4_isLostWithout fX4_isLostWithout_L43
  rw [cl_s p1, bnd_s, cl_s r1, cl_s (prn_eq r2 v1 (by omega)), retN_0, retN_1]
  unfold ceB
  cases q : tb (kaF (daysT T (nI i) n) (nI i)) p
  · rfl
  · rfl
theorem ce_c {T : Row} {m p n d : Nat} (hT : RwI m T) (hp : p < 16) (ed : T 1 = nI d) (hn : n ≤ 12) (hd : d + n ≤ 99999) : ∀ (f i : Nat) (S : St), i ≤ 2 ^ nN T → 2 ^ nN T - i < f → Rep 1 T 0 S → ∃ S', fX4_censor_L41 f (nI p) (nI n) (nI (2 ^ nN T)) (nI (ceC T p n (2 ^ nN T - 1) i)) (nI i) S = some (nI (ceC T p n (2 ^ nN T - 1) (2 ^ nN T)), S') ∧ Fr 10 S S'
  | 0, i, S, h1, h2, hR => by omega
  | f + 1, i, S, h1, h2, hR => by
    have h8 := p2_256 hT.1.n8
    have hpos : 0 < 2 ^ nN T := Nat.two_pow_pos _
    by_cases hi : 2 ^ nN T ≤ i
    · unfold fX4_censor_L41
      rw [if_pos (nI_le hi (by omega)), show i = 2 ^ nN T by omega]
      exact ⟨S, rfl, Fr.rf⟩
    · have hc := @ceC_lt T p n (2 ^ nN T - 1) i
      have u1 := @bc_le (ceC T p n (2 ^ nN T - 1) i)
      have u2 := @bc_le i
      by_cases v : bcN (ceC T p n (2 ^ nN T - 1) i) ≤ bcN i
      · obtain ⟨S4, t1, t2⟩ := ce_c hT hp ed hn hd f (i + 1) S (by omega) (by omega) hR
        refine ⟨S4, ?_, t2⟩
        rw [← t1]
        conv => lhs; unfold fX4_censor_L41
        unfold fX4_censor_L65 fX4_censor_L87
        simp only [bnd_s]
        rw [if_neg (nI_ge (by omega) (by omega)), cl_s (bitCount_eq (x := i) (by omega) S), cl_s (bitCount_eq (x := ceC T p n (2 ^ nN T - 1) i) (by omega) S), if_pos (nI_le v (by omega)), if_pos True.intro, nI_1, ceC, if_pos v]
      · obtain ⟨S3, r1, r2⟩ := lw_c (i := i) hT hp ed hn hd hR
        obtain ⟨S4, t1, t2⟩ := ce_c hT hp ed hn hd f (i + 1) S3 (by omega) (by omega) (hR.f10 r2)
        refine ⟨S4, ?_, r2.tr t2⟩
        rw [← t1]
        conv => lhs; unfold fX4_censor_L41
        unfold fX4_censor_L65 fX4_censor_L87
        simp only [bnd_s]
        rw [if_neg (nI_ge (by omega) (by omega)), cl_s (bitCount_eq (x := i) (by omega) S), cl_s (bitCount_eq (x := ceC T p n (2 ^ nN T - 1) i) (by omega) S), if_neg (nI_ge (by omega) (by omega)), if_neg one_ne, cl_s r1, nI_1, ceC, if_neg v]
        by_cases q : ceB T p n i = true
        · rw [b2i_t q, if_neg one_ne, if_pos q]
        · rw [b2i_f q, if_pos rfl, if_neg q]
theorem cd_m {T : Row} {B : St} {m p n d i : Nat} (hT : RwI m T) (ed : T 1 = nI d) (hn : n ≤ 12) (K : Int32 → Int32 → Int32 → Int32 → St → Option (Int32 × St)) (x3 : Int32) : ∀ (f k : Nat), k ≤ n → n - k < f → fX5_censor_L74 K f (nI p) (nI n) x3 (nI i) (nI k) (upR B 42 (daysT T (nI i) k)) = fX5_censor_L74 K (0 + 1) (nI p) (nI n) x3 (nI i) (nI n) (upR B 42 (daysT T (nI i) n))
  | 0, k, h1, h2 => by omega
  | f + 1, k, h1, h2 => by
    by_cases hk : n ≤ k
    · rw [show k = n by omega]
      have c : nI n ≤ nI n := nI_le (Nat.le_refl _) (by omega)
      unfold fX5_censor_L74
      rw [if_pos c, if_pos c]
    · obtain ⟨v1, v2, v3⟩ := days_V hT.1 (nI i) ed k
      rw [← cd_m hT ed hn K x3 f (k + 1) (by omega) (by omega)]
      conv => lhs; unfold fX5_censor_L74
      rw [if_neg (nI_ge (by omega) (by omega)), cl_s (day_m (by rw [upR_qq]; exact v1) (nI i)), bnd_s, nI_1, upR_qq, upR_upR]
      rfl
theorem ce_m {T : Row} {B : St} {m p n d : Nat} (hT : RwI m T) (hp : p < 16) (ed : T 1 = nI d) (hn : n ≤ 12) (h42 : B 42 = T) (h45 : ∀ j, j < 75 → B 45 j = T j) : ∀ (f i : Nat), i ≤ 2 ^ nN T → 2 ^ nN T - i < f → (∀ b, ceM T p n i = some b → b < i) → fX5_censor_L42 f (nI p) (nI n) (oI (ceM T p n i)) (nI i) B = some (oI (ceM T p n (2 ^ nN T)), B)
  | 0, i, h1, h2, h3 => by omega
  | f + 1, i, h1, h2, h3 => by
    have hn8 := hT.1.n8
    have h8 := p2_256 hT.1.n8
    have eb : (1 : Int32) <<< (nI (nN T) &&& 31) = nI (2 ^ nN T) := b1_nI _ (by omega)
    by_cases hi : 2 ^ nN T ≤ i
    · unfold fX5_censor_L42
      rw [rd0, h42, hT.1.n, eb, if_pos (nI_le hi (by omega)), show i = 2 ^ nN T by omega]
    · have h3' : ∀ b, ceM T p n (i + 1) = some b → b < i + 1 := by
        intro b hb
        rw [ceM] at hb
        split at hb
        · exact Nat.lt_succ_of_lt (h3 b hb)
        · split at hb
          · injection hb with hb
            omega
          · exact Nat.lt_succ_of_lt (h3 b hb)
      have ih := ce_m hT hp ed hn h42 h45 f (i + 1) (by omega) (by omega) h3'
      have go : ∀ x3 : Int32, fX5_censor_L71 (fun x1 x2 x3 x4 S => fX5_censor_L42 f x1 x2 x3 x4 S) (nI p) (nI n) x3 (nI i) B = fX5_censor_L42 f (nI p) (nI n) (if ceB T p n i = true then nI i else x3) (nI (i + 1)) B := by
        intro x3
        have e0 : upR B 42 (daysT T (nI i) 0) = B := by
          show upR B 42 T = B
          rw [← h42]
          exact upR_self
        have cd := cd_m (B := B) (p := p) (i := i) hT ed hn (fun x1 x2 x3 x4 S => fX5_censor_L42 f x1 x2 x3 x4 S) x3 FU 0 (by omega) (by unfold FU; omega)
        rw [e0] at cd
        obtain ⟨v1, v2, v3⟩ := days_V hT.1 (nI i) ed n
        have hb : fX5_copyRow 45 42 (upR B 42 (daysT T (nI i) n)) = some ((), B) := look_back h42 h45 (days_hi hT.1 (nI i) ed n)
        have c : nI n ≤ nI n := nI_le (Nat.le_refl _) (by omega)
        have hk := kb_eq (S := upR B 42 (daysT T (nI i) n)) (go := nI i) (by rw [upR_qq]; exact v1)
        rw [upR_qq] at hk
        unfold fX5_censor_L71
        refine Eq.trans cd ?_
        unfold fX5_censor_L74 fX5_censor_L117 fX5_censor_L129
        simp only [bnd_s]
        rw [if_pos c, cl_s hk, nI_1]
        by_cases q : tb (kaF (daysT T (nI i) n) (nI i)) p = true
        · have q' : ¬ ceB T p n i = true := by unfold ceB; rw [q]; decide
          rw [if_neg (fun r => (sh0 _ (by omega)).mp r q), cl_s hb, if_neg q']
        · have q' : ceB T p n i = true := by unfold ceB; rw [Bool.eq_false_iff.mpr q]; rfl
          rw [if_pos ((sh0 _ (by omega)).mpr q), cl_s hb, if_pos q']
      rw [← ih]
      conv => lhs; unfold fX5_censor_L42
      rw [rd0, h42, hT.1.n, eb, if_neg (nI_ge (by omega) (by omega)), ceM]
      cases hc : ceM T p n i with
      | none =>
        have c : oI none < 0 := by decide
        rw [if_pos c, go, if_neg (show ¬ leO none i = true from Bool.false_ne_true)]
        by_cases q : ceB T p n i = true
        · rw [if_pos q, if_pos q]
          rfl
        · rw [if_neg q, if_neg q]
      | some b =>
        have hb := h3 b hc
        have u1 := @bc_le b
        have u2 := @bc_le i
        have c : ¬ oI (some b) < 0 := nI_pos (n := b) (by omega)
        have e : oI (some b) = nI b := rfl
        rw [if_neg c, cl_s (many_eq (x := i) (by omega) B), e, cl_s (many_eq (x := b) (by omega) B), go]
        by_cases v : bcN b ≤ bcN i
        · rw [if_pos (nI_le v (by omega)), if_pos (show leO (some b) i = true from decide_eq_true v)]
          unfold fX5_censor_L129
          rw [bnd_s, nI_1]
          rfl
        · rw [if_neg (nI_ge (by omega) (by omega)), if_neg (show ¬ leO (some b) i = true from fun r => v (of_decide_eq_true r))]
          by_cases q : ceB T p n i = true
          · rw [if_pos q, if_pos q]
            rfl
          · rw [if_neg q, if_neg q]
            rfl
theorem isIn12 (a : Int32) (S : St) : fX5_isIn a.toInt64 0 12 S = some (b2i (inR a 13), S) := isIn_n a 12 (by decide) rfl S
theorem within12 (a : Int32) (S : St) : fX4_isWithin a 12 S = some (b2i (inR a 13), S) := within_n a 12 (by decide) S
theorem eq_censor : EQ2 Inv fX4_censor fX5_censor := by
  intro n S a1 a2 hI hn
  by_cases h : inR a1 16
  · by_cases h2 : inR a2 13
    · obtain ⟨p, hp, rfl⟩ := inR_n (m := 16) (by decide) h
      obtain ⟨j, hj, rfl⟩ := inR_n (m := 13) (by decide) h2
      obtain ⟨d, hd, ed⟩ := hI.1.1.2.1
      have hn8 := hI.V.n8
      have h8 := p2_256 hI.V.n8
      have hpos : 0 < 2 ^ nN (S 42) := Nat.two_pow_pos _
      have eb : (1 : Int32) <<< (nI (nN (S 42)) &&& 31) = nI (2 ^ nN (S 42)) := b1_nI _ (by omega)
      have em : nI (2 ^ nN (S 42)) - 1 = nI (2 ^ nN (S 42) - 1) := by
        conv => lhs; rw [show 2 ^ nN (S 42) = 2 ^ nN (S 42) - 1 + 1 by omega]
        exact nI_pred _
      obtain ⟨S1, p1, p2⟩ := ce_c hI.1.1 (n := j) hp ed (by omega) (by omega) FU 0 S (Nat.zero_le _) (by unfold FU; omega) hI.R
      obtain ⟨z1, z2⟩ := ce_end (p := p) (n := j) hI.1.1 ed
      have e42 : S1 42 = S 42 := p2 42 (by omega)
      obtain ⟨B, b1, b2, b3, b4⟩ := look_go S1
      rw [e42] at b2 b4
      have g := ce_m hI.1.1 (n := j) hp ed (by omega) b2 b4 FU 0 (Nat.zero_le _) (by unfold FU; omega) (fun b hb => by rw [ceM] at hb; cases hb)
      rw [z1] at g
      refine ⟨nI (ceC (S 42) p j (2 ^ nN (S 42) - 1) (2 ^ nN (S 42))), S1, B, ?_, ?_, inv_stay _ _ ((hI.lk (Lk.fr p2)).lk ⟨fun q a1 a2 a3 => b3 q a3, ?_⟩)⟩
      · unfold fX4_censor
        rw [cl_s (pageG_c _ S), b2i_t h, if_neg one_ne, cl_s (within12 _ S), b2i_t h2, if_neg one_ne, hI.R.n, hI.V.n, eb, bnd_s, bnd_s, em]
        exact p1
      · unfold fX5_censor
        rw [cl_s (pageG_m _ _), b2i_t h, if_neg one_ne, cl_s (isIn12 _ _), b2i_t h2, if_neg one_ne, cl_s b1]
        exact g
      · rw [b2, e42]
        exact EqT.rf
    · refine hI.bad ?_ ?_
      · unfold fX4_censor fX4_censor_L16
        rw [cl_s (pageG_c _ S), b2i_t h, if_neg one_ne, cl_s (within12 _ S), b2i_f h2, if_pos rfl, cl_s (fo1 S)]
      · intro S1 _
        unfold fX5_censor fX5_censor_L19
        rw [cl_s (pageG_m _ _), b2i_t h, if_neg one_ne, cl_s (isIn12 _ _), b2i_f h2, if_pos rfl, cl_s (fq1 S1)]
  · refine hI.bad ?_ ?_
    · unfold fX4_censor fX4_censor_L16
      rw [cl_s (pageG_c _ S), b2i_f h, if_pos rfl, cl_s (fo1 S)]
    · intro S1 _
      unfold fX5_censor fX5_censor_L19
      rw [cl_s (pageG_m _ _), b2i_f h, if_pos rfl, cl_s (fq1 S1)]
