/-! What both read off a row: each reader of the model and of the class, by one function of the row. -/
theorem rd_l {β : Type} {S : St} {q n : Nat} {i : Int32} {K : Int32 → Option β} (j : Nat) (hi : i = nI j) (hj : j < n) (hn : n < 2 ^ 31) : rd S q n i K = K (S q j) := by
  rw [hi]
  exact rd_n hj hn
theorem wr_l {β : Type} {S : St} {q n : Nat} {i x : Int32} {K : St → Option β} (j : Nat) (hi : i = nI j) (hj : j < n) (hn : n < 2 ^ 31) : wr S q n i x K = K (up2 S q j x) := by
  rw [hi]
  exact wr_n hj hn
theorem ite_s {α : Type} {c : Prop} [Decidable c] {a b : α} {S : St} : (if c then some (a, S) else some (b, S)) = some (if c then a else b, S) := by
  split <;> rfl
theorem mnI_comm (a b : Int32) : mnI a b = mnI b a := by
  rw [← min_sym a b]
  unfold mnI
  rfl
theorem mxI_comm (a b : Int32) : mxI a b = mxI b a := by
  unfold mxI
  rcases Int.lt_trichotomy a.toInt b.toInt with h | h | h
  · rw [if_pos (Int32.lt_iff_toInt_lt.mpr h), if_neg (fun q => by have := Int32.lt_iff_toInt_lt.mp q; omega)]
  · have : a = b := Int32.toInt_inj.mp h
    subst this
    rfl
  · rw [if_neg (fun q => by have := Int32.lt_iff_toInt_lt.mp q; omega), if_pos (Int32.lt_iff_toInt_lt.mpr h)]
theorem least_eq (a b : Int32) (S : St) : fX5_least a b S = some (mnI a b, S) := by
  unfold fX5_least fX5_least_L10 mnI
  rw [ite_s]
  by_cases h : b < a
  · rw [if_pos h, if_pos (Int32.le_iff_toInt_le.mpr (by have := Int32.lt_iff_toInt_lt.mp h; omega))]
  · rw [if_neg h]
    by_cases h2 : b ≤ a
    · rw [if_pos h2]
      have h3 := Int32.le_iff_toInt_le.mp h2
      have h4 : ¬ b.toInt < a.toInt := fun q => h (Int32.lt_iff_toInt_lt.mpr q)
      rw [Int32.toInt_inj.mp (show b.toInt = a.toInt by omega)]
    · rw [if_neg h2]
theorem greatest_eq (a b : Int32) (S : St) : fX5_greatest a b S = some (mxI a b, S) := by
  unfold fX5_greatest fX5_greatest_L10 mxI
  rw [ite_s]
  by_cases h : a < b
  · rw [if_pos h, if_pos (Int32.le_iff_toInt_le.mpr (by have := Int32.lt_iff_toInt_lt.mp h; omega))]
  · rw [if_neg h]
    by_cases h2 : a ≤ b
    · rw [if_pos h2]
      have h3 := Int32.le_iff_toInt_le.mp h2
      have h4 : ¬ a.toInt < b.toInt := fun q => h (Int32.lt_iff_toInt_lt.mpr q)
      rw [Int32.toInt_inj.mp (show b.toInt = a.toInt by omega)]
    · rw [if_neg h2]
/-! places of the row -/
theorem rd0 {β : Type} {S : St} {q : Nat} {K : Int32 → Option β} : rd S q 75 0 K = K (S q 0) := rd_l 0 rfl (by decide) (by decide)
theorem rd1 {β : Type} {S : St} {q : Nat} {K : Int32 → Option β} : rd S q 75 1 K = K (S q 1) := rd_l 1 rfl (by decide) (by decide)
theorem rd2 {β : Type} {S : St} {q : Nat} {K : Int32 → Option β} : rd S q 75 2 K = K (S q 2) := rd_l 2 rfl (by decide) (by decide)
theorem rd3 {β : Type} {S : St} {q : Nat} {K : Int32 → Option β} : rd S q 75 3 K = K (S q 3) := rd_l 3 rfl (by decide) (by decide)
theorem rd4 {β : Type} {S : St} {q : Nat} {K : Int32 → Option β} : rd S q 75 4 K = K (S q 4) := rd_l 4 rfl (by decide) (by decide)
theorem wr0 {β : Type} {S : St} {q : Nat} {x : Int32} {K : St → Option β} : wr S q 75 0 x K = K (up2 S q 0 x) := wr_l 0 rfl (by decide) (by decide)
theorem wr1 {β : Type} {S : St} {q : Nat} {x : Int32} {K : St → Option β} : wr S q 75 1 x K = K (up2 S q 1 x) := wr_l 1 rfl (by decide) (by decide)
theorem wr2 {β : Type} {S : St} {q : Nat} {x : Int32} {K : St → Option β} : wr S q 75 2 x K = K (up2 S q 2 x) := wr_l 2 rfl (by decide) (by decide)
theorem wr3 {β : Type} {S : St} {q : Nat} {x : Int32} {K : St → Option β} : wr S q 75 3 x K = K (up2 S q 3 x) := wr_l 3 rfl (by decide) (by decide)
theorem wr4 {β : Type} {S : St} {q : Nat} {x : Int32} {K : St → Option β} : wr S q 75 4 x K = K (up2 S q 4 x) := wr_l 4 rfl (by decide) (by decide)
theorem ix_n (g w : Nat) : (17 + (6 * nI g)) + nI w = nI (17 + 6 * g + w) := by
  rw [show (17 : Int32) = nI 17 from rfl, show (6 : Int32) = nI 6 from rfl, pk_mul, nI_add, nI_add]
theorem at_n (g w : Nat) (S : St) : fX5_at (nI g) (nI w) S = some (nI (17 + 6 * g + w), S) := by
  unfold fX5_at
  rw [ix_n]
theorem its_n {g w : Nat} (hg : g < 8) (hw : w < 6) (S : St) : fX5_its (nI g) (nI w) S = some (S 42 (17 + 6 * g + w), S) := by
  unfold fX5_its
  rw [rd_l (17 + 6 * g + w) (ix_n g w) (by omega) (by decide)]
theorem its0 {g : Nat} (hg : g < 8) (S : St) : fX5_its (nI g) 0 S = some (S 42 (17 + 6 * g), S) := its_n hg (w := 0) (by decide) S
theorem its1 {g : Nat} (hg : g < 8) (S : St) : fX5_its (nI g) 1 S = some (S 42 (18 + 6 * g), S) := by
  have := its_n hg (w := 1) (by decide) S
  rw [show 17 + 6 * g + 1 = 18 + 6 * g by omega] at this
  exact this
theorem its2 {g : Nat} (hg : g < 8) (S : St) : fX5_its (nI g) 2 S = some (S 42 (19 + 6 * g), S) := by
  have := its_n hg (w := 2) (by decide) S
  rw [show 17 + 6 * g + 2 = 19 + 6 * g by omega] at this
  exact this
theorem its3 {g : Nat} (hg : g < 8) (S : St) : fX5_its (nI g) 3 S = some (S 42 (20 + 6 * g), S) := by
  have := its_n hg (w := 3) (by decide) S
  rw [show 17 + 6 * g + 3 = 20 + 6 * g by omega] at this
  exact this
theorem its4 {g : Nat} (hg : g < 8) (S : St) : fX5_its (nI g) 4 S = some (S 42 (21 + 6 * g), S) := by
  have := its_n hg (w := 4) (by decide) S
  rw [show 17 + 6 * g + 4 = 21 + 6 * g by omega] at this
  exact this
theorem its5 {g : Nat} (hg : g < 8) (S : St) : fX5_its (nI g) 5 S = some (S 42 (22 + 6 * g), S) := by
  have := its_n hg (w := 5) (by decide) S
  rw [show 17 + 6 * g + 5 = 22 + 6 * g by omega] at this
  exact this
/-! sets of goats and of pages -/
/-- the goats on a ledge, but those of 'go' -/
def onF (T : Row) (go l : Int32) : Nat → Int32
  | 0 => 0
  | g + 1 => if tb go g = true then onF T go l g else if T (18 + 6 * g) = l then onF T go l g ||| b1 g else onF T go l g
/-- the pages of a set of goats -/
def knF (T : Row) (s : Int32) : Nat → Int32
  | 0 => 0
  | g + 1 => if tb s g = true then knF T s g ||| T (19 + 6 * g) else knF T s g
theorem nI_le' {a b : Nat} (ha : a < 2 ^ 31) (hb : b < 2 ^ 31) : nI a ≤ nI b ↔ a ≤ b := nI_leI ha hb
theorem there_loop {S : St} {l : Int32} (hV : VT (S 42)) : ∀ (f i : Nat), i ≤ nN (S 42) → nN (S 42) - i < f → fX5_there_L4 f l (onF (S 42) 0 l i) (nI i) S = some (onF (S 42) 0 l (nN (S 42)), S)
  | 0, i, h1, h2 => by omega
  | f + 1, i, h1, h2 => by
    have h8 := hV.n8
    unfold fX5_there_L4
    rw [rd0, hV.n]
    by_cases hi : nN (S 42) ≤ i
    · rw [if_pos (nI_le hi (by omega)), show i = nN (S 42) by omega]
    · rw [if_neg (nI_ge (by omega) (by omega)), cl_s (its1 (by omega) S)]
      have ih := there_loop (l := l) hV f (i + 1) (by omega) (by omega)
      have e : onF (S 42) 0 l (i + 1) = if S 42 (18 + 6 * i) = l then onF (S 42) 0 l i ||| b1 i else onF (S 42) 0 l i := by
        rw [onF, tb_0, if_neg (by decide)]
      unfold fX5_there_L32
      simp only [bnd_s]
      rw [nI_1]
      by_cases hl : S 42 (18 + 6 * i) = l
      · rw [if_pos hl] at e ⊢
        rw [e] at ih
        exact ih
      · rw [if_neg hl] at e ⊢
        rw [e] at ih
        rw [i_or0]
        exact ih
theorem there_eq {S : St} (l : Int32) (hV : VT (S 42)) : fX5_there l S = some (onF (S 42) 0 l (nN (S 42)), S) := there_loop hV FU 0 (by omega) (by have := hV.n8; unfold FU; omega)
theorem known_loop {S : St} {s : Int32} (hV : VT (S 42)) : ∀ (f i : Nat), i ≤ nN (S 42) → nN (S 42) - i < f → fX5_known_L4 f s (knF (S 42) s i) (nI i) S = some (knF (S 42) s (nN (S 42)), S)
  | 0, i, h1, h2 => by omega
  | f + 1, i, h1, h2 => by
    have h8 := hV.n8
    unfold fX5_known_L4
    rw [rd0, hV.n]
    by_cases hi : nN (S 42) ≤ i
    · rw [if_pos (nI_le hi (by omega)), show i = nN (S 42) by omega]
    · rw [if_neg (nI_ge (by omega) (by omega)), cl_s (its2 (by omega) S)]
      have ih := known_loop (s := s) hV f (i + 1) (by omega) (by omega)
      unfold fX5_known_L34
      simp only [bnd_s]
      rw [nI_1]
      by_cases hl : tb s i = true
      · rw [if_pos ((shr_1 s (by omega)).mpr hl)]
        rw [knF, if_pos hl] at ih
        exact ih
      · rw [if_neg (fun q => hl ((shr_1 s (by omega)).mp q))]
        rw [knF, if_neg hl] at ih
        rw [i_or0]
        exact ih
theorem known_eq {S : St} (s : Int32) (hV : VT (S 42)) : fX5_known s S = some (knF (S 42) s (nN (S 42)), S) := known_loop hV FU 0 (by omega) (by have := hV.n8; unfold FU; omega)
theorem isHere_eq {b g : Nat} {T : Row} {go : Int32} {S : St} (hR : Rep b T go S) (hg : g < 31) : fX0_isHere b (nI g) S = some (b2i (¬ tb go g = true), S) := by
  unfold fX0_isHere fX0_isHere_L16
  rw [hR.go, shr_bit go hg, retN_0, retN_1]
  cases tb go g <;> simp [b2i]
theorem on_loop {b : Nat} {T : Row} {go l : Int32} {S : St} (hR : Rep b T go S) (hV : VT T) : ∀ (f i : Nat), i ≤ nN T → nN T - i < f → fX0_goatsOn_L4 b f l (onF T go l i) (nI i) S = some (onF T go l (nN T), S)
  | 0, i, h1, h2 => by omega
  | f + 1, i, h1, h2 => by
    have h8 := hV.n8
    unfold fX0_goatsOn_L4
    rw [hR.n, hV.n]
    by_cases hi : nN T ≤ i
    · rw [if_pos (nI_le hi (by omega)), show i = nN T by omega]
    · rw [if_neg (nI_ge (by omega) (by omega)), cl_s (isHere_eq hR (by omega))]
      have ih := on_loop (l := l) hR hV f (i + 1) (by omega) (by omega)
      unfold fX0_goatsOn_L36
      simp only [bnd_s]
      rw [nI_1, rd_n (by omega) (by decide), hR.ld (by omega)]
      rw [onF] at ih
      by_cases hg : tb go i = true
      · rw [b2i_f (fun q => q hg), if_pos rfl]
        rw [if_pos hg] at ih
        exact ih
      · rw [b2i_t hg, if_neg one_ne]
        rw [if_neg hg] at ih
        by_cases hl : T (18 + 6 * i) = l
        · rw [if_pos hl] at ih ⊢
          exact ih
        · rw [if_neg hl] at ih ⊢
          exact ih
theorem on_eq {b : Nat} {T : Row} {go : Int32} {S : St} (l : Int32) (hR : Rep b T go S) (hV : VT T) : fX0_goatsOn b l S = some (onF T go l (nN T), S) := on_loop hR hV FU 0 (by omega) (by have := hV.n8; unfold FU; omega)
theorem pof_loop {b : Nat} {T : Row} {go s : Int32} {S : St} (hR : Rep b T go S) (hV : VT T) : ∀ (f i : Nat), i ≤ nN T → nN T - i < f → fX0_pagesOf_L4 b f s (knF T s i) (nI i) S = some (knF T s (nN T), S)
  | 0, i, h1, h2 => by omega
  | f + 1, i, h1, h2 => by
    have h8 := hV.n8
    unfold fX0_pagesOf_L4
    rw [hR.n, hV.n]
    by_cases hi : nN T ≤ i
    · rw [if_pos (nI_le hi (by omega)), show i = nN T by omega]
    · rw [if_neg (nI_ge (by omega) (by omega)), cl_s (hasBit_eq s (by omega) S)]
      have ih := pof_loop (s := s) hR hV f (i + 1) (by omega) (by omega)
      unfold fX0_pagesOf_L29
      simp only [bnd_s]
      rw [nI_1, rd_n (by omega) (by decide), hR.kn (by omega)]
      rw [knF] at ih
      by_cases hg : tb s i = true
      · rw [b2i_t hg, if_neg one_ne]
        rw [if_pos hg] at ih
        exact ih
      · rw [b2i_f hg, if_pos rfl]
        rw [if_neg hg] at ih
        exact ih
theorem pof_eq {b : Nat} {T : Row} {go : Int32} {S : St} (s : Int32) (hR : Rep b T go S) (hV : VT T) : fX0_pagesOf b s S = some (knF T s (nN T), S) := pof_loop hR hV FU 0 (by omega) (by have := hV.n8; unfold FU; omega)
theorem tb_on {T : Row} {go l : Int32} : ∀ (n : Nat), n ≤ 30 → ∀ h, tb (onF T go l n) h = decide (h < n ∧ tb go h = false ∧ T (18 + 6 * h) = l)
  | 0, _, h => by simp [onF, tb_0]
  | n + 1, hn, h => by
    have ih := tb_on (T := T) (go := go) (l := l) n (by omega) h
    rw [onF]
    by_cases hg : tb go n = true
    · rw [if_pos hg, ih]
      by_cases e : h = n
      · subst e; simp [hg]
      · have : h < n + 1 ↔ h < n := by omega
        simp [this]
    · rw [if_neg hg]
      have hg2 : tb go n = false := by simpa using hg
      by_cases hl : T (18 + 6 * n) = l
      · rw [if_pos hl, tb_or, ih, tb_b1 (by omega)]
        by_cases e : h = n
        · subst e; simp [hg2, hl]
        · have : h < n + 1 ↔ h < n := by omega
          simp [this, e]
      · rw [if_neg hl, ih]
        by_cases e : h = n
        · subst e; simp [hl]
        · have : h < n + 1 ↔ h < n := by omega
          simp [this]
theorem pon_loop {b : Nat} {T : Row} {go l : Int32} {S : St} (hR : Rep b T go S) (hV : VT T) : ∀ (f i : Nat), i ≤ nN T → nN T - i < f → fX0_pagesOn_L4 b f l (knF T (onF T go l (nN T)) i) (nI i) S = some (knF T (onF T go l (nN T)) (nN T), S)
  | 0, i, h1, h2 => by omega
  | f + 1, i, h1, h2 => by
    have h8 := hV.n8
    unfold fX0_pagesOn_L4
    rw [hR.n, hV.n]
    by_cases hi : nN T ≤ i
    · rw [if_pos (nI_le hi (by omega)), show i = nN T by omega]
    · rw [if_neg (nI_ge (by omega) (by omega)), cl_s (isHere_eq hR (by omega))]
      have ih := pon_loop (l := l) hR hV f (i + 1) (by omega) (by omega)
      have ht := tb_on (T := T) (go := go) (l := l) (nN T) (by omega) i
      unfold fX0_pagesOn_L39
      simp only [bnd_s]
      rw [nI_1, rd_n (by omega) (by decide), hR.ld (by omega), rd_n (by omega) (by decide), hR.kn (by omega)]
      rw [knF] at ih
      by_cases hg : tb go i = true
      · rw [b2i_f (fun q => q hg), if_pos rfl]
        rw [ht, if_neg (by simp [hg])] at ih
        exact ih
      · rw [b2i_t hg, if_neg one_ne]
        by_cases hl : T (18 + 6 * i) = l
        · rw [ht, if_pos (by simp [hg, hl]; omega)] at ih
          rw [if_pos hl]
          exact ih
        · rw [ht, if_neg (by simp [hl])] at ih
          rw [if_neg hl]
          exact ih
theorem pon_eq {b : Nat} {T : Row} {go : Int32} {S : St} (l : Int32) (hR : Rep b T go S) (hV : VT T) : fX0_pagesOn b l S = some (knF T (onF T go l (nN T)) (nN T), S) := pon_loop hR hV FU 0 (by omega) (by have := hV.n8; unfold FU; omega)
theorem knF_cong {T : Row} {s s' : Int32} : ∀ (n : Nat), (∀ g, g < n → tb s g = tb s' g) → knF T s n = knF T s' n
  | 0, _ => rfl
  | n + 1, h => by
    rw [knF, knF, h n (by omega), knF_cong n (fun g hg => h g (by omega))]
/-- all that is known by those that are here -/
def kaF (T : Row) (go : Int32) : Int32 := knF T (go ^^^ (-1)) (nN T)
theorem pkn_eq {b : Nat} {T : Row} {go : Int32} {S : St} (hR : Rep b T go S) (hV : VT T) : fX0_pagesKnown b S = some (kaF T go, S) := by
  unfold fX0_pagesKnown
  rw [hR.go, cl_s (pof_eq _ hR hV)]
  rfl
theorem prn_eq {b p : Nat} {T : Row} {go : Int32} {S : St} (hR : Rep b T go S) (hV : VT T) (hp : p < 31) : fX0_isInPrint b (nI p) S = some (b2i (tb (kaF T go) p = true), S) := by
  unfold fX0_isInPrint
  rw [cl_s (pkn_eq hR hV), cl_s (hasBit_eq _ hp S)]
  unfold b2i
  split
  · exact retN_1 S
  · exact retN_0 S
theorem tb_255 : ∀ g, g < 8 → tb 255 g = true := by decide
theorem ka_eq {S : St} (hV : VT (S 42)) : fX5_knownAll S = some (kaF (S 42) 0, S) := by
  unfold fX5_knownAll
  rw [cl_s (known_eq 255 hV)]
  unfold kaF
  rw [knF_cong (s := 255) (s' := 0 ^^^ (-1)) _ (fun g hg => by rw [tb_255 g (by have := hV.n8; omega), tb_not _ (by have := hV.n8; omega), tb_0]; rfl)]
/-- what the model reckons with a set away is what those that are here know -/
theorem kb_eq {S : St} {go : Int32} (hV : VT (S 42)) : fX5_known (255 &&& (go ^^^ (-1))) S = some (kaF (S 42) go, S) := by
  rw [known_eq _ hV]
  unfold kaF
  rw [knF_cong (s := 255 &&& (go ^^^ (-1))) (s' := go ^^^ (-1)) _ (fun g hg => by rw [tb_and, tb_255 g (by have := hV.n8; omega), Bool.true_and])]
