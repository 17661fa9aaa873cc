/-! What is told of a row: cost, sums, the wisest, who knows; guards; findings. -/
def csT (T : Row) (g : Nat) : Int32 :=
  if T (17 + 6 * g) = 1 then 2 + T (18 + 6 * g)
  else if T (17 + 6 * g) = 2 then 2 + nI (bcN (knN T g)) / 2
  else if T (17 + 6 * g) = 3 then 2 + nI (bcN (knN T g)) / 2 - 1
  else if T (17 + 6 * g) = 4 then (2 + nI (bcN (knN T g)) / 2 - 1) + T (20 + 6 * g) / 10
  else if T (17 + 6 * g) = 5 then 99
  else if T (17 + 6 * g) = 6 then (2 + T (18 + 6 * g)) / 2
  else 2
theorem costs_m {S : St} (hV : VT (S 42)) {g : Nat} (hg : g < 8) : fX5_costs (nI g) S = some (csT (S 42) g, S) := by
  obtain ⟨hk, ek⟩ := hV.kn hg
  unfold fX5_costs csT
  rw [cl_s (its2 hg S), ek, cl_s (many_eq hk S), bnd_s, cl_s (its0 hg S), cl_s (its1 hg S), cl_s (its3 hg S), cl_s (its1 hg S)]
  simp only [ite_s]
theorem costs_c {b g : Nat} {T : Row} {go : Int32} {S : St} (hR : Rep b T go S) (hV : VT T) (hg : g < 8) : fX0_costs b (nI g) S = some (csT T g, S) := by
  obtain ⟨hk, ek⟩ := hV.kn hg
  unfold fX0_costs csT
  rw [rd_n hg (by decide), bnd_s, rd_n hg (by decide), hR.kn hg, ek, cl_s (bitCount_eq hk S), bnd_s, rd_n hg (by decide), rd_n hg (by decide), hR.kd hg, hR.ld hg, hR.ag hg]
  simp only [ite_s]
/-! sums -/
def gsF (T : Row) : Nat → Int32
  | 0 => 0
  | l + 1 => gsF T l + T (5 + l)
def fsF (T : Row) : Nat → Int32
  | 0 => 0
  | g + 1 => fsF T g + T (21 + 6 * g)
def lsF (T : Row) : Nat → Int32
  | 0 => 0
  | g + 1 => lsF T g ||| ((1 : Int32) <<< (T (18 + 6 * g) &&& 31))
theorem gs_m {S : St} : ∀ (f i : Nat), i ≤ 12 → 12 - i < f → fX5_grassAll_L4 f (gsF (S 42) i) (nI i) S = some (gsF (S 42) 12, S)
  | 0, i, h1, h2 => by omega
  | f + 1, i, h1, h2 => by
    unfold fX5_grassAll_L4
    by_cases hi : 12 ≤ i
    · rw [if_pos (ps12 hi (by omega)), show i = 12 by omega]
    · rw [if_neg (ng12 (by omega)), n5, rd_n (by omega) (by decide), bnd_s, bnd_s, nI_1]
      exact gs_m f (i + 1) (by omega) (by omega)
theorem grassAll_m (S : St) : fX5_grassAll S = some (gsF (S 42) 12, S) := gs_m FU 0 (by omega) (by unfold FU; omega)
theorem gs_c {b : Nat} {T : Row} {go : Int32} {S : St} (hR : Rep b T go S) : ∀ (f i : Nat), i ≤ 12 → 12 - i < f → fX0_grassInAll_L4 b f (gsF T i) (nI i) S = some (gsF T 12, S)
  | 0, i, h1, h2 => by omega
  | f + 1, i, h1, h2 => by
    unfold fX0_grassInAll_L4
    by_cases hi : 12 ≤ i
    · rw [if_pos (ps12 hi (by omega)), show i = 12 by omega]
    · rw [if_neg (ng12 (by omega)), rd_n (by omega) (by decide), hR.gr (by omega), bnd_s, bnd_s, nI_1]
      exact gs_c hR f (i + 1) (by omega) (by omega)
theorem grassAll_c {b : Nat} {T : Row} {go : Int32} {S : St} (hR : Rep b T go S) : fX0_grassInAll b S = some (gsF T 12, S) := gs_c hR FU 0 (by omega) (by unfold FU; omega)
theorem fs_m {S : St} (hV : VT (S 42)) : ∀ (f i : Nat), i ≤ nN (S 42) → nN (S 42) - i < f → fX5_now_L73 f (fsF (S 42) i) (nI i) S = some (fsF (S 42) (nN (S 42)), S)
  | 0, i, h1, h2 => by omega
  | f + 1, i, h1, h2 => by
    have h8 := hV.n8
    unfold fX5_now_L73
    rw [rd0, hV.n]
    by_cases hi : nN (S 42) ≤ i
    · rw [if_pos (nI_le hi (by omega)), show i = nN (S 42) by omega]
    · rw [if_neg (nI_ge (by omega) (by omega)), cl_s (its4 (by omega) S), bnd_s, bnd_s, nI_1]
      exact fs_m hV f (i + 1) (by omega) (by omega)
theorem fedAll_m {S : St} (hV : VT (S 42)) : fX5_now_L73 FU 0 0 S = some (fsF (S 42) (nN (S 42)), S) := fs_m hV FU 0 (by omega) (by have := hV.n8; unfold FU; omega)
theorem fs_c {b : Nat} {T : Row} {go : Int32} {S : St} (hR : Rep b T go S) (hV : VT T) : ∀ (f i : Nat), i ≤ nN T → nN T - i < f → fX0_fedInAll_L4 b f (fsF T i) (nI i) S = some (fsF T (nN T), S)
  | 0, i, h1, h2 => by omega
  | f + 1, i, h1, h2 => by
    have h8 := hV.n8
    unfold fX0_fedInAll_L4
    rw [hR.n, hV.n]
    by_cases hi : nN T ≤ i
    · rw [if_pos (nI_le hi (by omega)), show i = nN T by omega]
    · rw [if_neg (nI_ge (by omega) (by omega)), rd_n (by omega) (by decide), hR.fe (by omega), bnd_s, bnd_s, nI_1]
      exact fs_c hR hV f (i + 1) (by omega) (by omega)
theorem fedAll_c {b : Nat} {T : Row} {go : Int32} {S : St} (hR : Rep b T go S) (hV : VT T) : fX0_fedInAll b S = some (fsF T (nN T), S) := fs_c hR hV FU 0 (by omega) (by have := hV.n8; unfold FU; omega)
theorem ls_m {S : St} (hV : VT (S 42)) : ∀ (f i : Nat), i ≤ nN (S 42) → nN (S 42) - i < f → fX5_livedOn_L4 f (lsF (S 42) i) (nI i) S = some (lsF (S 42) (nN (S 42)), S)
  | 0, i, h1, h2 => by omega
  | f + 1, i, h1, h2 => by
    have h8 := hV.n8
    unfold fX5_livedOn_L4
    rw [rd0, hV.n]
    by_cases hi : nN (S 42) ≤ i
    · rw [if_pos (nI_le hi (by omega)), show i = nN (S 42) by omega]
    · rw [if_neg (nI_ge (by omega) (by omega)), cl_s (its1 (by omega) S), bnd_s, bnd_s, nI_1]
      exact ls_m hV f (i + 1) (by omega) (by omega)
theorem lived_m {S : St} (hV : VT (S 42)) : fX5_livedOn S = some (lsF (S 42) (nN (S 42)), S) := ls_m hV FU 0 (by omega) (by have := hV.n8; unfold FU; omega)
theorem ls_c {b : Nat} {T : Row} {go : Int32} {S : St} (hR : Rep b T go S) (hV : VT T) : ∀ (f i : Nat), i ≤ nN T → nN T - i < f → fX0_ledgesWithGoats_L4 b f (lsF T i) (nI i) S = some (lsF T (nN T), S)
  | 0, i, h1, h2 => by omega
  | f + 1, i, h1, h2 => by
    have h8 := hV.n8
    unfold fX0_ledgesWithGoats_L4
    rw [hR.n, hV.n]
    by_cases hi : nN T ≤ i
    · rw [if_pos (nI_le hi (by omega)), show i = nN T by omega]
    · rw [if_neg (nI_ge (by omega) (by omega)), rd_n (by omega) (by decide), hR.ld (by omega), bnd_s, bnd_s, nI_1]
      exact ls_c hR hV f (i + 1) (by omega) (by omega)
theorem lived_c {b : Nat} {T : Row} {go : Int32} {S : St} (hR : Rep b T go S) (hV : VT T) : fX0_ledgesWithGoats b S = some (lsF T (nN T), S) := ls_c hR hV FU 0 (by omega) (by have := hV.n8; unfold FU; omega)
/-! the wisest: wsN T i among the first i + 1 -/
def wsN (T : Row) : Nat → Nat
  | 0 => 0
  | i + 1 => if bcN (knN T (i + 1)) ≤ bcN (knN T (wsN T i)) then wsN T i else i + 1
theorem wsN_le (T : Row) : ∀ i, wsN T i ≤ i
  | 0 => Nat.le_refl 0
  | i + 1 => by
    have := wsN_le T i
    unfold wsN
    split <;> omega
def wsI (T : Row) : Int32 := if nN T = 0 then -1 else nI (wsN T (nN T - 1))
theorem ws_m {S : St} (hV : VT (S 42)) : ∀ (f i : Nat), i + 1 ≤ nN (S 42) → nN (S 42) - i < f → fX5_wisest_L17 f (nI (wsN (S 42) i)) (nI (i + 1)) S = some (nI (wsN (S 42) (nN (S 42) - 1)), S)
  | 0, i, h1, h2 => by omega
  | f + 1, i, h1, h2 => by
    have h8 := hV.n8
    have hw := wsN_le (S 42) i
    unfold fX5_wisest_L17
    rw [rd0, hV.n]
    by_cases hi : nN (S 42) ≤ i + 1
    · rw [if_pos (nI_le hi (by omega)), show nN (S 42) - 1 = i by omega]
    · obtain ⟨a1, a2⟩ := hV.kn (g := i + 1) (by omega)
      obtain ⟨c1, c2⟩ := hV.kn (g := wsN (S 42) i) (by omega)
      have ih := ws_m hV f (i + 1) (by omega) (by omega)
      have u1 := @bc_le (knN (S 42) (i + 1))
      have u2 := @bc_le (knN (S 42) (wsN (S 42) i))
      rw [if_neg (nI_ge (by omega) (by omega)), cl_s (its2 (by omega) S), a2, cl_s (many_eq a1 S), cl_s (its2 (by omega) S), c2, cl_s (many_eq c1 S)]
      unfold fX5_wisest_L53
      simp only [bnd_s]
      rw [nI_1]
      rw [wsN] at ih
      by_cases hb : bcN (knN (S 42) (i + 1)) ≤ bcN (knN (S 42) (wsN (S 42) i))
      · rw [if_pos hb] at ih
        rw [if_pos (nI_le hb (by omega))]
        exact ih
      · rw [if_neg hb] at ih
        rw [if_neg (nI_ge (by omega) (by omega))]
        exact ih
theorem wisest_m {S : St} (hV : VT (S 42)) : fX5_wisest S = some (wsI (S 42), S) := by
  have h8 := hV.n8
  unfold fX5_wisest fX5_wisest_L14 wsI
  rw [rd0, hV.n]
  by_cases h0 : nN (S 42) = 0
  · rw [h0, if_pos (by decide), if_pos rfl]
    show fX5_wisest_L17 (1023 + 1) (-1) 1 S = _
    unfold fX5_wisest_L17
    rw [rd0, hV.n, h0, if_pos (by decide)]
  · rw [if_neg (nI_ne0 (by omega) (by omega)), if_neg h0]
    exact ws_m hV FU 0 (by omega) (by unfold FU; omega)
theorem ws_c {b : Nat} {T : Row} {go : Int32} {S : St} (hR : Rep b T go S) (hV : VT T) : ∀ (f i : Nat), i + 1 ≤ nN T → nN T - i < f → fX0_wisest_L4 b f (nI (wsN T i)) (nI (i + 1)) S = some (nI (wsN T (nN T - 1)), S)
  | 0, i, h1, h2 => by omega
  | f + 1, i, h1, h2 => by
    have h8 := hV.n8
    have hw := wsN_le T i
    unfold fX0_wisest_L4
    rw [hR.n, hV.n]
    by_cases hi : nN T ≤ i + 1
    · rw [if_pos (nI_le hi (by omega)), show nN T - 1 = i by omega]
    · obtain ⟨a1, a2⟩ := hV.kn (g := i + 1) (by omega)
      obtain ⟨c1, c2⟩ := hV.kn (g := wsN T i) (by omega)
      have ih := ws_c hR hV f (i + 1) (by omega) (by omega)
      have u1 := @bc_le (knN T (i + 1))
      have u2 := @bc_le (knN T (wsN T i))
      rw [if_neg (nI_ge (by omega) (by omega)), if_neg (nI_pos (by omega)), rd_n (by omega) (by decide), hR.kn (by omega), a2, cl_s (bitCount_eq a1 S), rd_n (by omega) (by decide), hR.kn (by omega), c2, cl_s (bitCount_eq c1 S)]
      unfold fX0_wisest_L37 fX0_wisest_L39
      simp only [bnd_s]
      rw [nI_1]
      rw [wsN] at ih
      by_cases hb : bcN (knN T (i + 1)) ≤ bcN (knN T (wsN T i))
      · rw [if_pos hb] at ih
        rw [if_pos (nI_le hb (by omega))]
        exact ih
      · rw [if_neg hb] at ih
        rw [if_neg (nI_ge (by omega) (by omega))]
        exact ih
theorem wisest_c {b : Nat} {T : Row} {go : Int32} {S : St} (hR : Rep b T go S) (hV : VT T) : fX0_wisest b S = some (wsI T, S) := by
  have h8 := hV.n8
  unfold fX0_wisest wsI
  show fX0_wisest_L4 b (1023 + 1) (-1) (nI 0) S = _
  unfold fX0_wisest_L4
  rw [hR.n, hV.n]
  by_cases h0 : nN T = 0
  · rw [h0, if_pos (by decide), if_pos rfl]
  · rw [if_neg (nI_ge (by omega) (by omega)), if_pos (by decide), if_neg h0]
    unfold fX0_wisest_L37 fX0_wisest_L39
    simp only [bnd_s]
    exact ws_c hR hV 1023 0 (by omega) (by omega)
/-! who knows a page -/
def whF (T : Row) (go : Int32) (p : Nat) : Nat → Int32
  | 0 => 0
  | g + 1 => if tb go g = true then whF T go p g else if tb (T (19 + 6 * g)) p = true then whF T go p g ||| b1 g else whF T go p g
theorem wh_m {S : St} {p : Nat} (hV : VT (S 42)) (hp : p < 31) : ∀ (f i : Nat), i ≤ nN (S 42) → nN (S 42) - i < f → fX5_who_L18 f (nI p) (whF (S 42) 0 p i) (nI i) S = some (whF (S 42) 0 p (nN (S 42)), S)
  | 0, i, h1, h2 => by omega
  | f + 1, i, h1, h2 => by
    have h8 := hV.n8
    unfold fX5_who_L18
    rw [rd0, hV.n]
    by_cases hi : nN (S 42) ≤ i
    · rw [if_pos (nI_le hi (by omega)), show i = nN (S 42) by omega]
    · rw [if_neg (nI_ge (by omega) (by omega)), cl_s (its2 (by omega) S)]
      have ih := wh_m hV hp f (i + 1) (by omega) (by omega)
      have e : whF (S 42) 0 p (i + 1) = if tb (S 42 (19 + 6 * i)) p = true then whF (S 42) 0 p i ||| b1 i else whF (S 42) 0 p i := by
        rw [whF, tb_0, if_neg (by decide)]
      unfold fX5_who_L50
      simp only [bnd_s]
      rw [nI_1]
      by_cases hl : tb (S 42 (19 + 6 * i)) p = true
      · rw [if_pos hl] at e
        rw [if_pos ((shr_1 _ hp).mpr hl)]
        rw [e] at ih
        exact ih
      · rw [if_neg hl] at e
        rw [if_neg (fun q => hl ((shr_1 _ hp).mp q))]
        rw [e] at ih
        rw [i_or0]
        exact ih
theorem who_m {S : St} {p : Nat} (hV : VT (S 42)) (hp : p < 31) : fX5_who_L18 FU (nI p) 0 0 S = some (whF (S 42) 0 p (nN (S 42)), S) := wh_m hV hp FU 0 (by omega) (by have := hV.n8; unfold FU; omega)
theorem wh_c {b p : Nat} {T : Row} {go : Int32} {S : St} (hR : Rep b T go S) (hV : VT T) (hp : p < 31) : ∀ (f i : Nat), i ≤ nN T → nN T - i < f → fX0_goatsKnowing_L4 b f (nI p) (whF T go p i) (nI i) S = some (whF T go p (nN T), S)
  | 0, i, h1, h2 => by omega
  | f + 1, i, h1, h2 => by
    have h8 := hV.n8
    unfold fX0_goatsKnowing_L4
    rw [hR.n, hV.n]
    by_cases hi : nN T ≤ i
    · rw [if_pos (nI_le hi (by omega)), show i = nN T by omega]
    · rw [if_neg (nI_ge (by omega) (by omega)), cl_s (isHere_eq hR (by omega))]
      have ih := wh_c hR hV hp f (i + 1) (by omega) (by omega)
      unfold fX0_goatsKnowing_L39
      simp only [bnd_s]
      rw [nI_1, rd_n (by omega) (by decide), hR.kn (by omega), cl_s (hasBit_eq _ hp S)]
      rw [whF] at ih
      by_cases hg : tb go i = true
      · rw [b2i_f (fun q => q hg), if_pos rfl]
        rw [if_pos hg] at ih
        exact ih
      · rw [b2i_t hg, if_neg one_ne]
        rw [if_neg hg] at ih
        by_cases hl : tb (T (19 + 6 * i)) p = true
        · rw [if_pos hl] at ih
          rw [b2i_t hl, if_neg one_ne]
          exact ih
        · rw [if_neg hl] at ih
          rw [b2i_f hl, if_pos rfl]
          exact ih
theorem who_c {b p : Nat} {T : Row} {go : Int32} {S : St} (hR : Rep b T go S) (hV : VT T) (hp : p < 31) : fX0_goatsKnowing b (nI p) S = some (whF T go p (nN T), S) := wh_c hR hV hp FU 0 (by omega) (by have := hV.n8; unfold FU; omega)
/-! guards -/
abbrev inR (a m : Int32) : Prop := ¬ a < 0 ∧ ¬ m ≤ a
theorem inR_n {a : Int32} {m : Nat} (hm : m < 2 ^ 31) (h : inR a (nI m)) : ∃ j, j < m ∧ a = nI j := by
  obtain ⟨j, h1, h2⟩ := nI_of h.1
  refine ⟨j, ?_, h2⟩
  have h3 := h.2
  rw [h2] at h3
  exact Nat.not_le.mp (fun q => h3 (nI_le q h1))
theorem ledgeG_c (a : Int32) (S : St) : fX4_isLedge a S = some (b2i (inR a 12), S) := by
  unfold fX4_isLedge fX4_isLedge_L14 fX4_isLedge_L15
  by_cases h1 : a < 0
  · rw [if_pos h1, b2i_f (fun q => q.1 h1), retN_0]
  · by_cases h2 : (12 : Int32) ≤ a
    · rw [if_neg h1, if_pos h2, b2i_f (fun q => q.2 h2), retN_0]
    · rw [if_neg h1, if_neg h2, b2i_t ⟨h1, h2⟩, retN_1]
theorem ledgeG_m (a : Int32) (S : St) : fX5_isLedge a S = some (b2i (inR a 12), S) := by
  unfold fX5_isLedge fX5_isLedge_L14 fX5_isLedge_L15
  by_cases h1 : a < 0
  · rw [if_pos h1, b2i_f (fun q => q.1 h1), retN_0]
  · by_cases h2 : (12 : Int32) ≤ a
    · rw [if_neg h1, if_pos h2, b2i_f (fun q => q.2 h2), retN_0]
    · rw [if_neg h1, if_neg h2, b2i_t ⟨h1, h2⟩, retN_1]
theorem pageG_c (a : Int32) (S : St) : fX4_isPage a S = some (b2i (inR a 16), S) := by
  unfold fX4_isPage fX4_isPage_L14 fX4_isPage_L15
  by_cases h1 : a < 0
  · rw [if_pos h1, b2i_f (fun q => q.1 h1), retN_0]
  · by_cases h2 : (16 : Int32) ≤ a
    · rw [if_neg h1, if_pos h2, b2i_f (fun q => q.2 h2), retN_0]
    · rw [if_neg h1, if_neg h2, b2i_t ⟨h1, h2⟩, retN_1]
theorem pageG_m (a : Int32) (S : St) : fX5_isPage a S = some (b2i (inR a 16), S) := by
  unfold fX5_isPage fX5_isPage_L14 fX5_isPage_L15
  by_cases h1 : a < 0
  · rw [if_pos h1, b2i_f (fun q => q.1 h1), retN_0]
  · by_cases h2 : (16 : Int32) ≤ a
    · rw [if_neg h1, if_pos h2, b2i_f (fun q => q.2 h2), retN_0]
    · rw [if_neg h1, if_neg h2, b2i_t ⟨h1, h2⟩, retN_1]
theorem kindG_c (a : Int32) (S : St) : fX4_isKind a S = some (b2i (inR a 7), S) := by
  unfold fX4_isKind fX4_isKind_L14 fX4_isKind_L15
  by_cases h1 : a < 0
  · rw [if_pos h1, b2i_f (fun q => q.1 h1), retN_0]
  · by_cases h2 : (7 : Int32) ≤ a
    · rw [if_neg h1, if_pos h2, b2i_f (fun q => q.2 h2), retN_0]
    · rw [if_neg h1, if_neg h2, b2i_t ⟨h1, h2⟩, retN_1]
theorem goatG_m (a : Int32) (S : St) : fX5_isGoat a S = some (b2i (inR a (S 42 0)), S) := by
  unfold fX5_isGoat fX5_isGoat_L18 fX5_isGoat_L19
  rw [rd0]
  by_cases h1 : a < 0
  · rw [if_pos h1, b2i_f (fun q => q.1 h1), retN_0]
  · by_cases h2 : S 42 0 ≤ a
    · rw [if_neg h1, if_pos h2, b2i_f (fun q => q.2 h2), retN_0]
    · rw [if_neg h1, if_neg h2, b2i_t ⟨h1, h2⟩, retN_1]
theorem goatG_c {T : Row} {go : Int32} (a : Int32) {S : St} (hR : Rep 1 T go S) : fX4_isGoat a S = some (b2i (inR a (T 0)), S) := by
  unfold fX4_isGoat fX4_isGoat_L19 fX4_isGoat_L20
  rw [hR.n]
  by_cases h1 : a < 0
  · rw [if_pos h1, b2i_f (fun q => q.1 h1), retN_0]
  · by_cases h2 : T 0 ≤ a
    · rw [if_neg h1, if_pos h2, b2i_f (fun q => q.2 h2), retN_0]
    · rw [if_neg h1, if_neg h2, b2i_t ⟨h1, h2⟩, retN_1]
theorem withinG_c (a m : Int32) (S : St) : fX4_isWithin a m S = some (b2i (¬ a < 0 ∧ ¬ m < a), S) := by
  unfold fX4_isWithin fX4_isWithin_L13 fX4_isWithin_L14
  by_cases h1 : a < 0
  · rw [if_pos h1, b2i_f (fun q => q.1 h1), retN_0]
  · by_cases h2 : m < a
    · rw [if_neg h1, if_pos h2, b2i_f (fun q => q.2 h2), retN_0]
    · rw [if_neg h1, if_neg h2, b2i_t ⟨h1, h2⟩, retN_1]
/-! findings -/
def cnC (k : Nat) (S : St) : St := up2 S 40 k (S 40 k + 1)
def cnM (k : Nat) (S : St) : St := upR S 46 (upd (upd (S 46) 0 (S 46 0 + 1)) (k + 1) (S 46 (k + 1) + 1))
theorem found_c {c : Int32} {k : Nat} (hk : k < 7) (hc : (-1000001) - c = nI k) (S : St) : fX4_found c S = some (c, cnC k S) := by
  unfold fX4_found fX4_found_L25
  rw [hc, bnd_s, if_neg (nI_pos (by omega)), show (7 : Int32) = nI 7 from rfl, if_neg (nI_ge hk (by decide)), rd_n hk (by decide), wr_n hk (by decide)]
  rfl
theorem finds_m {c : Int32} {k : Nat} (hk : k < 7) (hc : (-1000001) - c = nI k) (S : St) : fX5_finds c S = some (c, cnM k S) := by
  unfold fX5_finds
  rw [hc, rd_l (i := 0) 0 rfl (by decide) (by decide), wr_l (i := 0) 0 rfl (by decide) (by decide), nI_1, rd_n (by omega) (by decide), wr_n (by omega) (by decide), up2_qq, upd_n (by omega), upR_up2, up2_qq, upR_up2, upR_upR]
  rfl
theorem lt_l (a c : Int32) : a.toInt64 < c.toInt64 ↔ a < c := by
  rw [Int64.lt_iff_toInt_lt, Int32.lt_iff_toInt_lt, Int32.toInt_toInt64, Int32.toInt_toInt64]
theorem isIn_l {lo hi : Int64} (a l h : Int32) (e1 : lo = l.toInt64) (e2 : hi = h.toInt64) (S : St) : fX5_isIn a.toInt64 lo hi S = some (b2i (¬ a < l ∧ ¬ h < a), S) := by
  unfold fX5_isIn fX5_isIn_L17 fX5_isIn_L18
  rw [e1, e2]
  by_cases h1 : a < l
  · rw [if_pos ((lg_cmp_lt _ _).mpr ((lt_l _ _).mpr h1)), b2i_f (fun q => q.1 h1), retN_0]
  · rw [if_neg (fun q => h1 ((lt_l _ _).mp ((lg_cmp_lt _ _).mp q)))]
    by_cases h2 : h < a
    · rw [if_pos ((lg_cmp_gt _ _).mpr ((lt_l _ _).mpr h2)), b2i_f (fun q => q.2 h2), retN_0]
    · rw [if_neg (fun q => h2 ((lt_l _ _).mp ((lg_cmp_gt _ _).mp q))), b2i_t ⟨h1, h2⟩, retN_1]
theorem le_lt {a : Int32} {m : Nat} (hm : m + 1 < 2 ^ 31) : nI (m + 1) ≤ a ↔ nI m < a := by
  rw [Int32.le_iff_toInt_le, Int32.lt_iff_toInt_lt, nI_toInt (by omega), nI_toInt (by omega)]
  omega
/-- a guard over 0 .. m -/
theorem isIn_n {hi : Int64} (a : Int32) (m : Nat) (hm : m + 1 < 2 ^ 31) (e2 : hi = (nI m).toInt64) (S : St) : fX5_isIn a.toInt64 0 hi S = some (b2i (inR a (nI (m + 1))), S) := by
  rw [isIn_l (lo := 0) a 0 (nI m) rfl e2]
  unfold b2i inR
  simp only [le_lt hm]
theorem within_n (a : Int32) (m : Nat) (hm : m + 1 < 2 ^ 31) (S : St) : fX4_isWithin a (nI m) S = some (b2i (inR a (nI (m + 1))), S) := by
  rw [withinG_c]
  unfold b2i inR
  simp only [le_lt hm]
