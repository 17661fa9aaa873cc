/-! A day, and days, of both. -/
def d1 (T : Row) (go : Int32) : Nat → Row
  | 0 => T
  | g + 1 => if tb go g = true then d1 T go g else lvT (d1 T go g) g
def d2 (T : Row) (go : Int32) : Nat → Row
  | 0 => T
  | g + 1 => if tb go g = true then d2 T go g else lrT (d2 T go g) go g
def d3 (T : Row) : Nat → Row
  | 0 => T
  | l + 1 => upd (d3 T l) (5 + l) (mnI (d3 T l (5 + l) + T 3) 99)
def dayT (T : Row) (go : Int32) : Row :=
  let T3 := d3 (d2 (d1 T go (nN T)) go (nN T)) 12
  upd T3 1 (T3 1 + 1)
theorem nN_eq {T T' : Row} (h : T' 0 = T 0) : nN T' = nN T := by unfold nN; rw [h]
theorem lrT_n {T : Row} {go : Int32} {g j : Nat} (h1 : j ≠ 19 + 6 * g) (h2 : j ≠ 20 + 6 * g) : lrT T go g j = T j := by
  unfold lrT lr3 lr2 lr1
  rw [upd_n h2]
  have e1 : ∀ U : Row, (if U (21 + 6 * g) = 0 then upd U (19 + 6 * g) (nI (woN 16 (knN U g))) else U) j = U j := by
    intro U
    split
    · rw [upd_n h1]
    · rfl
  rw [e1]
  split
  · rfl
  · rw [upd_n h1]
theorem d1_V {T : Row} (hV : VT T) (go : Int32) : ∀ n, n ≤ 8 → VT (d1 T go n) ∧ ∀ j, (j < 5 ∨ 65 ≤ j) → d1 T go n j = T j
  | 0, _ => ⟨hV, fun _ _ => rfl⟩
  | n + 1, hn => by
    obtain ⟨h1, h2⟩ := d1_V hV go n (by omega)
    rw [d1]
    split
    · exact ⟨h1, h2⟩
    · have ht := clT_lt h1 (g := n) (by omega)
      exact ⟨h1.lv (by omega), fun j hj => by rw [lvT_n (by omega) (by omega) (by omega)]; exact h2 j hj⟩
theorem d2_V {T : Row} (hV : VT T) (go : Int32) : ∀ n, n ≤ 8 → VT (d2 T go n) ∧ ∀ j, (j < 5 ∨ 65 ≤ j) → d2 T go n j = T j
  | 0, _ => ⟨hV, fun _ _ => rfl⟩
  | n + 1, hn => by
    obtain ⟨h1, h2⟩ := d2_V hV go n (by omega)
    rw [d2]
    split
    · exact ⟨h1, h2⟩
    · exact ⟨h1.kT go (by omega), fun j hj => by rw [lrT_n (by omega) (by omega)]; exact h2 j hj⟩
theorem d3_n {T : Row} {j : Nat} : ∀ n, (j < 5 ∨ 5 + n ≤ j) → d3 T n j = T j
  | 0, _ => rfl
  | n + 1, h => by
    rw [d3, upd_n (by omega), d3_n n (by omega)]
theorem VT.grassy {T T' : Row} (hV : VT T) (h : ∀ j, (j < 1 ∨ 17 ≤ j) → T' j = T j) : VT T' := hV.to (h 0 (by omega)) (fun g hg => ⟨Or.inl (h _ (by omega)), Or.inl (h _ (by omega)), Or.inl (h _ (by omega))⟩)
theorem day_V {T : Row} (hV : VT T) (go : Int32) : VT (dayT T go) ∧ (∀ j, (j < 5 ∨ 65 ≤ j) → j ≠ 1 → dayT T go j = T j) ∧ dayT T go 1 = T 1 + 1 := by
  have h8 := hV.n8
  obtain ⟨a1, a2⟩ := d1_V hV go (nN T) h8
  obtain ⟨b1, b2⟩ := d2_V a1 go (nN T) h8
  unfold dayT
  dsimp only
  refine ⟨(b1.grassy (T' := d3 (d2 (d1 T go (nN T)) go (nN T)) 12) (fun j hj => d3_n 12 (by omega))).grassy (fun j hj => upd_n (by omega)), fun j hj h1 => ?_, ?_⟩
  · rw [upd_n h1, d3_n 12 (by omega), b2 j hj, a2 j hj]
  · rw [upd_s, d3_n 12 (by omega), b2 1 (by omega), a2 1 (by omega)]
theorem go_0 {g : Nat} (hg : g < 31) (go : Int32) : ((go >>> (nI g &&& 31)) &&& 1 = 0) ↔ ¬ tb go g = true := by
  rw [shr_0 go hg]
  cases tb go g <;> simp
/-! the model's loops -/
theorem m1_loop {T : Row} {go : Int32} {S : St} (hV : VT T) : ∀ (f i : Nat), i ≤ nN T → nN T - i < f → fX5_dayBut_L2 f go (nI i) (upR S 42 (d1 T go i)) = fX5_dayBut_L33 FU go 0 (upR S 42 (d1 T go (nN T)))
  | 0, i, h1, h2 => by omega
  | f + 1, i, h1, h2 => by
    have h8 := hV.n8
    obtain ⟨a1, a2⟩ := d1_V hV go i (by omega)
    unfold fX5_dayBut_L2 fX5_dayBut_L25
    rw [rd0, upR_qq, a2 0 (by omega), hV.n]
    by_cases hi : nN T ≤ i
    · rw [if_pos (nI_le hi (by omega)), show i = nN T by omega]
    · rw [if_neg (nI_ge (by omega) (by omega))]
      simp only [bnd_s]
      rw [nI_1]
      have ih := m1_loop (S := S) (go := go) hV f (i + 1) (by omega) (by omega)
      rw [d1] at ih
      by_cases hg : tb go i = true
      · rw [if_neg (fun q => (go_0 (by omega) go).mp q hg)]
        rw [if_pos hg] at ih
        exact ih
      · rw [if_pos ((go_0 (by omega) go).mpr hg)]
        rw [if_neg hg] at ih
        rw [cl_s (lives_m (by rw [upR_qq]; exact a1) (by omega)), upR_qq, upR_upR]
        exact ih
theorem m2_loop {T : Row} {go : Int32} {S : St} (hV : VT T) : ∀ (f i : Nat), i ≤ nN T → nN T - i < f → fX5_dayBut_L33 f go (nI i) (upR S 42 (d2 T go i)) = fX5_dayBut_L65 FU 0 (upR S 42 (d2 T go (nN T)))
  | 0, i, h1, h2 => by omega
  | f + 1, i, h1, h2 => by
    have h8 := hV.n8
    obtain ⟨a1, a2⟩ := d2_V hV go i (by omega)
    unfold fX5_dayBut_L33 fX5_dayBut_L57
    rw [rd0, upR_qq, a2 0 (by omega), hV.n]
    by_cases hi : nN T ≤ i
    · rw [if_pos (nI_le hi (by omega)), show i = nN T by omega]
    · rw [if_neg (nI_ge (by omega) (by omega))]
      simp only [bnd_s]
      rw [nI_1]
      have ih := m2_loop (S := S) (go := go) hV f (i + 1) (by omega) (by omega)
      rw [d2] at ih
      by_cases hg : tb go i = true
      · rw [if_neg (fun q => (go_0 (by omega) go).mp q hg)]
        rw [if_pos hg] at ih
        exact ih
      · rw [if_pos ((go_0 (by omega) go).mpr hg)]
        rw [if_neg hg] at ih
        rw [cl_s (learns_m (by rw [upR_qq]; exact a1) go (by omega)), upR_qq, upR_upR]
        exact ih
theorem m3_loop {T : Row} {S : St} : ∀ (f i : Nat), i ≤ 12 → 12 - i < f → fX5_dayBut_L65 f (nI i) (upR S 42 (d3 T i)) = some ((), upR S 42 (upd (d3 T 12) 1 (d3 T 12 1 + 1)))
  | 0, i, h1, h2 => by omega
  | f + 1, i, h1, h2 => by
    unfold fX5_dayBut_L65
    by_cases hi : 12 ≤ i
    · rw [if_pos (ps12 hi (by omega)), show i = 12 by omega, rd1, upR_qq, wr1, upR_up2, upR_qq, upR_upR]
    · rw [if_neg (ng12 (by omega)), n5, rd_n (by omega) (by decide), upR_qq, rd3, upR_qq, cl_s (least_eq _ _ _), wr_n (by omega) (by decide), bnd_s, nI_1, upR_up2, upR_qq, upR_upR]
      have ih := m3_loop (T := T) (S := S) f (i + 1) (by omega) (by omega)
      rw [d3] at ih
      rw [mnI_comm, d3_n (j := 3) i (by omega)]
      exact ih
theorem day_m {S : St} (hV : VT (S 42)) (go : Int32) : fX5_dayBut go S = some ((), upR S 42 (dayT (S 42) go)) := by
  have h8 := hV.n8
  obtain ⟨a1, a2⟩ := d1_V hV go (nN (S 42)) h8
  have e1 := m1_loop (S := S) (go := go) hV FU 0 (by omega) (by unfold FU; omega)
  have e2 := m2_loop (S := S) (go := go) a1 FU 0 (by omega) (by rw [nN_eq (a2 0 (by omega))]; unfold FU; omega)
  rw [nN_eq (a2 0 (by omega))] at e2
  have e3 := m3_loop (S := S) (T := d2 (d1 (S 42) go (nN (S 42))) go (nN (S 42))) FU 0 (by omega) (by unfold FU; omega)
  have e0 : upR S 42 (d1 (S 42) go 0) = S := upR_self
  rw [e0] at e1
  unfold fX5_dayBut
  exact (e1.trans e2).trans e3
/-! the class's loops -/
theorem c1_loop {b : Nat} {T : Row} {go : Int32} (hV : VT T) : ∀ (f i : Nat) (S : St), i ≤ nN T → nN T - i < f → Rep b (d1 T go i) go S → ∃ S', fX0_passDay_L2 b f (nI i) S = fX0_passDay_L31 b FU 0 S' ∧ Rep b (d1 T go (nN T)) go S' ∧ Fr b S S'
  | 0, i, S, h1, h2, hR => by omega
  | f + 1, i, S, h1, h2, hR => by
    have h8 := hV.n8
    obtain ⟨a1, a2⟩ := d1_V hV go i (by omega)
    unfold fX0_passDay_L2 fX0_passDay_L23
    rw [hR.n, a2 0 (by omega), hV.n]
    by_cases hi : nN T ≤ i
    · rw [if_pos (nI_le hi (by omega))]
      rw [show i = nN T by omega] at hR
      exact ⟨S, rfl, hR, Fr.rf⟩
    · rw [if_neg (nI_ge (by omega) (by omega)), cl_s (isHere_eq hR (by omega))]
      simp only [bnd_s]
      rw [nI_1]
      by_cases hg : tb go i = true
      · rw [b2i_f (fun q => q hg), if_pos rfl]
        have e : d1 T go (i + 1) = d1 T go i := by rw [d1, if_pos hg]
        exact c1_loop hV f (i + 1) S (by omega) (by omega) (by rw [e]; exact hR)
      · rw [b2i_t hg, if_neg one_ne]
        obtain ⟨S1, q1, q2, q3⟩ := lives_c hR a1 (g := i) (by omega)
        rw [cl_s q1]
        have e : d1 T go (i + 1) = lvT (d1 T go i) i := by rw [d1, if_neg hg]
        obtain ⟨S2, r1, r2, r3⟩ := c1_loop hV f (i + 1) S1 (by omega) (by omega) (by rw [e]; exact q2)
        exact ⟨S2, r1, r2, q3.tr r3⟩
theorem c2_loop {b : Nat} {T : Row} {go : Int32} (hV : VT T) : ∀ (f i : Nat) (S : St), i ≤ nN T → nN T - i < f → Rep b (d2 T go i) go S → ∃ S', fX0_passDay_L31 b f (nI i) S = fX0_passDay_L80 b FU 0 S' ∧ Rep b (d2 T go (nN T)) go S' ∧ Fr b S S'
  | 0, i, S, h1, h2, hR => by omega
  | f + 1, i, S, h1, h2, hR => by
    have h8 := hV.n8
    obtain ⟨a1, a2⟩ := d2_V hV go i (by omega)
    unfold fX0_passDay_L31 fX0_passDay_L72
    rw [hR.n, a2 0 (by omega), hV.n]
    by_cases hi : nN T ≤ i
    · rw [if_pos (nI_le hi (by omega))]
      rw [show i = nN T by omega] at hR
      exact ⟨S, rfl, hR, Fr.rf⟩
    · rw [if_neg (nI_ge (by omega) (by omega)), cl_s (isHere_eq hR (by omega))]
      simp only [bnd_s]
      rw [nI_1]
      by_cases hg : tb go i = true
      · rw [b2i_f (fun q => q hg), if_pos rfl]
        have e : d2 T go (i + 1) = d2 T go i := by rw [d2, if_pos hg]
        exact c2_loop hV f (i + 1) S (by omega) (by omega) (by rw [e]; exact hR)
      · rw [b2i_t hg, if_neg one_ne]
        obtain ⟨S1, q1, q2, q3⟩ := learns_c hR a1 (g := i) (by omega)
        rw [cl_s q1, rd_n (by omega) (by decide), q2.ag (by omega), wr_n (by omega) (by decide)]
        have e : d2 T go (i + 1) = lr3 (lr2 (lr1 (d2 T go i) go i) i) i := by rw [d2, if_neg hg]; rfl
        have q4 := q2.s_ag (v := mnI (lr2 (lr1 (d2 T go i) go i) i (20 + 6 * i) + 1) 9999) (k := i) (by omega)
        obtain ⟨S2, r1, r2, r3⟩ := c2_loop hV f (i + 1) _ (by omega) (by omega) (by rw [e]; exact q4)
        exact ⟨S2, r1, r2, (q3.tr (Fr.up (by omega))).tr r3⟩
theorem mn_day {d : Nat} (h : d < 99999) : mnI (nI d + 1) 99999 = nI d + 1 := by
  rw [nI_1, show (99999 : Int32) = nI 99999 from rfl, mnI_n (by omega) (by decide), if_neg (by omega)]
theorem c3_loop {b : Nat} {T : Row} {go : Int32} {d : Nat} (hd : T 1 = nI d) (hd2 : d < 99999) : ∀ (f i : Nat) (S : St), i ≤ 12 → 12 - i < f → Rep b (d3 T i) go S → ∃ S', fX0_passDay_L80 b f (nI i) S = some ((), S') ∧ Rep b (upd (d3 T 12) 1 (d3 T 12 1 + 1)) go S' ∧ Fr b S S'
  | 0, i, S, h1, h2, hR => by omega
  | f + 1, i, S, h1, h2, hR => by
    unfold fX0_passDay_L80
    by_cases hi : 12 ≤ i
    · rw [if_pos (ps12 hi (by omega)), bnd_s]
      rw [show i = 12 by omega] at hR
      have e1 : S b 12 = nI d := by rw [hR.dy, d3_n 12 (by omega), hd]
      have e2 : d3 T 12 1 = nI d := by rw [d3_n 12 (by omega), hd]
      rw [e1, mn_day hd2, e2]
      exact ⟨_, rfl, hR.s_dy, Fr.up0⟩
    · rw [if_neg (ng12 (by omega)), rd_n (by omega) (by decide), hR.gr (by omega), wr_n (by omega) (by decide), bnd_s, nI_1, hR.gw, d3_n (j := 3) i (by omega)]
      have q := hR.s_gr (v := mnI (d3 T i (5 + i) + T 3) 99) (k := i) (by omega)
      have e : d3 T (i + 1) = upd (d3 T i) (5 + i) (mnI (d3 T i (5 + i) + T 3) 99) := rfl
      obtain ⟨S2, r1, r2, r3⟩ := c3_loop (go := go) hd hd2 f (i + 1) _ (by omega) (by omega) (by rw [e]; exact q)
      exact ⟨S2, r1, r2, (Fr.up (by omega)).tr r3⟩
theorem day_c {b : Nat} {T : Row} {go : Int32} {S : St} {d : Nat} (hR : Rep b T go S) (hV : VT T) (hd : T 1 = nI d) (hd2 : d < 99999) : ∃ S', fX0_passDay b S = some ((), S') ∧ Rep b (dayT T go) go S' ∧ Fr b S S' := by
  have h8 := hV.n8
  obtain ⟨a1, a2⟩ := d1_V hV go (nN T) h8
  obtain ⟨b1, b2⟩ := d2_V a1 go (nN T) h8
  obtain ⟨S1, p1, p2, p3⟩ := c1_loop (go := go) hV FU 0 S (by omega) (by unfold FU; omega) hR
  obtain ⟨S2, q1, q2, q3⟩ := c2_loop (go := go) a1 FU 0 S1 (by omega) (by rw [nN_eq (a2 0 (by omega))]; unfold FU; omega) p2
  rw [nN_eq (a2 0 (by omega))] at q2
  obtain ⟨S3, r1, r2, r3⟩ := c3_loop (go := go) (T := d2 (d1 T go (nN T)) go (nN T)) (d := d) (by rw [b2 1 (by omega), a2 1 (by omega)]; exact hd) hd2 FU 0 S2 (by omega) (by unfold FU; omega) q2
  refine ⟨S3, ?_, r2, (p3.tr q3).tr r3⟩
  unfold fX0_passDay
  exact (p1.trans q1).trans r1
/-- k days -/
def daysT (T : Row) (go : Int32) : Nat → Row
  | 0 => T
  | k + 1 => dayT (daysT T go k) go
theorem days_V {T : Row} (hV : VT T) (go : Int32) {d : Nat} (hd : T 1 = nI d) : ∀ k, VT (daysT T go k) ∧ (∀ j, (j < 5 ∨ 65 ≤ j) → j ≠ 1 → daysT T go k j = T j) ∧ daysT T go k 1 = nI (d + k)
  | 0 => ⟨hV, fun _ _ _ => rfl, hd⟩
  | k + 1 => by
    obtain ⟨h1, h2, h3⟩ := days_V hV go hd k
    obtain ⟨g1, g2, g3⟩ := day_V h1 go
    refine ⟨g1, fun j hj hj1 => ?_, ?_⟩
    · rw [daysT, g2 j hj hj1, h2 j hj hj1]
    · rw [daysT, g3, h3, nI_1]
      rfl
theorem goes_loop {T : Row} {S : St} {n d : Nat} (hV : VT T) (hd : T 1 = nI d) (hn : n < 2 ^ 31) : ∀ (f i : Nat), i ≤ n → n - i < f → fX5_goes_L2 f (nI n) (nI i) (upR S 42 (daysT T 0 i)) = some ((), upR S 42 (daysT T 0 n))
  | 0, i, h1, h2 => by omega
  | f + 1, i, h1, h2 => by
    obtain ⟨a1, a2, a3⟩ := days_V hV 0 hd i
    unfold fX5_goes_L2
    by_cases hi : n ≤ i
    · rw [if_pos (nI_le hi (by omega)), show i = n by omega]
    · rw [if_neg (nI_ge (by omega) (by omega)), cl_s (day_m (by rw [upR_qq]; exact a1) 0), bnd_s, nI_1, upR_qq, upR_upR]
      exact goes_loop hV hd hn f (i + 1) (by omega) (by omega)
theorem goes_m {S : St} {n d : Nat} (hV : VT (S 42)) (hd : S 42 1 = nI d) (hn : n ≤ 1000) : fX5_goes (nI n) S = some ((), upR S 42 (daysT (S 42) 0 n)) := by
  have h := goes_loop (S := S) (n := n) hV hd (by omega) FU 0 (by omega) (by unfold FU; omega)
  have e0 : upR S 42 (daysT (S 42) 0 0) = S := upR_self
  rw [e0] at h
  exact h
theorem pds_loop {b : Nat} {T : Row} {go : Int32} {n d : Nat} (hV : VT T) (hd : T 1 = nI d) (hn : d + n ≤ 99999) : ∀ (f i : Nat) (S : St), i ≤ n → n - i < f → Rep b (daysT T go i) go S → ∃ S', fX0_passDays_L2 b f (nI n) (nI i) S = some ((), S') ∧ Rep b (daysT T go n) go S' ∧ Fr b S S'
  | 0, i, S, h1, h2, hR => by omega
  | f + 1, i, S, h1, h2, hR => by
    obtain ⟨a1, a2, a3⟩ := days_V hV go hd i
    unfold fX0_passDays_L2
    by_cases hi : n ≤ i
    · rw [if_pos (nI_le hi (by omega))]
      rw [show i = n by omega] at hR
      exact ⟨S, rfl, hR, Fr.rf⟩
    · rw [if_neg (nI_ge (by omega) (by omega))]
      obtain ⟨S1, q1, q2, q3⟩ := day_c hR a1 a3 (by omega)
      rw [cl_s q1, bnd_s, nI_1]
      obtain ⟨S2, r1, r2, r3⟩ := pds_loop hV hd hn f (i + 1) S1 (by omega) (by omega) q2
      exact ⟨S2, r1, r2, q3.tr r3⟩
theorem days_c {b : Nat} {T : Row} {go : Int32} {S : St} {n d : Nat} (hR : Rep b T go S) (hV : VT T) (hd : T 1 = nI d) (hn : d + n ≤ 99999) (hn2 : n ≤ 1000) : ∃ S', fX0_passDays b (nI n) S = some ((), S') ∧ Rep b (daysT T go n) go S' ∧ Fr b S S' := pds_loop hV hd hn FU 0 S (by omega) (by unfold FU; omega) hR
