/-! TEXT: words and numbers -/
def CR (t : Nat) (b : Row) (q tok e : Nat) (S : St) : Prop := TpC t b S ∧ S 30 2 = nI tok ∧ S 30 3 = nI q ∧ S 30 4 = nI e
def MR' (t : Nat) (b : Row) (q tok e : Nat) (S : St) : Prop := TpM t b S ∧ S 41 11 = nI tok ∧ S 41 12 = nI q ∧ (tok ≠ 4 → S 41 13 = nI e) ∧ (tok = 2 → S 41 14 = nI (vmN b q (e - q)))
theorem TK.lim {t q tok e : Nat} {b : Row} (hB : TpB t b) (hT : TK t b q tok e) : q ≤ e ∧ e ≤ t ∧ t ≤ 120 ∧ tok ≤ 4 := by
  obtain ⟨a1, a2, a3, a4, a5, a6, a7⟩ := hT
  exact ⟨a3, a4, hB.1, by rw [a2]; exact tk_5 _⟩
def wdB (t : Nat) (b : Row) : List Nat → Nat → Bool
  | [], _ => true
  | c :: r, j => decide (bA t b j = nI c) && wdB t b r (j + 1)
def WDx (t : Nat) (b : Row) (q tok e : Nat) (ls : List Nat) : Bool := decide (tok = 1 ∧ e = q + ls.length) && wdB t b ls q
theorem isw_loop {t q w : Nat} {b : Row} {ls : List Nat} {S : St} (hB : TpB t b) (hC : TpC t b S) (h3 : S 30 3 = nI q) (hq : q ≤ 120) (hl : sLen.getD w 0 = ls.length) (hl8 : ls.length ≤ 8) (hc : ∀ i (h : i < ls.length), sch w (nI i) = nI ls[i]) : ∀ (f i : Nat), i ≤ ls.length → ls.length - i < f → fX1_isWord_L28 w f (nI i) S = some (b2i (wdB t b (ls.drop i) (q + i) = true), S)
  | 0, i, h1, h2 => by omega
  | f + 1, i, h1, h2 => by
    have hlen : fJ0_length_8abf5 w S = some (nI ls.length, S) := by
      unfold fJ0_length_8abf5
      rw [hl, pk_shrN (by omega) _ 0 (by decide), Nat.pow_zero, Nat.div_one]
    unfold fX1_isWord_L28
    rw [cl_s hlen]
    by_cases hi : ls.length ≤ i
    · rw [if_pos (nI_le hi (by omega)), List.drop_of_length_le hi, retN_1]
      rfl
    · have hi' : i < ls.length := by omega
      have hch : fJ0_charAt_5068e w (nI i) S = some (nI ls[i], S) := by
        unfold fJ0_charAt_5068e
        rw [hl, if_neg (nI_in hi' (by omega)), hc i hi']
      rw [if_neg (nI_ge hi' (by omega)), h3, nI_add, cl_s (byte_c hB hC (by omega)), cl_s hch, List.drop_eq_getElem_cons hi', wdB]
      by_cases c : bA t b (q + i) = nI ls[i]
      · rw [if_pos c, decide_eq_true c, Bool.true_and, bnd_s, nI_1]
        exact isw_loop hB hC h3 hq hl hl8 hc f (i + 1) hi' (by omega)
      · rw [if_neg c, decide_eq_false c, Bool.false_and, retN_0]
        rfl
theorem isw_c {t q tok e w : Nat} {b : Row} {ls : List Nat} {S : St} (hB : TpB t b) (hT : TK t b q tok e) (hR : CR t b q tok e S) (hl : sLen.getD w 0 = ls.length) (hl8 : ls.length ≤ 8) (hc : ∀ i (h : i < ls.length), sch w (nI i) = nI ls[i]) : fX1_isWord w S = some (b2i (WDx t b q tok e ls = true), S) := by
  obtain ⟨l1, l2, l3, l4⟩ := hT.lim hB
  obtain ⟨r1, r2, r3, r4⟩ := hR
  have hlen : fJ0_length_8abf5 w S = some (nI ls.length, S) := by
    unfold fJ0_length_8abf5
    rw [hl, pk_shrN (by omega) _ 0 (by decide), Nat.pow_zero, Nat.div_one]
  have h := isw_loop (w := w) hB r1 r3 (by omega) hl hl8 hc FU 0 (by omega) (by unfold FU; omega)
  rw [List.drop_zero, Nat.add_zero] at h
  unfold fX1_isWord fX1_isWord_L24
  rw [r2, r3, r4]
  by_cases h1 : tok = 1
  · have c1 : nI tok = 1 := by rw [h1]; rfl
    rw [if_pos c1, cl_s hlen, pk_sub l1]
    by_cases h2 : e = q + ls.length
    · have c2 : nI (e - q) = nI ls.length := by rw [h2]; congr 1; omega
      have w0 : WDx t b q tok e ls = wdB t b ls q := by
        unfold WDx
        rw [decide_eq_true (show tok = 1 ∧ e = q + ls.length from ⟨h1, h2⟩), Bool.true_and]
      rw [if_pos c2, w0]
      exact h
    · have c2 : ¬ nI (e - q) = nI ls.length := fun z => h2 (by have := (nI_eq (by omega) (by omega)).mp z; omega)
      have w0 : WDx t b q tok e ls = false := by
        unfold WDx
        rw [decide_eq_false (show ¬ (tok = 1 ∧ e = q + ls.length) from fun z => h2 z.2), Bool.false_and]
      rw [if_neg c2, w0, retN_0]
      rfl
  · have c1 : ¬ nI tok = 1 := fun z => h1 ((nI_eq (b := 1) (by omega) (by decide)).mp z)
    have w0 : WDx t b q tok e ls = false := by
      unfold WDx
      rw [decide_eq_false (show ¬ (tok = 1 ∧ e = q + ls.length) from fun z => h1 z.1), Bool.false_and]
    rw [if_neg c1, w0, retN_0]
    rfl
def wdT : List (List Nat) := [[103, 111, 97, 116], [110, 97, 110, 110, 121], [98, 105, 108, 108, 121], [103, 114, 101, 121], [111, 108, 100], [119, 104, 105, 116, 101], [107, 105, 100], [111, 110], [107, 110, 111, 119, 115], [102, 101, 100], [103, 114, 97, 115, 115], [103, 114, 111, 119, 115], [115, 97, 108, 116]]
def wdL (w : Nat) : List Nat := wdT.getD w []
theorem wd_ok : ∀ w, w < 13 → sLen.getD w 0 = (wdL w).length ∧ (wdL w).length ≤ 8 ∧ ∀ i (h : i < (wdL w).length), sch w (nI i) = nI (wdL w)[i] := by decide +kernel
theorem word_c {t q tok e : Nat} {b : Row} {S : St} (hB : TpB t b) (hT : TK t b q tok e) (hR : CR t b q tok e S) (w : Nat) (hw : w < 13) : fX1_isWord w S = some (b2i (WDx t b q tok e (wdL w) = true), S) := by
  obtain ⟨h1, h2, h3⟩ := wd_ok w hw
  exact isw_c hB hT hR h1 h2 h3
/-! the model's words -/
theorem mword {t q tok e : Nat} {b : Row} {S : St} (hB : TpB t b) (hT : TK t b q tok e) (hR : MR' t b q tok e S) {n : Nat} (hn : n ≤ 8) : fX5_isWord (nI n) S = some (b2i (tok = 1 ∧ e = q + n), S) := by
  obtain ⟨l1, l2, l3, l4⟩ := hT.lim hB
  obtain ⟨r1, r2, r3, r4, r5⟩ := hR
  unfold fX5_isWord fX5_isWord_L25 fX5_isWord_L26
  rw [r2, r3]
  by_cases h1 : tok = 1
  · have c1 : nI tok = 1 := by rw [h1]; rfl
    rw [if_pos c1, r4 (by omega), pk_sub l1]
    by_cases h2 : e = q + n
    · have c2 : nI (e - q) = nI n := by rw [h2]; congr 1; omega
      rw [if_pos c2, retN_1, b2i_t ⟨h1, h2⟩]
    · have c2 : ¬ nI (e - q) = nI n := fun z => h2 (by have := (nI_eq (by omega) (by omega)).mp z; omega)
      rw [if_neg c2, retN_0, b2i_f (fun z => h2 z.2)]
  · have c1 : ¬ nI tok = 1 := fun z => h1 ((nI_eq (b := 1) (by omega) (by decide)).mp z)
    rw [if_neg c1, retN_0, b2i_f (fun z => h1 z.1)]
theorem has3_m {t q tok e : Nat} {b : Row} {S : St} (hB : TpB t b) (hT : TK t b q tok e) (hR : MR' t b q tok e S) {i : Nat} (hi : i ≤ 8) (x y z : Int32) : fX5_has3 (nI i) x y z S = some (b2i (bA t b (q + i) = x ∧ bA t b (q + i + 1) = y ∧ bA t b (q + i + 2) = z), S) := by
  obtain ⟨l1, l2, l3, l4⟩ := hT.lim hB
  obtain ⟨r1, r2, r3, r4, r5⟩ := hR
  have h2 : nI (q + i) + 2 = nI (q + i + 2) := by rw [show (2 : Int32) = nI 2 from rfl, nI_add]
  unfold fX5_has3 fX5_has3_L51 fX5_has3_L52
  rw [r3, nI_add, cl_s (byte_m hB r1 (by omega)), r3, nI_add, nI_1, cl_s (byte_m hB r1 (by omega)), r3, nI_add, h2, cl_s (byte_m hB r1 (by omega)), retN_0, retN_1]
  by_cases c1 : bA t b (q + i) = x
  · rw [if_pos c1]
    by_cases c2 : bA t b (q + i + 1) = y
    · rw [if_pos c2]
      by_cases c3 : bA t b (q + i + 2) = z
      · rw [if_pos c3, b2i_t ⟨c1, c2, c3⟩]
      · rw [if_neg c3, b2i_f (fun q => c3 q.2.2)]
    · rw [if_neg c2, b2i_f (fun q => c2 q.2.1)]
  · rw [if_neg c1, b2i_f (fun q => c1 q.1)]
theorem wd_3 {t q tok e : Nat} {b : Row} {x y z : Nat} : WDx t b q tok e [x, y, z] = true ↔ ((tok = 1 ∧ e = q + 3) ∧ (bA t b (q + 0) = nI x ∧ bA t b (q + 0 + 1) = nI y ∧ bA t b (q + 0 + 2) = nI z)) := by
  unfold WDx wdB wdB wdB wdB
  simp [and_assoc]
theorem wd_4 {t q tok e : Nat} {b : Row} {x y z u : Nat} : WDx t b q tok e [x, y, z, u] = true ↔ ((tok = 1 ∧ e = q + 4) ∧ (bA t b (q + 0) = nI x ∧ bA t b (q + 0 + 1) = nI y ∧ bA t b (q + 0 + 2) = nI z) ∧ (bA t b (q + 1) = nI y ∧ bA t b (q + 1 + 1) = nI z ∧ bA t b (q + 1 + 2) = nI u)) := by
  unfold WDx wdB wdB wdB wdB wdB
  simp only [List.length_cons, List.length_nil, Bool.and_eq_true, decide_eq_true_eq, Nat.add_zero, Nat.add_assoc, and_true]
  constructor
  · rintro ⟨h1, h2, h3, h4, h5⟩
    exact ⟨h1, ⟨h2, h3, h4⟩, h3, h4, h5⟩
  · rintro ⟨h1, ⟨h2, h3, h4⟩, -, -, h5⟩
    exact ⟨h1, h2, h3, h4, h5⟩
theorem wd_5 {t q tok e : Nat} {b : Row} {x y z u v : Nat} : WDx t b q tok e [x, y, z, u, v] = true ↔ ((tok = 1 ∧ e = q + 5) ∧ (bA t b (q + 0) = nI x ∧ bA t b (q + 0 + 1) = nI y ∧ bA t b (q + 0 + 2) = nI z) ∧ (bA t b (q + 2) = nI z ∧ bA t b (q + 2 + 1) = nI u ∧ bA t b (q + 2 + 2) = nI v)) := by
  unfold WDx wdB wdB wdB wdB wdB wdB
  simp only [List.length_cons, List.length_nil, Bool.and_eq_true, decide_eq_true_eq, Nat.add_zero, Nat.add_assoc, and_true]
  constructor
  · rintro ⟨h1, h2, h3, h4, h5, h6⟩
    exact ⟨h1, ⟨h2, h3, h4⟩, h4, h5, h6⟩
  · rintro ⟨h1, ⟨h2, h3, h4⟩, -, h5, h6⟩
    exact ⟨h1, h2, h3, h4, h5, h6⟩
theorem wd_2 {t q tok e : Nat} {b : Row} {x y : Nat} : WDx t b q tok e [x, y] = true ↔ ((tok = 1 ∧ e = q + 2) ∧ bA t b q = nI x ∧ bA t b (q + 1) = nI y) := by
  unfold WDx wdB wdB wdB
  simp
theorem three_m {t q tok e : Nat} {b : Row} {S : St} (hB : TpB t b) (hT : TK t b q tok e) (hR : MR' t b q tok e S) (x y z : Nat) {A B : Int32 → St → Option (Int32 × St)} : (cl (fX5_isWord 3 S) fun v1 S1 => if v1 = 0 then A v1 S1 else cl (fX5_has3 0 (nI x) (nI y) (nI z) S1) fun v2 S2 => if v2 = 0 then A v2 S2 else B v2 S2) = if WDx t b q tok e [x, y, z] = true then B 1 S else A 0 S := by
  have h3 : fX5_isWord 3 S = some (b2i (tok = 1 ∧ e = q + 3), S) := mword hB hT hR (n := 3) (by decide)
  have h0 := has3_m hB hT hR (i := 0) (by decide) (nI x) (nI y) (nI z)
  have h0' : fX5_has3 0 (nI x) (nI y) (nI z) S = _ := h0
  rw [cl_s h3, cl_s h0']
  by_cases c1 : tok = 1 ∧ e = q + 3
  · rw [b2i_t c1, if_neg one_ne]
    by_cases c2 : bA t b (q + 0) = nI x ∧ bA t b (q + 0 + 1) = nI y ∧ bA t b (q + 0 + 2) = nI z
    · rw [b2i_t c2, if_neg one_ne, if_pos (wd_3.mpr ⟨c1, c2⟩)]
    · rw [b2i_f c2, if_pos rfl, if_neg (fun r => c2 (wd_3.mp r).2)]
  · rw [b2i_f c1, if_pos rfl, if_neg (fun r => c1 (wd_3.mp r).1)]
theorem four_m {t q tok e : Nat} {b : Row} {S : St} (hB : TpB t b) (hT : TK t b q tok e) (hR : MR' t b q tok e S) (x y z u : Nat) : fX5_isFour (nI x) (nI y) (nI z) (nI u) S = some (b2i (WDx t b q tok e [x, y, z, u] = true), S) := by
  have h4 : fX5_isWord 4 S = some (b2i (tok = 1 ∧ e = q + 4), S) := mword hB hT hR (n := 4) (by decide)
  have h0 : fX5_has3 0 (nI x) (nI y) (nI z) S = _ := has3_m hB hT hR (i := 0) (by decide) (nI x) (nI y) (nI z)
  have h1 : fX5_has3 1 (nI y) (nI z) (nI u) S = _ := has3_m hB hT hR (i := 1) (by decide) (nI y) (nI z) (nI u)
  unfold fX5_isFour fX5_isFour_L35 fX5_isFour_L36
  rw [cl_s h4, cl_s h0, cl_s h1, retN_0, retN_1]
  by_cases c1 : tok = 1 ∧ e = q + 4
  · rw [b2i_t c1, if_neg one_ne]
    by_cases c2 : bA t b (q + 0) = nI x ∧ bA t b (q + 0 + 1) = nI y ∧ bA t b (q + 0 + 2) = nI z
    · rw [b2i_t c2, if_neg one_ne]
      by_cases c3 : bA t b (q + 1) = nI y ∧ bA t b (q + 1 + 1) = nI z ∧ bA t b (q + 1 + 2) = nI u
      · rw [b2i_t c3, if_neg one_ne, b2i_t (wd_4.mpr ⟨c1, c2, c3⟩)]
      · rw [b2i_f c3, if_pos rfl, b2i_f (fun r => c3 (wd_4.mp r).2.2)]
    · rw [b2i_f c2, if_pos rfl, b2i_f (fun r => c2 (wd_4.mp r).2.1)]
  · rw [b2i_f c1, if_pos rfl, b2i_f (fun r => c1 (wd_4.mp r).1)]
theorem five_m {t q tok e : Nat} {b : Row} {S : St} (hB : TpB t b) (hT : TK t b q tok e) (hR : MR' t b q tok e S) (x y z u v : Nat) : fX5_isFive (nI x) (nI y) (nI z) (nI u) (nI v) S = some (b2i (WDx t b q tok e [x, y, z, u, v] = true), S) := by
  have h4 : fX5_isWord 5 S = some (b2i (tok = 1 ∧ e = q + 5), S) := mword hB hT hR (n := 5) (by decide)
  have h0 : fX5_has3 0 (nI x) (nI y) (nI z) S = _ := has3_m hB hT hR (i := 0) (by decide) (nI x) (nI y) (nI z)
  have h1 : fX5_has3 2 (nI z) (nI u) (nI v) S = _ := has3_m hB hT hR (i := 2) (by decide) (nI z) (nI u) (nI v)
  unfold fX5_isFive fX5_isFive_L36 fX5_isFive_L37
  rw [cl_s h4, cl_s h0, cl_s h1, retN_0, retN_1]
  by_cases c1 : tok = 1 ∧ e = q + 5
  · rw [b2i_t c1, if_neg one_ne]
    by_cases c2 : bA t b (q + 0) = nI x ∧ bA t b (q + 0 + 1) = nI y ∧ bA t b (q + 0 + 2) = nI z
    · rw [b2i_t c2, if_neg one_ne]
      by_cases c3 : bA t b (q + 2) = nI z ∧ bA t b (q + 2 + 1) = nI u ∧ bA t b (q + 2 + 2) = nI v
      · rw [b2i_t c3, if_neg one_ne, b2i_t (wd_5.mpr ⟨c1, c2, c3⟩)]
      · rw [b2i_f c3, if_pos rfl, b2i_f (fun r => c3 (wd_5.mp r).2.2)]
    · rw [b2i_f c2, if_pos rfl, b2i_f (fun r => c2 (wd_5.mp r).2.1)]
  · rw [b2i_f c1, if_pos rfl, b2i_f (fun r => c1 (wd_5.mp r).1)]
/-! which kind is told -/
def kdI (t : Nat) (b : Row) (q tok e : Nat) : Int32 := if WDx t b q tok e (wdL 0) = true then 0 else if WDx t b q tok e (wdL 1) = true then 1 else if WDx t b q tok e (wdL 2) = true then 2 else if WDx t b q tok e (wdL 3) = true then 3 else if WDx t b q tok e (wdL 4) = true then 4 else if WDx t b q tok e (wdL 5) = true then 5 else if WDx t b q tok e (wdL 6) = true then 6 else -1
theorem kd_cases (t : Nat) (b : Row) (q tok e : Nat) : (kdI t b q tok e = -1) ∨ ((∃ k, k < 7 ∧ kdI t b q tok e = nI k) ∧ tok = 1) := by
  have tk1 : ∀ w, WDx t b q tok e w = true → tok = 1 := fun w h => by
    unfold WDx at h
    rw [Bool.and_eq_true, decide_eq_true_eq] at h
    exact h.1.1
  unfold kdI
  by_cases h0 : WDx t b q tok e (wdL 0) = true
  · rw [if_pos h0]
    exact Or.inr ⟨⟨0, by decide, rfl⟩, tk1 _ h0⟩
  rw [if_neg h0]
  by_cases h1 : WDx t b q tok e (wdL 1) = true
  · rw [if_pos h1]
    exact Or.inr ⟨⟨1, by decide, rfl⟩, tk1 _ h1⟩
  rw [if_neg h1]
  by_cases h2 : WDx t b q tok e (wdL 2) = true
  · rw [if_pos h2]
    exact Or.inr ⟨⟨2, by decide, rfl⟩, tk1 _ h2⟩
  rw [if_neg h2]
  by_cases h3 : WDx t b q tok e (wdL 3) = true
  · rw [if_pos h3]
    exact Or.inr ⟨⟨3, by decide, rfl⟩, tk1 _ h3⟩
  rw [if_neg h3]
  by_cases h4 : WDx t b q tok e (wdL 4) = true
  · rw [if_pos h4]
    exact Or.inr ⟨⟨4, by decide, rfl⟩, tk1 _ h4⟩
  rw [if_neg h4]
  by_cases h5 : WDx t b q tok e (wdL 5) = true
  · rw [if_pos h5]
    exact Or.inr ⟨⟨5, by decide, rfl⟩, tk1 _ h5⟩
  rw [if_neg h5]
  by_cases h6 : WDx t b q tok e (wdL 6) = true
  · rw [if_pos h6]
    exact Or.inr ⟨⟨6, by decide, rfl⟩, tk1 _ h6⟩
  rw [if_neg h6]
  exact Or.inl rfl
theorem kind_c {t q tok e : Nat} {b : Row} {S : St} (hB : TpB t b) (hT : TK t b q tok e) (hR : CR t b q tok e S) : fX1_kindTold S = some (kdI t b q tok e, S) := by
  have h := word_c hB hT hR
  unfold fX1_kindTold fX1_kindTold_L81 kdI
  rw [cl_s (h 0 (by decide)), cl_s (h 1 (by decide)), cl_s (h 2 (by decide)), cl_s (h 3 (by decide)), cl_s (h 4 (by decide)), cl_s (h 5 (by decide)), cl_s (h 6 (by decide))]
  by_cases h0 : WDx t b q tok e (wdL 0) = true
  · rw [b2i_t h0, if_neg one_ne, if_pos h0]
  rw [b2i_f h0, if_pos rfl, if_neg h0]
  by_cases h1 : WDx t b q tok e (wdL 1) = true
  · rw [b2i_t h1, if_neg one_ne, if_pos h1]
  rw [b2i_f h1, if_pos rfl, if_neg h1]
  by_cases h2 : WDx t b q tok e (wdL 2) = true
  · rw [b2i_t h2, if_neg one_ne, if_pos h2]
  rw [b2i_f h2, if_pos rfl, if_neg h2]
  by_cases h3 : WDx t b q tok e (wdL 3) = true
  · rw [b2i_t h3, if_neg one_ne, if_pos h3]
  rw [b2i_f h3, if_pos rfl, if_neg h3]
  by_cases h4 : WDx t b q tok e (wdL 4) = true
  · rw [b2i_t h4, if_neg one_ne, if_pos h4]
  rw [b2i_f h4, if_pos rfl, if_neg h4]
  by_cases h5 : WDx t b q tok e (wdL 5) = true
  · rw [b2i_t h5, if_neg one_ne, if_pos h5]
  rw [b2i_f h5, if_pos rfl, if_neg h5]
  by_cases h6 : WDx t b q tok e (wdL 6) = true
  · rw [b2i_t h6, if_neg one_ne, if_pos h6]
  rw [b2i_f h6, if_pos rfl, if_neg h6]
theorem kind_m {t q tok e : Nat} {b : Row} {S : St} (hB : TpB t b) (hT : TK t b q tok e) (hR : MR' t b q tok e S) : fX5_kindHere S = some (kdI t b q tok e, S) := by
  have m0 : fX5_isFour 103 111 97 116 S = some (b2i (WDx t b q tok e (wdL 0) = true), S) := four_m hB hT hR 103 111 97 116
  have m1 : fX5_isFive 110 97 110 110 121 S = some (b2i (WDx t b q tok e (wdL 1) = true), S) := five_m hB hT hR 110 97 110 110 121
  have m2 : fX5_isFive 98 105 108 108 121 S = some (b2i (WDx t b q tok e (wdL 2) = true), S) := five_m hB hT hR 98 105 108 108 121
  have m3 : fX5_isFour 103 114 101 121 S = some (b2i (WDx t b q tok e (wdL 3) = true), S) := four_m hB hT hR 103 114 101 121
  have m5 : fX5_isFive 119 104 105 116 101 S = some (b2i (WDx t b q tok e (wdL 5) = true), S) := five_m hB hT hR 119 104 105 116 101
  have L96 : fX5_kindHere_L96 S = some (if WDx t b q tok e (wdL 5) = true then 5 else if WDx t b q tok e (wdL 6) = true then 6 else -1, S) := by
    unfold fX5_kindHere_L96 fX5_kindHere_L142 fX5_kindHere_L143
    rw [cl_s m5]
    by_cases h5 : WDx t b q tok e (wdL 5) = true
    · rw [b2i_t h5, if_neg one_ne, if_pos h5]
    · rw [b2i_f h5, if_pos rfl, if_neg h5]
      refine (three_m hB hT hR 107 105 100 (A := fun _ S => some (-1, S)) (B := fun _ S => some (6, S))).trans ?_
      by_cases h6 : WDx t b q tok e (wdL 6) = true
      · rw [if_pos h6]
        exact if_pos h6
      · rw [if_neg h6]
        exact if_neg h6
  unfold fX5_kindHere kdI
  rw [cl_s m0, cl_s m1, cl_s m2, cl_s m3]
  by_cases h0 : WDx t b q tok e (wdL 0) = true
  · rw [b2i_t h0, if_neg one_ne, if_pos h0]
  rw [b2i_f h0, if_pos rfl, if_neg h0]
  by_cases h1 : WDx t b q tok e (wdL 1) = true
  · rw [b2i_t h1, if_neg one_ne, if_pos h1]
  rw [b2i_f h1, if_pos rfl, if_neg h1]
  by_cases h2 : WDx t b q tok e (wdL 2) = true
  · rw [b2i_t h2, if_neg one_ne, if_pos h2]
  rw [b2i_f h2, if_pos rfl, if_neg h2]
  by_cases h3 : WDx t b q tok e (wdL 3) = true
  · rw [b2i_t h3, if_neg one_ne, if_pos h3]
  rw [b2i_f h3, if_pos rfl, if_neg h3]
  refine (three_m hB hT hR 111 108 100 (A := fun _ S => fX5_kindHere_L96 S) (B := fun _ S => some (4, S))).trans ?_
  by_cases h4 : WDx t b q tok e (wdL 4) = true
  · rw [if_pos h4]
    exact if_pos h4
  · rw [if_neg h4, ← L96]
    exact if_neg h4
/-! numbers -/
theorem val_loop {t q e : Nat} {b : Row} {S : St} (hB : TpB t b) (hT : TK t b q 2 e) (hR : CR t b q 2 e S) : ∀ (f k : Nat), q + k ≤ e → e - (q + k) < f → fX1_value_L7 f (nI (vcN b q k)) (nI (q + k)) S = some (nI (vcN b q (e - q)), S)
  | 0, k, h1, h2 => by omega
  | f + 1, k, h1, h2 => by
    obtain ⟨l1, l2, l3, l4⟩ := hT.lim hB
    obtain ⟨r1, r2, r3, r4⟩ := hR
    have hT' := hT
    obtain ⟨a1, a2, a3, a4, a5, a6, a7⟩ := hT'
    obtain ⟨c1, c2, c3⟩ := a5 (Or.inr rfl)
    have hv : vcN b q k ≤ 100000 := by
      rw [vcm]
      split <;> omega
    unfold fX1_value_L7
    rw [r4]
    by_cases hk : e ≤ q + k
    · rw [if_pos (nI_le hk (by omega)), show k = e - q by omega]
    · have hd := dg_of hB (j := q + k) (by omega) (c2 _ (by omega) (by omega))
      have ih := val_loop hB hT ⟨r1, r2, r3, r4⟩ f (k + 1) (by omega) (by omega)
      rw [if_neg (nI_ge (by omega) (by omega)), cl_s (byte_c hB r1 (by omega)), bA_i (by omega), hd.2, bnd_s, bnd_s, nI_1, show (10 : Int32) = nI 10 from rfl, pk_mul, nI_add, show (48 : Int32) = nI 48 from rfl, pk_sub (by omega), show (100000 : Int32) = nI 100000 from rfl, mnI_n (by omega) (by decide), show vcN b q k * 10 + (48 + dgN b (q + k)) - 48 = vcN b q k * 10 + dgN b (q + k) by omega]
      rw [vcN] at ih
      exact ih
theorem val_c {t q e : Nat} {b : Row} {S : St} (hB : TpB t b) (hT : TK t b q 2 e) (hR : CR t b q 2 e S) : fX1_value S = some (nI (vcN b q (e - q)), S) := by
  obtain ⟨l1, l2, l3, l4⟩ := hT.lim hB
  have h := val_loop hB hT hR FU 0 (by omega) (by unfold FU; omega)
  unfold fX1_value
  rw [bnd_s, hR.2.2.1]
  exact h
theorem take_c {t q tok e most q' tok' e' : Nat} {b : Row} {S : St} (hB : TpB t b) (hT : TK t b q tok e) (hR : CR t b q tok e S) (hm : most < 99999) (h : tok = 2 ∧ vmN b q (e - q) ≤ most) (hs : SK t b e q') (hT' : TK t b q' tok' e') : ∃ S', fX1_takeNumber (nI most) S = some (1, S') ∧ CR t b q' tok' e' S' ∧ S' 30 5 = nI (vmN b q (e - q)) ∧ ∀ k, k ≠ 30 → S' k = S k := by
  obtain ⟨h1, h2⟩ := h
  subst h1
  have ev : vcN b q (e - q) = vmN b q (e - q) := by
    rw [vcm, if_pos (by omega)]
  have hv := val_c hB hT hR
  rw [ev] at hv
  obtain ⟨S', p1, p2, p3, p4, p5, p6⟩ := step_c (S := up2 S 30 5 (nI (vmN b q (e - q)))) (p := e) hB ⟨by rw [up2_qn (by decide)]; exact hR.1.1, fun j hj => by rw [up2_qn (by decide)]; exact hR.1.2 j hj⟩ (by rw [up2_qq, upd_n (by decide)]; exact hR.2.2.2) hs hT'
  have gk : ∀ k, k ≠ 30 → S' k = S k := fun k hk => by rw [p6 k hk, up2_qn hk]
  refine ⟨S', ?_, ⟨⟨by rw [gk 28 (by decide)]; exact hR.1.1, fun j hj => by rw [gk 29 (by decide)]; exact hR.1.2 j hj⟩, p2, p3, p4⟩, by rw [p5, up2_qq, upd_s], gk⟩
  have c2 : S 30 2 = 2 := hR.2.1
  unfold fX1_takeNumber
  rw [if_pos c2, cl_s hv, if_pos (nI_le h2 (by omega)), cl_s hv, bnd_s, cl_s p1, retN_1]
theorem take_n {t q tok e most : Nat} {b : Row} {S : St} (hB : TpB t b) (hT : TK t b q tok e) (hR : CR t b q tok e S) (hm : most < 99999) (h : ¬ (tok = 2 ∧ vmN b q (e - q) ≤ most)) : fX1_takeNumber (nI most) S = some (0, S) := by
  obtain ⟨l1, l2, l3, l4⟩ := hT.lim hB
  unfold fX1_takeNumber fX1_takeNumber_L16
  by_cases h1 : tok = 2
  · subst h1
    have hv := val_c hB hT hR
    have c2 : S 30 2 = 2 := hR.2.1
    have hb : vcN b q (e - q) ≤ 100000 := by
      rw [vcm]
      split <;> omega
    have hlt : most < vcN b q (e - q) := by
      rw [vcm]
      split
      · exact Nat.not_le.mp (fun z => h ⟨rfl, z⟩)
      · omega
    rw [if_pos c2, cl_s hv, if_neg (nI_ge hlt (by omega)), retN_0]
  · have c2 : ¬ S 30 2 = 2 := by
      rw [hR.2.1]
      exact fun z => h1 ((nI_eq (b := 2) (by omega) (by decide)).mp z)
    rw [if_neg c2, retN_0]
theorem num_m {t q tok e most : Nat} {b : Row} {S : St} (hB : TpB t b) (hT : TK t b q tok e) (hR : MR' t b q tok e S) (hm : most < 99999) (h : tok = 2 ∧ vmN b q (e - q) ≤ most) : fX5_isNumber 0 (nI most) S = some (1, S) := by
  obtain ⟨h1, h2⟩ := h
  have e14 := hR.2.2.2.2 h1
  have c2 : S 41 11 = 2 := by rw [hR.2.1, h1]; rfl
  unfold fX5_isNumber fX5_isNumber_L30 fX5_isNumber_L35
  rw [if_pos c2, e14, cl_s (isIn_l _ 0 _ rfl rfl _), b2i_t ⟨nI_pos (by omega), nI_nlt h2 (by omega)⟩, if_neg one_ne, retN_1]
theorem num_n {t q tok e most : Nat} {b : Row} {S : St} (hB : TpB t b) (hT : TK t b q tok e) (hR : MR' t b q tok e S) (hm : most < 99999) (h : ¬ (tok = 2 ∧ vmN b q (e - q) ≤ most)) : fX5_isNumber 0 (nI most) S = some (0, up2 S 41 15 (nI q)) := by
  obtain ⟨l1, l2, l3, l4⟩ := hT.lim hB
  have hf : fX5_isNumber_L23 S = some (0, up2 S 41 15 (nI q)) := by
    unfold fX5_isNumber_L23 fX5_fails fX5_isNumber_L35
    rw [bnd_s, hR.2.2.1, retN_0, cl_sm, if_pos rfl, retN_0]
  unfold fX5_isNumber
  by_cases h1 : tok = 2
  · have e14 := hR.2.2.2.2 h1
    have c2 : S 41 11 = 2 := by rw [hR.2.1, h1]; rfl
    have hT2 := hT
    subst h1
    obtain ⟨a1, a2, a3, a4, a5, a6, a7⟩ := hT2
    have hv := vm_lt hB a4 (a5 (Or.inr rfl)).2.1 (e - q) (by omega)
    have hlt : most < vmN b q (e - q) := Nat.not_le.mp (fun z => h ⟨rfl, z⟩)
    rw [if_pos c2, e14, cl_s (isIn_l _ 0 _ rfl rfl _), b2i_f (fun z => z.2 (nI_lt hlt (by omega))), if_pos rfl, hf]
  · have c2 : ¬ S 41 11 = 2 := by
      rw [hR.2.1]
      exact fun z => h1 ((nI_eq (b := 2) (by omega) (by decide)).mp z)
    rw [if_neg c2, hf]
