-- isMissing()Z
def fX2_isMissing_L12 (q : Nat) (y0 : Int32) (S : St) : Option (Int32 × St) :=
  retN .boolean y0 S
theorem sX2_isMissing_L12 {q : Nat} (hq : isS q) {r : Int32} {S9 : St} {y0 : Int32} {S : St} (h : fX2_isMissing_L12 q y0 S = some (r, S9)) : PW mX2_isMissing (some (.int r), S9) 12 [none] [.int y0] S := by
  unfold fX2_isMissing_L12 at h
  exact s_zret h (k := 6) rfl rfl
def fX2_isMissing (q : Nat) (S : St) : Option (Int32 × St) :=
  if (S q 1) = 0 then
    fX2_isMissing_L12 q 1 S
  else
    fX2_isMissing_L12 q 0 S
theorem sX2_isMissing {q : Nat} (hq : isS q) {S : St} {r : Int32} {S9 : St} (h : fX2_isMissing q S = some (r, S9)) : PW mX2_isMissing (some (.int r), S9) 0 [some (.ref q)] [] S := by
  unfold fX2_isMissing at h
  refine p_aload_n (k := 0) (i := 0) rfl rfl rfl ?_
  refine p_geti (k := 1) rfl (lay_s hq) rfl fl_RX2_13 ?_
  refine p_if_ne (k := 2) 11 rfl (by decide) (fun hc => ?_) (fun hc => ?_)
  · rw [if_neg hc] at h
    refine p_iconst (k := 5) 0 rfl (by decide) ?_
    refine p_msk [false] (L2 := [none]) rfl ?_
    exact sX2_isMissing_L12 hq h
  · rw [if_pos hc] at h
    refine p_iconst (k := 3) 1 rfl (by decide) ?_
    refine p_goto (k := 4) 12 rfl (by decide) ?_
    refine p_msk [false] (L2 := [none]) rfl ?_
    exact sX2_isMissing_L12 hq h
theorem tX2_isMissing {q : Nat} (hq : isS q) {S : St} {r : Int32} {S9 : St} (h : fX2_isMissing q S = some (r, S9)) : MR yX2_isMissing cX2_isMissing mX2_isMissing [.ref q] S (some (.int r), S9) := MR.of (n := 0) okX2_isMissing rfl rfl (sX2_isMissing hq h)
-- begin(II)V
def fX2_begin_L20 (q : Nat) : Nat → Int32 → St → Option (Unit × St)
  | 0 => fun _ _ => none
  | n + 1 => fun x3 S =>
    if 40 ≤ x3 then
      some ((), S)
    else
      wr S (q + 1) 40 x3 0 fun S1 =>
      bnd (x3 + 1) fun v1 =>
      fX2_begin_L20 q n v1 S1
theorem sX2_begin_L20 {q : Nat} (hq : isS q) {r : Unit} {S9 : St} : ∀ (n : Nat) (x3 : Int32) (S : St), fX2_begin_L20 q n x3 S = some (r, S9) → PW mX2_begin (none, S9) 20 [some (.ref q), none, none, some (.int x3)] [] S := by
  intro n
  induction n with
  | zero => intro x3 S h; cases h
  | succ n ih =>
    intro x3 S h
    unfold fX2_begin_L20 at h
    refine p_iload_n (k := 12) (i := 3) rfl rfl rfl ?_
    refine p_bipush (k := 13) 40 rfl (by decide) ?_
    refine p_icmp_ge (k := 14) 39 rfl (by decide) (fun hc => ?_) (fun hc => ?_)
    · rw [if_pos hc] at h
      exact s_vret h (k := 22) rfl rfl
    · rw [if_neg hc] at h
      refine p_aload_n (k := 15) (i := 0) rfl rfl rfl ?_
      refine p_getr (k := 16) rfl (lay_s hq) rfl fl_RX2_9 ?_
      refine p_iload_n (k := 17) (i := 3) rfl rfl rfl ?_
      refine p_iconst (k := 18) 0 rfl (by decide) ?_
      refine s_wr h (k := 19) rfl (lay_s0 hq) (fun S1 h => ?_)
      obtain ⟨v1, ev1, h⟩ := bnd_ex h
      refine p_iinc (k := 20) v1 [some (.ref q), none, none, some (.int v1)] rfl rfl (by rw [← ev1]; rfl) rfl (by decide) rfl ?_
      refine p_goto (k := 21) 20 rfl (by decide) ?_
      refine p_msk [true, false, false, true] (L2 := [some (.ref q), none, none, some (.int v1)]) rfl ?_
      exact ih _ _ h
def fX2_begin_L15 (q : Nat) (y1 : Int32) (S : St) : Option (Unit × St) :=
  bnd (up2 S q 2 y1) fun S1 =>
  fX2_begin_L20 q FU 0 S1
theorem sX2_begin_L15 {q : Nat} (hq : isS q) {r : Unit} {S9 : St} {y1 : Int32} {S : St} (h : fX2_begin_L15 q y1 S = some (r, S9)) : PW mX2_begin (none, S9) 15 [some (.ref q), none, none, none] [.int y1, .ref q] S := by
  unfold fX2_begin_L15 at h
  refine s_put h (k := 9) rfl (lay_s hq) rfl fl_RX2_17 fp_2_2 rfl rfl (fun S1 h => ?_)
  refine p_iconst (k := 10) 0 rfl (by decide) ?_
  refine p_istore_n (k := 11) 3 [some (.ref q), none, none, some (.int 0)] rfl rfl rfl (by decide) rfl ?_
  refine p_msk [true, false, false, true] (L2 := [some (.ref q), none, none, some (.int 0)]) rfl ?_
  exact sX2_begin_L20 hq _ _ _ h
def fX2_begin (q : Nat) (a1 : Int32) (a2 : Int32) (S : St) : Option (Unit × St) :=
  bnd (up2 S q 1 a1) fun S1 =>
  if a1 = 0 then
    fX2_begin_L15 q 0 S1
  else
    fX2_begin_L15 q a2 S1
theorem sX2_begin {q : Nat} {a1 : Int32} {a2 : Int32} (hq : isS q) {S : St} {r : Unit} {S9 : St} (h : fX2_begin q a1 a2 S = some (r, S9)) : PW mX2_begin (none, S9) 0 [some (.ref q), some (.int a1), some (.int a2), none] [] S := by
  unfold fX2_begin at h
  refine p_aload_n (k := 0) (i := 0) rfl rfl rfl ?_
  refine p_iload_n (k := 1) (i := 1) rfl rfl rfl ?_
  refine s_put h (k := 2) rfl (lay_s hq) rfl fl_RX2_13 fp_2_1 rfl rfl (fun S1 h => ?_)
  refine p_aload_n (k := 3) (i := 0) rfl rfl rfl ?_
  refine p_iload_n (k := 4) (i := 1) rfl rfl rfl ?_
  refine p_if_ne (k := 5) 14 rfl (by decide) (fun hc => ?_) (fun hc => ?_)
  · rw [if_neg hc] at h
    refine p_iload_n (k := 8) (i := 2) rfl rfl rfl ?_
    refine p_msk [true, false, false, false] (L2 := [some (.ref q), none, none, none]) rfl ?_
    exact sX2_begin_L15 hq h
  · rw [if_pos hc] at h
    refine p_iconst (k := 6) 0 rfl (by decide) ?_
    refine p_goto (k := 7) 15 rfl (by decide) ?_
    refine p_msk [true, false, false, false] (L2 := [some (.ref q), none, none, none]) rfl ?_
    exact sX2_begin_L15 hq h
theorem tX2_begin {q : Nat} {a1 : Int32} {a2 : Int32} (hq : isS q) {S : St} {r : Unit} {S9 : St} (h : fX2_begin q a1 a2 S = some (r, S9)) : MR yX2_begin cX2_begin mX2_begin [.ref q, .int a1, .int a2] S (none, S9) := MR.of (n := 1) okX2_begin rfl rfl (sX2_begin hq h)
-- cut(I)I
def fX2_cut (q : Nat) (a1 : Int32) (S : St) : Option (Int32 × St) :=
  bnd (S q 1) fun v1 =>
  if v1 = 8 then
    some ((Int32.toInt8 a1).toInt32, S)
  else
  if v1 = 16 then
    some ((Int32.toInt16 a1).toInt32, S)
  else
  some (a1, S)
theorem sX2_cut {q : Nat} {a1 : Int32} (hq : isS q) {S : St} {r : Int32} {S9 : St} (h : fX2_cut q a1 S = some (r, S9)) : PW mX2_cut (some (.int r), S9) 0 [some (.ref q), some (.int a1)] [] S := by
  unfold fX2_cut at h
  refine p_aload_n (k := 0) (i := 0) rfl rfl rfl ?_
  refine p_geti (k := 1) rfl (lay_s hq) rfl fl_RX2_13 ?_
  refine s_bnd h (fun v1 h => ?_)
  by_cases hx0 : v1 = 8
  · rw [if_pos hx0] at h
    refine p_lookup (k := 2) (off := 28) 32 rfl (by decide) (by rw [hx0]; decide) (by decide) ?_
    refine p_iload_n (k := 3) (i := 1) rfl rfl rfl ?_
    refine p_i2b (k := 4) rfl ?_
    exact s_iret h (k := 5) rfl rfl
  rw [if_neg hx0] at h
  by_cases hx1 : v1 = 16
  · rw [if_pos hx1] at h
    refine p_lookup (k := 2) (off := 31) 35 rfl (by decide) (by rw [hx1]; decide) (by decide) ?_
    refine p_iload_n (k := 6) (i := 1) rfl rfl rfl ?_
    refine p_i2s (k := 7) rfl ?_
    exact s_iret h (k := 8) rfl rfl
  rw [if_neg hx1] at h
  have hz0 := toInt_ne hx0 (z := 8) (by decide)
  have hz1 := toInt_ne hx1 (z := 16) (by decide)
  refine p_lookup (k := 2) (off := 34) 38 rfl (by decide) (by refine (lv_osw hx0 (by decide)).trans ?_; refine (lv_osw hx1 (by decide)).trans ?_; rfl) (by decide) ?_
  refine p_iload_n (k := 9) (i := 1) rfl rfl rfl ?_
  exact s_iret h (k := 10) rfl rfl
theorem tX2_cut {q : Nat} {a1 : Int32} (hq : isS q) {S : St} {r : Int32} {S9 : St} (h : fX2_cut q a1 S = some (r, S9)) : MR yX2_cut cX2_cut mX2_cut [.ref q, .int a1] S (some (.int r), S9) := MR.of (n := 0) okX2_cut rfl rfl (sX2_cut hq h)
-- hasRange(II)Z
def fX2_hasRange_L31 (q : Nat) (y0 : Int32) (S : St) : Option (Int32 × St) :=
  retN .boolean y0 S
theorem sX2_hasRange_L31 {q : Nat} (hq : isS q) {r : Int32} {S9 : St} {y0 : Int32} {S : St} (h : fX2_hasRange_L31 q y0 S = some (r, S9)) : PW mX2_hasRange (some (.int r), S9) 31 [none, none, none] [.int y0] S := by
  unfold fX2_hasRange_L31 at h
  exact s_zret h (k := 17) rfl rfl
def fX2_hasRange_L30 (q : Nat) (S : St) : Option (Int32 × St) :=
  fX2_hasRange_L31 q 0 S
theorem sX2_hasRange_L30 {q : Nat} (hq : isS q) {r : Int32} {S9 : St}  {S : St} (h : fX2_hasRange_L30 q S = some (r, S9)) : PW mX2_hasRange (some (.int r), S9) 30 [none, none, none] [] S := by
  unfold fX2_hasRange_L30 at h
  refine p_iconst (k := 16) 0 rfl (by decide) ?_
  refine p_msk [false, false, false] (L2 := [none, none, none]) rfl ?_
  exact sX2_hasRange_L31 hq h
def fX2_hasRange (q : Nat) (a1 : Int32) (a2 : Int32) (S : St) : Option (Int32 × St) :=
  if a1 < 0 then
    fX2_hasRange_L30 q S
  else
    if a2 < 0 then
      fX2_hasRange_L30 q S
    else
      if (S q 2) < a2 then
        fX2_hasRange_L30 q S
      else
        if ((S q 2) - a2) < a1 then
          fX2_hasRange_L30 q S
        else
          fX2_hasRange_L31 q 1 S
theorem sX2_hasRange {q : Nat} {a1 : Int32} {a2 : Int32} (hq : isS q) {S : St} {r : Int32} {S9 : St} (h : fX2_hasRange q a1 a2 S = some (r, S9)) : PW mX2_hasRange (some (.int r), S9) 0 [some (.ref q), some (.int a1), some (.int a2)] [] S := by
  unfold fX2_hasRange at h
  refine p_iload_n (k := 0) (i := 1) rfl rfl rfl ?_
  refine p_if_lt (k := 1) 30 rfl (by decide) (fun hc => ?_) (fun hc => ?_)
  · rw [if_pos hc] at h
    refine p_msk [false, false, false] (L2 := [none, none, none]) rfl ?_
    exact sX2_hasRange_L30 hq h
  · rw [if_neg hc] at h
    refine p_iload_n (k := 2) (i := 2) rfl rfl rfl ?_
    refine p_if_lt (k := 3) 30 rfl (by decide) (fun hc => ?_) (fun hc => ?_)
    · rw [if_pos hc] at h
      refine p_msk [false, false, false] (L2 := [none, none, none]) rfl ?_
      exact sX2_hasRange_L30 hq h
    · rw [if_neg hc] at h
      refine p_iload_n (k := 4) (i := 2) rfl rfl rfl ?_
      refine p_aload_n (k := 5) (i := 0) rfl rfl rfl ?_
      refine p_geti (k := 6) rfl (lay_s hq) rfl fl_RX2_17 ?_
      refine p_icmp_gt (k := 7) 30 rfl (by decide) (fun hc => ?_) (fun hc => ?_)
      · rw [if_pos hc] at h
        refine p_msk [false, false, false] (L2 := [none, none, none]) rfl ?_
        exact sX2_hasRange_L30 hq h
      · rw [if_neg hc] at h
        refine p_iload_n (k := 8) (i := 1) rfl rfl rfl ?_
        refine p_aload_n (k := 9) (i := 0) rfl rfl rfl ?_
        refine p_geti (k := 10) rfl (lay_s hq) rfl fl_RX2_17 ?_
        refine p_iload_n (k := 11) (i := 2) rfl rfl rfl ?_
        refine p_isub (k := 12) rfl ?_
        refine p_icmp_gt (k := 13) 30 rfl (by decide) (fun hc => ?_) (fun hc => ?_)
        · rw [if_pos hc] at h
          refine p_msk [false, false, false] (L2 := [none, none, none]) rfl ?_
          exact sX2_hasRange_L30 hq h
        · rw [if_neg hc] at h
          refine p_iconst (k := 14) 1 rfl (by decide) ?_
          refine p_goto (k := 15) 31 rfl (by decide) ?_
          refine p_msk [false, false, false] (L2 := [none, none, none]) rfl ?_
          exact sX2_hasRange_L31 hq h
theorem tX2_hasRange {q : Nat} {a1 : Int32} {a2 : Int32} (hq : isS q) {S : St} {r : Int32} {S9 : St} (h : fX2_hasRange q a1 a2 S = some (r, S9)) : MR yX2_hasRange cX2_hasRange mX2_hasRange [.ref q, .int a1, .int a2] S (some (.int r), S9) := MR.of (n := 0) okX2_hasRange rfl rfl (sX2_hasRange hq h)
-- append(II)V
def fX3_append_L4 : Nat → Int32 → Int32 → St → Option (Unit × St)
  | 0 => fun _ _ _ => none
  | n + 1 => fun x1 x3 S =>
    if x3 < 0 then
      some ((), S)
    else
      wr S 29 120 (S 28 1) ((((x1 : Int32).toUInt32 >>> ((8 * x3 : Int32).toUInt32 &&& Int32.toUInt32 31)).toInt32) &&& 255) fun S1 =>
      bnd (up2 S1 28 1 ((S1 28 1) + 1)) fun S2 =>
      bnd (x3 + (-1)) fun v1 =>
      fX3_append_L4 n x1 v1 S2
theorem sX3_append_L4 {r : Unit} {S9 : St} : ∀ (n : Nat) (x1 : Int32) (x3 : Int32) (S : St), fX3_append_L4 n x1 x3 S = some (r, S9) → PW mX3_append (none, S9) 4 [some (.ref 28), some (.int x1), none, some (.int x3)] [] S := by
  intro n
  induction n with
  | zero => intro x1 x3 S h; cases h
  | succ n ih =>
    intro x1 x3 S h
    unfold fX3_append_L4 at h
    refine p_iload_n (k := 4) (i := 3) rfl rfl rfl ?_
    refine p_if_lt (k := 5) 43 rfl (by decide) (fun hc => ?_) (fun hc => ?_)
    · rw [if_pos hc] at h
      exact s_vret h (k := 26) rfl rfl
    · rw [if_neg hc] at h
      refine p_aload_n (k := 6) (i := 0) rfl rfl rfl ?_
      refine p_getr (k := 7) rfl lay_X3 rfl fl_RX3_9 ?_
      refine p_aload_n (k := 8) (i := 0) rfl rfl rfl ?_
      refine p_geti (k := 9) rfl lay_X3 rfl fl_RX3_13 ?_
      refine p_iload_n (k := 10) (i := 1) rfl rfl rfl ?_
      refine p_bipush (k := 11) 8 rfl (by decide) ?_
      refine p_iload_n (k := 12) (i := 3) rfl rfl rfl ?_
      refine p_imul (k := 13) rfl ?_
      refine p_iushr (k := 14) rfl ?_
      refine p_sipush (k := 15) 255 rfl (by decide) ?_
      refine p_iand (k := 16) rfl ?_
      refine s_wr h (k := 17) rfl lay_29 (fun S1 h => ?_)
      refine p_aload_n (k := 18) (i := 0) rfl rfl rfl ?_
      refine p_dup (k := 19) rfl rfl ?_
      refine p_geti (k := 20) rfl lay_X3 rfl fl_RX3_13 ?_
      refine p_iconst (k := 21) 1 rfl (by decide) ?_
      refine p_iadd (k := 22) rfl ?_
      refine s_put h (k := 23) rfl lay_X3 rfl fl_RX3_13 fp_3_1 rfl rfl (fun S2 h => ?_)
      obtain ⟨v1, ev1, h⟩ := bnd_ex h
      refine p_iinc (k := 24) v1 [some (.ref 28), some (.int x1), none, some (.int v1)] rfl rfl (by rw [← ev1]; rfl) rfl (by decide) rfl ?_
      refine p_goto (k := 25) 4 rfl (by decide) ?_
      refine p_msk [true, true, false, true] (L2 := [some (.ref 28), some (.int x1), none, some (.int v1)]) rfl ?_
      exact ih _ _ _ h
def fX3_append (a1 : Int32) (a2 : Int32) (S : St) : Option (Unit × St) :=
  bnd (a2 - 1) fun v1 =>
  fX3_append_L4 FU a1 v1 S
theorem sX3_append {a1 : Int32} {a2 : Int32} {S : St} {r : Unit} {S9 : St} (h : fX3_append a1 a2 S = some (r, S9)) : PW mX3_append (none, S9) 0 [some (.ref 28), some (.int a1), some (.int a2), none] [] S := by
  unfold fX3_append at h
  refine p_iload_n (k := 0) (i := 2) rfl rfl rfl ?_
  refine p_iconst (k := 1) 1 rfl (by decide) ?_
  refine p_isub (k := 2) rfl ?_
  refine s_bnd h (fun v1 h => ?_)
  refine p_istore_n (k := 3) 3 [some (.ref 28), some (.int a1), some (.int a2), some (.int v1)] rfl rfl rfl (by decide) rfl ?_
  refine p_msk [true, true, false, true] (L2 := [some (.ref 28), some (.int a1), none, some (.int v1)]) rfl ?_
  exact sX3_append_L4 _ _ _ _ h
theorem tX3_append {a1 : Int32} {a2 : Int32} {S : St} {r : Unit} {S9 : St} (h : fX3_append a1 a2 S = some (r, S9)) : MR yX3_append cX3_append mX3_append [.ref 28, .int a1, .int a2] S (none, S9) := MR.of (n := 1) okX3_append rfl rfl (sX3_append h)
-- byteAt(I)I
def fX3_byteAt_L22 (y0 : Int32) (S : St) : Option (Int32 × St) :=
  some (y0, S)
theorem sX3_byteAt_L22 {r : Int32} {S9 : St} {y0 : Int32} {S : St} (h : fX3_byteAt_L22 y0 S = some (r, S9)) : PW mX3_byteAt (some (.int r), S9) 22 [none, none] [.int y0] S := by
  unfold fX3_byteAt_L22 at h
  exact s_iret h (k := 12) rfl rfl
def fX3_byteAt_L21 (S : St) : Option (Int32 × St) :=
  fX3_byteAt_L22 (-1) S
theorem sX3_byteAt_L21 {r : Int32} {S9 : St}  {S : St} (h : fX3_byteAt_L21 S = some (r, S9)) : PW mX3_byteAt (some (.int r), S9) 21 [none, none] [] S := by
  unfold fX3_byteAt_L21 at h
  refine p_iconst (k := 11) (-1) rfl (by decide) ?_
  refine p_msk [false, false] (L2 := [none, none]) rfl ?_
  exact sX3_byteAt_L22 h
def fX3_byteAt (a1 : Int32) (S : St) : Option (Int32 × St) :=
  if a1 < 0 then
    fX3_byteAt_L21 S
  else
    if (S 28 1) ≤ a1 then
      fX3_byteAt_L21 S
    else
      rd S 29 120 a1 fun v1 =>
      fX3_byteAt_L22 v1 S
theorem sX3_byteAt {a1 : Int32} {S : St} {r : Int32} {S9 : St} (h : fX3_byteAt a1 S = some (r, S9)) : PW mX3_byteAt (some (.int r), S9) 0 [some (.ref 28), some (.int a1)] [] S := by
  unfold fX3_byteAt at h
  refine p_iload_n (k := 0) (i := 1) rfl rfl rfl ?_
  refine p_if_lt (k := 1) 21 rfl (by decide) (fun hc => ?_) (fun hc => ?_)
  · rw [if_pos hc] at h
    refine p_msk [false, false] (L2 := [none, none]) rfl ?_
    exact sX3_byteAt_L21 h
  · rw [if_neg hc] at h
    refine p_iload_n (k := 2) (i := 1) rfl rfl rfl ?_
    refine p_aload_n (k := 3) (i := 0) rfl rfl rfl ?_
    refine p_geti (k := 4) rfl lay_X3 rfl fl_RX3_13 ?_
    refine p_icmp_ge (k := 5) 21 rfl (by decide) (fun hc => ?_) (fun hc => ?_)
    · rw [if_pos hc] at h
      refine p_msk [false, false] (L2 := [none, none]) rfl ?_
      exact sX3_byteAt_L21 h
    · rw [if_neg hc] at h
      refine p_aload_n (k := 6) (i := 0) rfl rfl rfl ?_
      refine p_getr (k := 7) rfl lay_X3 rfl fl_RX3_9 ?_
      refine p_iload_n (k := 8) (i := 1) rfl rfl rfl ?_
      refine s_rd h (k := 9) rfl lay_29 (fun v1 h => ?_)
      refine p_goto (k := 10) 22 rfl (by decide) ?_
      refine p_msk [false, false] (L2 := [none, none]) rfl ?_
      exact sX3_byteAt_L22 h
theorem tX3_byteAt {a1 : Int32} {S : St} {r : Int32} {S9 : St} (h : fX3_byteAt a1 S = some (r, S9)) : MR yX3_byteAt cX3_byteAt mX3_byteAt [.ref 28, .int a1] S (some (.int r), S9) := MR.of (n := 0) okX3_byteAt rfl rfl (sX3_byteAt h)
-- tokenBeginningWith(I)I
def fX1_tokenBeginningWith_L45 (y0 : Int32) (S : St) : Option (Int32 × St) :=
  some (y0, S)
theorem sX1_tokenBeginningWith_L45 {r : Int32} {S9 : St} {y0 : Int32} {S : St} (h : fX1_tokenBeginningWith_L45 y0 S = some (r, S9)) : PW mX1_tokenBeginningWith (some (.int r), S9) 45 [none] [.int y0] S := by
  unfold fX1_tokenBeginningWith_L45 at h
  exact s_iret h (k := 26) rfl rfl
def fX1_tokenBeginningWith_L34 (x0 : Int32) (S : St) : Option (Int32 × St) :=
  if x0 = 59 then
    fX1_tokenBeginningWith_L45 3 S
  else
    fX1_tokenBeginningWith_L45 4 S
theorem sX1_tokenBeginningWith_L34 {r : Int32} {S9 : St} {x0 : Int32} {S : St} (h : fX1_tokenBeginningWith_L34 x0 S = some (r, S9)) : PW mX1_tokenBeginningWith (some (.int r), S9) 34 [some (.int x0)] [] S := by
  unfold fX1_tokenBeginningWith_L34 at h
  refine p_iload_n (k := 20) (i := 0) rfl rfl rfl ?_
  refine p_bipush (k := 21) 59 rfl (by decide) ?_
  refine p_icmp_ne (k := 22) 44 rfl (by decide) (fun hc => ?_) (fun hc => ?_)
  · rw [if_neg hc] at h
    refine p_iconst (k := 25) 4 rfl (by decide) ?_
    refine p_msk [false] (L2 := [none]) rfl ?_
    exact sX1_tokenBeginningWith_L45 h
  · rw [if_pos hc] at h
    refine p_iconst (k := 23) 3 rfl (by decide) ?_
    refine p_goto (k := 24) 45 rfl (by decide) ?_
    refine p_msk [false] (L2 := [none]) rfl ?_
    exact sX1_tokenBeginningWith_L45 h
def fX1_tokenBeginningWith_L20 (x0 : Int32) (S : St) : Option (Int32 × St) :=
  if x0 < 48 then
    fX1_tokenBeginningWith_L34 x0 S
  else
    if 57 < x0 then
      fX1_tokenBeginningWith_L34 x0 S
    else
      some (2, S)
theorem sX1_tokenBeginningWith_L20 {r : Int32} {S9 : St} {x0 : Int32} {S : St} (h : fX1_tokenBeginningWith_L20 x0 S = some (r, S9)) : PW mX1_tokenBeginningWith (some (.int r), S9) 20 [some (.int x0)] [] S := by
  unfold fX1_tokenBeginningWith_L20 at h
  refine p_iload_n (k := 12) (i := 0) rfl rfl rfl ?_
  refine p_bipush (k := 13) 48 rfl (by decide) ?_
  refine p_icmp_lt (k := 14) 34 rfl (by decide) (fun hc => ?_) (fun hc => ?_)
  · rw [if_pos hc] at h
    refine p_msk [true] (L2 := [some (.int x0)]) rfl ?_
    exact sX1_tokenBeginningWith_L34 h
  · rw [if_neg hc] at h
    refine p_iload_n (k := 15) (i := 0) rfl rfl rfl ?_
    refine p_bipush (k := 16) 57 rfl (by decide) ?_
    refine p_icmp_gt (k := 17) 34 rfl (by decide) (fun hc => ?_) (fun hc => ?_)
    · rw [if_pos hc] at h
      refine p_msk [true] (L2 := [some (.int x0)]) rfl ?_
      exact sX1_tokenBeginningWith_L34 h
    · rw [if_neg hc] at h
      refine p_iconst (k := 18) 2 rfl (by decide) ?_
      exact s_iret h (k := 19) rfl rfl
def fX1_tokenBeginningWith (a1 : Int32) (S : St) : Option (Int32 × St) :=
  if 0 ≤ a1 then
    if a1 < 97 then
      fX1_tokenBeginningWith_L20 a1 S
    else
      if 122 < a1 then
        fX1_tokenBeginningWith_L20 a1 S
      else
        some (1, S)
  else
    some (0, S)
theorem sX1_tokenBeginningWith {a1 : Int32} {S : St} {r : Int32} {S9 : St} (h : fX1_tokenBeginningWith a1 S = some (r, S9)) : PW mX1_tokenBeginningWith (some (.int r), S9) 0 [some (.int a1)] [] S := by
  unfold fX1_tokenBeginningWith at h
  refine p_iload_n (k := 0) (i := 0) rfl rfl rfl ?_
  refine p_if_ge (k := 1) 6 rfl (by decide) (fun hc => ?_) (fun hc => ?_)
  · rw [if_pos hc] at h
    refine p_iload_n (k := 4) (i := 0) rfl rfl rfl ?_
    refine p_bipush (k := 5) 97 rfl (by decide) ?_
    refine p_icmp_lt (k := 6) 20 rfl (by decide) (fun hc => ?_) (fun hc => ?_)
    · rw [if_pos hc] at h
      refine p_msk [true] (L2 := [some (.int a1)]) rfl ?_
      exact sX1_tokenBeginningWith_L20 h
    · rw [if_neg hc] at h
      refine p_iload_n (k := 7) (i := 0) rfl rfl rfl ?_
      refine p_bipush (k := 8) 122 rfl (by decide) ?_
      refine p_icmp_gt (k := 9) 20 rfl (by decide) (fun hc => ?_) (fun hc => ?_)
      · rw [if_pos hc] at h
        refine p_msk [true] (L2 := [some (.int a1)]) rfl ?_
        exact sX1_tokenBeginningWith_L20 h
      · rw [if_neg hc] at h
        refine p_iconst (k := 10) 1 rfl (by decide) ?_
        exact s_iret h (k := 11) rfl rfl
  · rw [if_neg hc] at h
    refine p_iconst (k := 2) 0 rfl (by decide) ?_
    exact s_iret h (k := 3) rfl rfl
theorem tX1_tokenBeginningWith {a1 : Int32} {S : St} {r : Int32} {S9 : St} (h : fX1_tokenBeginningWith a1 S = some (r, S9)) : MR yX1_tokenBeginningWith cX1_tokenBeginningWith mX1_tokenBeginningWith [.int a1] S (some (.int r), S9) := MR.of (n := 0) okX1_tokenBeginningWith rfl rfl (sX1_tokenBeginningWith h)
-- stepOn()V
def fX1_stepOn_L159 (S : St) : Option (Unit × St) :=
  some ((), S)
theorem sX1_stepOn_L159 {r : Unit} {S9 : St}  {S : St} (h : fX1_stepOn_L159 S = some (r, S9)) : PW mX1_stepOn (none, S9) 159 [none] [] S := by
  unfold fX1_stepOn_L159 at h
  exact s_vret h (k := 76) rfl rfl
def fX1_stepOn_L93 : Nat → St → Option (Unit × St)
  | 0 => fun _ => none
  | n + 1 => fun S =>
    if (S 28 1) ≤ (S 30 4) then
      fX1_stepOn_L159 S
    else
      cl (fX3_byteAt (S 30 4) S) fun v1 S1 =>
      cl (fX1_tokenBeginningWith v1 S1) fun v2 S2 =>
      if v2 = (S2 30 2) then
        bnd (up2 S2 30 4 ((S2 30 4) + 1)) fun S3 =>
        fX1_stepOn_L93 n S3
      else
        fX1_stepOn_L159 S2
theorem sX1_stepOn_L93 {r : Unit} {S9 : St} : ∀ (n : Nat) (S : St), fX1_stepOn_L93 n S = some (r, S9) → PW mX1_stepOn (none, S9) 93 [some (.ref 30)] [] S := by
  intro n
  induction n with
  | zero => intro S h; cases h
  | succ n ih =>
    intro S h
    unfold fX1_stepOn_L93 at h
    refine p_aload_n (k := 44) (i := 0) rfl rfl rfl ?_
    refine p_geti (k := 45) rfl lay_X1 rfl fl_RX1_19 ?_
    refine p_aload_n (k := 46) (i := 0) rfl rfl rfl ?_
    refine p_getr (k := 47) rfl lay_X1 rfl fl_RX1_9 ?_
    refine p_geti (k := 48) rfl lay_X3 rfl fl_RX1_138 ?_
    refine p_icmp_ge (k := 49) 159 rfl (by decide) (fun hc => ?_) (fun hc => ?_)
    · rw [if_pos hc] at h
      refine p_msk [false] (L2 := [none]) rfl ?_
      exact sX1_stepOn_L159 h
    · rw [if_neg hc] at h
      refine p_aload_n (k := 50) (i := 0) rfl rfl rfl ?_
      refine p_getr (k := 51) rfl lay_X1 rfl fl_RX1_9 ?_
      refine p_aload_n (k := 52) (i := 0) rfl rfl rfl ?_
      refine p_geti (k := 53) rfl lay_X1 rfl fl_RX1_19 ?_
      obtain ⟨v1, S1, hcS1, h⟩ := cl_some h
      refine p_callV (k := 54) [.int (S 30 4)] [] rfl (tX3_byteAt hcS1) lay_X3 rfl lc_X3_byteAt ml_RX1_119 mi_X3_byteAt mv_X3_byteAt (by decide) (by decide) (Nat.le_of_ble_eq_true rfl) rfl ?_
      obtain ⟨v2, S2, hcS2, h⟩ := cl_some h
      refine p_callS (k := 55) [.int v1] [] rfl (tX1_tokenBeginningWith hcS2) lc_X1_tokenBeginningWith ml_RX1_140 ms_X1_tokenBeginningWith (by decide) (by decide) (Nat.le_of_ble_eq_true rfl) rfl ?_
      refine p_aload_n (k := 56) (i := 0) rfl rfl rfl ?_
      refine p_geti (k := 57) rfl lay_X1 rfl fl_RX1_35 ?_
      refine p_icmp_ne (k := 58) 159 rfl (by decide) (fun hc => ?_) (fun hc => ?_)
      · rw [if_neg hc] at h
        refine p_msk [false] (L2 := [none]) rfl ?_
        exact sX1_stepOn_L159 h
      · rw [if_pos hc] at h
        refine p_aload_n (k := 59) (i := 0) rfl rfl rfl ?_
        refine p_dup (k := 60) rfl rfl ?_
        refine p_geti (k := 61) rfl lay_X1 rfl fl_RX1_19 ?_
        refine p_iconst (k := 62) 1 rfl (by decide) ?_
        refine p_iadd (k := 63) rfl ?_
        refine s_put h (k := 64) rfl lay_X1 rfl fl_RX1_19 fp_1_4 rfl rfl (fun S3 h => ?_)
        refine p_goto (k := 65) 93 rfl (by decide) ?_
        refine p_msk [true] (L2 := [some (.ref 30)]) rfl ?_
        exact ih _ h
def fX1_stepOn_L51 (S : St) : Option (Unit × St) :=
  cl (fX3_byteAt (S 30 3) S) fun v1 S1 =>
  cl (fX1_tokenBeginningWith v1 S1) fun v2 S2 =>
  bnd (up2 S2 30 2 v2) fun S3 =>
  bnd (up2 S3 30 4 (S3 30 3)) fun S4 =>
  if (S4 30 2) = 1 then
    fX1_stepOn_L93 FU S4
  else
    if (S4 30 2) = 2 then
      fX1_stepOn_L93 FU S4
    else
      if (S4 30 2) = 3 then
        bnd (up2 S4 30 4 ((S4 30 4) + 1)) fun S5 =>
        fX1_stepOn_L159 S5
      else
        fX1_stepOn_L159 S4
theorem sX1_stepOn_L51 {r : Unit} {S9 : St}  {S : St} (h : fX1_stepOn_L51 S = some (r, S9)) : PW mX1_stepOn (none, S9) 51 [some (.ref 30)] [] S := by
  unfold fX1_stepOn_L51 at h
  refine p_aload_n (k := 24) (i := 0) rfl rfl rfl ?_
  refine p_aload_n (k := 25) (i := 0) rfl rfl rfl ?_
  refine p_getr (k := 26) rfl lay_X1 rfl fl_RX1_9 ?_
  refine p_aload_n (k := 27) (i := 0) rfl rfl rfl ?_
  refine p_geti (k := 28) rfl lay_X1 rfl fl_RX1_32 ?_
  obtain ⟨v1, S1, hcS1, h⟩ := cl_some h
  refine p_callV (k := 29) [.int (S 30 3)] [.ref 30] rfl (tX3_byteAt hcS1) lay_X3 rfl lc_X3_byteAt ml_RX1_119 mi_X3_byteAt mv_X3_byteAt (by decide) (by decide) (Nat.le_of_ble_eq_true rfl) rfl ?_
  obtain ⟨v2, S2, hcS2, h⟩ := cl_some h
  refine p_callS (k := 30) [.int v1] [.ref 30] rfl (tX1_tokenBeginningWith hcS2) lc_X1_tokenBeginningWith ml_RX1_140 ms_X1_tokenBeginningWith (by decide) (by decide) (Nat.le_of_ble_eq_true rfl) rfl ?_
  refine s_put h (k := 31) rfl lay_X1 rfl fl_RX1_35 fp_1_2 rfl rfl (fun S3 h => ?_)
  refine p_aload_n (k := 32) (i := 0) rfl rfl rfl ?_
  refine p_aload_n (k := 33) (i := 0) rfl rfl rfl ?_
  refine p_geti (k := 34) rfl lay_X1 rfl fl_RX1_32 ?_
  refine s_put h (k := 35) rfl lay_X1 rfl fl_RX1_19 fp_1_4 rfl rfl (fun S4 h => ?_)
  refine p_aload_n (k := 36) (i := 0) rfl rfl rfl ?_
  refine p_geti (k := 37) rfl lay_X1 rfl fl_RX1_35 ?_
  refine p_iconst (k := 38) 1 rfl (by decide) ?_
  refine p_icmp_eq (k := 39) 93 rfl (by decide) (fun hc => ?_) (fun hc => ?_)
  · rw [if_pos hc] at h
    refine p_msk [true] (L2 := [some (.ref 30)]) rfl ?_
    exact sX1_stepOn_L93 _ _ h
  · rw [if_neg hc] at h
    refine p_aload_n (k := 40) (i := 0) rfl rfl rfl ?_
    refine p_geti (k := 41) rfl lay_X1 rfl fl_RX1_35 ?_
    refine p_iconst (k := 42) 2 rfl (by decide) ?_
    refine p_icmp_ne (k := 43) 141 rfl (by decide) (fun hc => ?_) (fun hc => ?_)
    · rw [if_neg hc] at h
      refine p_aload_n (k := 66) (i := 0) rfl rfl rfl ?_
      refine p_geti (k := 67) rfl lay_X1 rfl fl_RX1_35 ?_
      refine p_iconst (k := 68) 3 rfl (by decide) ?_
      refine p_icmp_ne (k := 69) 159 rfl (by decide) (fun hc => ?_) (fun hc => ?_)
      · rw [if_neg hc] at h
        refine p_msk [false] (L2 := [none]) rfl ?_
        exact sX1_stepOn_L159 h
      · rw [if_pos hc] at h
        refine p_aload_n (k := 70) (i := 0) rfl rfl rfl ?_
        refine p_dup (k := 71) rfl rfl ?_
        refine p_geti (k := 72) rfl lay_X1 rfl fl_RX1_19 ?_
        refine p_iconst (k := 73) 1 rfl (by decide) ?_
        refine p_iadd (k := 74) rfl ?_
        refine s_put h (k := 75) rfl lay_X1 rfl fl_RX1_19 fp_1_4 rfl rfl (fun S5 h => ?_)
        refine p_msk [false] (L2 := [none]) rfl ?_
        exact sX1_stepOn_L159 h
    · rw [if_pos hc] at h
      refine p_msk [true] (L2 := [some (.ref 30)]) rfl ?_
      exact sX1_stepOn_L93 _ _ h
def fX1_stepOn_L8 : Nat → St → Option (Unit × St)
  | 0 => fun _ => none
  | n + 1 => fun S =>
    if (S 28 1) ≤ (S 30 3) then
      fX1_stepOn_L51 S
    else
      cl (fX3_byteAt (S 30 3) S) fun v1 S1 =>
      if v1 = 32 then
        bnd (up2 S1 30 3 ((S1 30 3) + 1)) fun S2 =>
        fX1_stepOn_L8 n S2
      else
        fX1_stepOn_L51 S1
theorem sX1_stepOn_L8 {r : Unit} {S9 : St} : ∀ (n : Nat) (S : St), fX1_stepOn_L8 n S = some (r, S9) → PW mX1_stepOn (none, S9) 8 [some (.ref 30)] [] S := by
  intro n
  induction n with
  | zero => intro S h; cases h
  | succ n ih =>
    intro S h
    unfold fX1_stepOn_L8 at h
    refine p_aload_n (k := 4) (i := 0) rfl rfl rfl ?_
    refine p_geti (k := 5) rfl lay_X1 rfl fl_RX1_32 ?_
    refine p_aload_n (k := 6) (i := 0) rfl rfl rfl ?_
    refine p_getr (k := 7) rfl lay_X1 rfl fl_RX1_9 ?_
    refine p_geti (k := 8) rfl lay_X3 rfl fl_RX1_138 ?_
    refine p_icmp_ge (k := 9) 51 rfl (by decide) (fun hc => ?_) (fun hc => ?_)
    · rw [if_pos hc] at h
      refine p_msk [true] (L2 := [some (.ref 30)]) rfl ?_
      exact sX1_stepOn_L51 h
    · rw [if_neg hc] at h
      refine p_aload_n (k := 10) (i := 0) rfl rfl rfl ?_
      refine p_getr (k := 11) rfl lay_X1 rfl fl_RX1_9 ?_
      refine p_aload_n (k := 12) (i := 0) rfl rfl rfl ?_
      refine p_geti (k := 13) rfl lay_X1 rfl fl_RX1_32 ?_
      obtain ⟨v1, S1, hcS1, h⟩ := cl_some h
      refine p_callV (k := 14) [.int (S 30 3)] [] rfl (tX3_byteAt hcS1) lay_X3 rfl lc_X3_byteAt ml_RX1_119 mi_X3_byteAt mv_X3_byteAt (by decide) (by decide) (Nat.le_of_ble_eq_true rfl) rfl ?_
      refine p_bipush (k := 15) 32 rfl (by decide) ?_
      refine p_icmp_ne (k := 16) 51 rfl (by decide) (fun hc => ?_) (fun hc => ?_)
      · rw [if_neg hc] at h
        refine p_msk [true] (L2 := [some (.ref 30)]) rfl ?_
        exact sX1_stepOn_L51 h
      · rw [if_pos hc] at h
        refine p_aload_n (k := 17) (i := 0) rfl rfl rfl ?_
        refine p_dup (k := 18) rfl rfl ?_
        refine p_geti (k := 19) rfl lay_X1 rfl fl_RX1_32 ?_
        refine p_iconst (k := 20) 1 rfl (by decide) ?_
        refine p_iadd (k := 21) rfl ?_
        refine s_put h (k := 22) rfl lay_X1 rfl fl_RX1_32 fp_1_3 rfl rfl (fun S2 h => ?_)
        refine p_goto (k := 23) 8 rfl (by decide) ?_
        refine p_msk [true] (L2 := [some (.ref 30)]) rfl ?_
        exact ih _ h
def fX1_stepOn (S : St) : Option (Unit × St) :=
  bnd (up2 S 30 3 (S 30 4)) fun S1 =>
  fX1_stepOn_L8 FU S1
theorem sX1_stepOn {S : St} {r : Unit} {S9 : St} (h : fX1_stepOn S = some (r, S9)) : PW mX1_stepOn (none, S9) 0 [some (.ref 30)] [] S := by
  unfold fX1_stepOn at h
  refine p_aload_n (k := 0) (i := 0) rfl rfl rfl ?_
  refine p_aload_n (k := 1) (i := 0) rfl rfl rfl ?_
  refine p_geti (k := 2) rfl lay_X1 rfl fl_RX1_19 ?_
  refine s_put h (k := 3) rfl lay_X1 rfl fl_RX1_32 fp_1_3 rfl rfl (fun S1 h => ?_)
  refine p_msk [true] (L2 := [some (.ref 30)]) rfl ?_
  exact sX1_stepOn_L8 _ _ h
theorem tX1_stepOn {S : St} {r : Unit} {S9 : St} (h : fX1_stepOn S = some (r, S9)) : MR yX1_stepOn cX1_stepOn mX1_stepOn [.ref 30] S (none, S9) := MR.of (n := 0) okX1_stepOn rfl rfl (sX1_stepOn h)
-- isWord(Ljava/lang/String;)Z
def fX1_isWord_L24 (a1 : Nat) (S : St) : Option (Int32 × St) :=
  retN .boolean 0 S
theorem sX1_isWord_L24 {a1 : Nat} (h1 : a1 < 13) {r : Int32} {S9 : St}  {S : St} (h : fX1_isWord_L24 a1 S = some (r, S9)) : PW mX1_isWord (some (.int r), S9) 24 [none, none, none] [] S := by
  unfold fX1_isWord_L24 at h
  refine p_iconst (k := 12) 0 rfl (by decide) ?_
  exact s_zret h (k := 13) rfl rfl
def fX1_isWord_L28 (a1 : Nat) : Nat → Int32 → St → Option (Int32 × St)
  | 0 => fun _ _ => none
  | n + 1 => fun x2 S =>
    cl (fJ0_length_8abf5 a1 S) fun v1 S1 =>
    if v1 ≤ x2 then
      retN .boolean 1 S1
    else
      cl (fX3_byteAt ((S1 30 3) + x2) S1) fun v2 S2 =>
      cl (fJ0_charAt_5068e a1 x2 S2) fun v3 S3 =>
      if v2 = v3 then
        bnd (x2 + 1) fun v4 =>
        fX1_isWord_L28 a1 n v4 S3
      else
        retN .boolean 0 S3
theorem sX1_isWord_L28 {a1 : Nat} (h1 : a1 < 13) {r : Int32} {S9 : St} : ∀ (n : Nat) (x2 : Int32) (S : St), fX1_isWord_L28 a1 n x2 S = some (r, S9) → PW mX1_isWord (some (.int r), S9) 28 [some (.ref 30), some (.ref (100 + a1)), some (.int x2)] [] S := by
  intro n
  induction n with
  | zero => intro x2 S h; cases h
  | succ n ih =>
    intro x2 S h
    unfold fX1_isWord_L28 at h
    refine p_iload_n (k := 16) (i := 2) rfl rfl rfl ?_
    refine p_aload_n (k := 17) (i := 1) rfl rfl rfl ?_
    obtain ⟨v1, S1, hcS1, h⟩ := cl_some h
    refine p_callVs (k := 18) [] [.int x2] rfl (tJ0_length_8abf5 h1 hcS1) h1 rfl lc_J0_length_8abf5 ml_RX1_129 mi_J0_length_8abf5 mv_J0_length_8abf5 (by decide) (by decide) (Nat.le_of_ble_eq_true rfl) rfl ?_
    refine p_icmp_ge (k := 19) 65 rfl (by decide) (fun hc => ?_) (fun hc => ?_)
    · rw [if_pos hc] at h
      refine p_iconst (k := 35) 1 rfl (by decide) ?_
      exact s_zret h (k := 36) rfl rfl
    · rw [if_neg hc] at h
      refine p_aload_n (k := 20) (i := 0) rfl rfl rfl ?_
      refine p_getr (k := 21) rfl lay_X1 rfl fl_RX1_9 ?_
      refine p_aload_n (k := 22) (i := 0) rfl rfl rfl ?_
      refine p_geti (k := 23) rfl lay_X1 rfl fl_RX1_32 ?_
      refine p_iload_n (k := 24) (i := 2) rfl rfl rfl ?_
      refine p_iadd (k := 25) rfl ?_
      obtain ⟨v2, S2, hcS2, h⟩ := cl_some h
      refine p_callV (k := 26) [.int ((S1 30 3) + x2)] [] rfl (tX3_byteAt hcS2) lay_X3 rfl lc_X3_byteAt ml_RX1_119 mi_X3_byteAt mv_X3_byteAt (by decide) (by decide) (Nat.le_of_ble_eq_true rfl) rfl ?_
      refine p_aload_n (k := 27) (i := 1) rfl rfl rfl ?_
      refine p_iload_n (k := 28) (i := 2) rfl rfl rfl ?_
      obtain ⟨v3, S3, hcS3, h⟩ := cl_some h
      refine p_callVs (k := 29) [.int x2] [.int v2] rfl (tJ0_charAt_5068e h1 hcS3) h1 rfl lc_J0_charAt_5068e ml_RX1_134 mi_J0_charAt_5068e mv_J0_charAt_5068e (by decide) (by decide) (Nat.le_of_ble_eq_true rfl) rfl ?_
      refine p_icmp_eq (k := 30) 59 rfl (by decide) (fun hc => ?_) (fun hc => ?_)
      · rw [if_pos hc] at h
        obtain ⟨v4, ev4, h⟩ := bnd_ex h
        refine p_iinc (k := 33) v4 [some (.ref 30), some (.ref (100 + a1)), some (.int v4)] rfl rfl (by rw [← ev4]; rfl) rfl (by decide) rfl ?_
        refine p_goto (k := 34) 28 rfl (by decide) ?_
        refine p_msk [true, true, true] (L2 := [some (.ref 30), some (.ref (100 + a1)), some (.int v4)]) rfl ?_
        exact ih _ _ h
      · rw [if_neg hc] at h
        refine p_iconst (k := 31) 0 rfl (by decide) ?_
        exact s_zret h (k := 32) rfl rfl
def fX1_isWord (a1 : Nat) (S : St) : Option (Int32 × St) :=
  if (S 30 2) = 1 then
    cl (fJ0_length_8abf5 a1 S) fun v1 S1 =>
    if ((S 30 4) - (S 30 3)) = v1 then
      fX1_isWord_L28 a1 FU 0 S1
    else
      fX1_isWord_L24 a1 S1
  else
    fX1_isWord_L24 a1 S
theorem sX1_isWord {a1 : Nat} (h1 : a1 < 13) {S : St} {r : Int32} {S9 : St} (h : fX1_isWord a1 S = some (r, S9)) : PW mX1_isWord (some (.int r), S9) 0 [some (.ref 30), some (.ref (100 + a1)), none] [] S := by
  unfold fX1_isWord at h
  refine p_aload_n (k := 0) (i := 0) rfl rfl rfl ?_
  refine p_geti (k := 1) rfl lay_X1 rfl fl_RX1_35 ?_
  refine p_iconst (k := 2) 1 rfl (by decide) ?_
  refine p_icmp_ne (k := 3) 24 rfl (by decide) (fun hc => ?_) (fun hc => ?_)
  · rw [if_neg hc] at h
    refine p_msk [false, false, false] (L2 := [none, none, none]) rfl ?_
    exact sX1_isWord_L24 h1 h
  · rw [if_pos hc] at h
    refine p_aload_n (k := 4) (i := 0) rfl rfl rfl ?_
    refine p_geti (k := 5) rfl lay_X1 rfl fl_RX1_19 ?_
    refine p_aload_n (k := 6) (i := 0) rfl rfl rfl ?_
    refine p_geti (k := 7) rfl lay_X1 rfl fl_RX1_32 ?_
    refine p_isub (k := 8) rfl ?_
    refine p_aload_n (k := 9) (i := 1) rfl rfl rfl ?_
    obtain ⟨v1, S1, hcS1, h⟩ := cl_some h
    refine p_callVs (k := 10) [] [.int ((S 30 4) - (S 30 3))] rfl (tJ0_length_8abf5 h1 hcS1) h1 rfl lc_J0_length_8abf5 ml_RX1_129 mi_J0_length_8abf5 mv_J0_length_8abf5 (by decide) (by decide) (Nat.le_of_ble_eq_true rfl) rfl ?_
    refine p_icmp_eq (k := 11) 26 rfl (by decide) (fun hc => ?_) (fun hc => ?_)
    · rw [if_pos hc] at h
      refine p_iconst (k := 14) 0 rfl (by decide) ?_
      refine p_istore_n (k := 15) 2 [some (.ref 30), some (.ref (100 + a1)), some (.int 0)] rfl rfl rfl (by decide) rfl ?_
      refine p_msk [true, true, true] (L2 := [some (.ref 30), some (.ref (100 + a1)), some (.int 0)]) rfl ?_
      exact sX1_isWord_L28 h1 _ _ _ h
    · rw [if_neg hc] at h
      refine p_msk [false, false, false] (L2 := [none, none, none]) rfl ?_
      exact sX1_isWord_L24 h1 h
theorem tX1_isWord {a1 : Nat} (h1 : a1 < 13) {S : St} {r : Int32} {S9 : St} (h : fX1_isWord a1 S = some (r, S9)) : MR yX1_isWord cX1_isWord mX1_isWord [.ref 30, .ref (100 + a1)] S (some (.int r), S9) := MR.of (n := 1) okX1_isWord rfl rfl (sX1_isWord h1 h)
-- kindTold()I
def fX1_kindTold_L81 (y0 : Int32) (S : St) : Option (Int32 × St) :=
  some (y0, S)
theorem sX1_kindTold_L81 {r : Int32} {S9 : St} {y0 : Int32} {S : St} (h : fX1_kindTold_L81 y0 S = some (r, S9)) : PW mX1_kindTold (some (.int r), S9) 81 [none] [.int y0] S := by
  unfold fX1_kindTold_L81 at h
  exact s_iret h (k := 43) rfl rfl
def fX1_kindTold (S : St) : Option (Int32 × St) :=
  cl (fX1_isWord 0 S) fun v1 S1 =>
  if v1 = 0 then
    cl (fX1_isWord 1 S1) fun v2 S2 =>
    if v2 = 0 then
      cl (fX1_isWord 2 S2) fun v3 S3 =>
      if v3 = 0 then
        cl (fX1_isWord 3 S3) fun v4 S4 =>
        if v4 = 0 then
          cl (fX1_isWord 4 S4) fun v5 S5 =>
          if v5 = 0 then
            cl (fX1_isWord 5 S5) fun v6 S6 =>
            if v6 = 0 then
              cl (fX1_isWord 6 S6) fun v7 S7 =>
              if v7 = 0 then
                fX1_kindTold_L81 (-1) S7
              else
                fX1_kindTold_L81 6 S7
            else
              some (5, S6)
          else
            some (4, S5)
        else
          some (3, S4)
      else
        some (2, S3)
    else
      some (1, S2)
  else
    some (0, S1)
theorem sX1_kindTold {S : St} {r : Int32} {S9 : St} (h : fX1_kindTold S = some (r, S9)) : PW mX1_kindTold (some (.int r), S9) 0 [some (.ref 30)] [] S := by
  unfold fX1_kindTold at h
  refine p_aload_n (k := 0) (i := 0) rfl rfl rfl ?_
  refine p_ldcs (j := 0) (k := 1) rfl (by decide) rfl rfl ?_
  obtain ⟨v1, S1, hcS1, h⟩ := cl_some h
  refine p_callV (k := 2) [.ref 100] [] rfl (tX1_isWord (by decide) hcS1) lay_X1 rfl lc_X1_isWord ml_RX1_48 mi_X1_isWord mv_X1_isWord (by decide) (by decide) (Nat.le_of_ble_eq_true rfl) rfl ?_
  refine p_if_eq (k := 3) 11 rfl (by decide) (fun hc => ?_) (fun hc => ?_)
  · rw [if_pos hc] at h
    refine p_aload_n (k := 6) (i := 0) rfl rfl rfl ?_
    refine p_ldcs (j := 1) (k := 7) rfl (by decide) rfl rfl ?_
    obtain ⟨v2, S2, hcS2, h⟩ := cl_some h
    refine p_callV (k := 8) [.ref 101] [] rfl (tX1_isWord (by decide) hcS2) lay_X1 rfl lc_X1_isWord ml_RX1_48 mi_X1_isWord mv_X1_isWord (by decide) (by decide) (Nat.le_of_ble_eq_true rfl) rfl ?_
    refine p_if_eq (k := 9) 22 rfl (by decide) (fun hc => ?_) (fun hc => ?_)
    · rw [if_pos hc] at h
      refine p_aload_n (k := 12) (i := 0) rfl rfl rfl ?_
      refine p_ldcs (j := 2) (k := 13) rfl (by decide) rfl rfl ?_
      obtain ⟨v3, S3, hcS3, h⟩ := cl_some h
      refine p_callV (k := 14) [.ref 102] [] rfl (tX1_isWord (by decide) hcS3) lay_X1 rfl lc_X1_isWord ml_RX1_48 mi_X1_isWord mv_X1_isWord (by decide) (by decide) (Nat.le_of_ble_eq_true rfl) rfl ?_
      refine p_if_eq (k := 15) 33 rfl (by decide) (fun hc => ?_) (fun hc => ?_)
      · rw [if_pos hc] at h
        refine p_aload_n (k := 18) (i := 0) rfl rfl rfl ?_
        refine p_ldcs (j := 3) (k := 19) rfl (by decide) rfl rfl ?_
        obtain ⟨v4, S4, hcS4, h⟩ := cl_some h
        refine p_callV (k := 20) [.ref 103] [] rfl (tX1_isWord (by decide) hcS4) lay_X1 rfl lc_X1_isWord ml_RX1_48 mi_X1_isWord mv_X1_isWord (by decide) (by decide) (Nat.le_of_ble_eq_true rfl) rfl ?_
        refine p_if_eq (k := 21) 44 rfl (by decide) (fun hc => ?_) (fun hc => ?_)
        · rw [if_pos hc] at h
          refine p_aload_n (k := 24) (i := 0) rfl rfl rfl ?_
          refine p_ldcs (j := 4) (k := 25) rfl (by decide) rfl rfl ?_
          obtain ⟨v5, S5, hcS5, h⟩ := cl_some h
          refine p_callV (k := 26) [.ref 104] [] rfl (tX1_isWord (by decide) hcS5) lay_X1 rfl lc_X1_isWord ml_RX1_48 mi_X1_isWord mv_X1_isWord (by decide) (by decide) (Nat.le_of_ble_eq_true rfl) rfl ?_
          refine p_if_eq (k := 27) 55 rfl (by decide) (fun hc => ?_) (fun hc => ?_)
          · rw [if_pos hc] at h
            refine p_aload_n (k := 30) (i := 0) rfl rfl rfl ?_
            refine p_ldcs (j := 5) (k := 31) rfl (by decide) rfl rfl ?_
            obtain ⟨v6, S6, hcS6, h⟩ := cl_some h
            refine p_callV (k := 32) [.ref 105] [] rfl (tX1_isWord (by decide) hcS6) lay_X1 rfl lc_X1_isWord ml_RX1_48 mi_X1_isWord mv_X1_isWord (by decide) (by decide) (Nat.le_of_ble_eq_true rfl) rfl ?_
            refine p_if_eq (k := 33) 66 rfl (by decide) (fun hc => ?_) (fun hc => ?_)
            · rw [if_pos hc] at h
              refine p_aload_n (k := 36) (i := 0) rfl rfl rfl ?_
              refine p_ldcs (j := 6) (k := 37) rfl (by decide) rfl rfl ?_
              obtain ⟨v7, S7, hcS7, h⟩ := cl_some h
              refine p_callV (k := 38) [.ref 106] [] rfl (tX1_isWord (by decide) hcS7) lay_X1 rfl lc_X1_isWord ml_RX1_48 mi_X1_isWord mv_X1_isWord (by decide) (by decide) (Nat.le_of_ble_eq_true rfl) rfl ?_
              refine p_if_eq (k := 39) 80 rfl (by decide) (fun hc => ?_) (fun hc => ?_)
              · rw [if_pos hc] at h
                refine p_iconst (k := 42) (-1) rfl (by decide) ?_
                refine p_msk [false] (L2 := [none]) rfl ?_
                exact sX1_kindTold_L81 h
              · rw [if_neg hc] at h
                refine p_bipush (k := 40) 6 rfl (by decide) ?_
                refine p_goto (k := 41) 81 rfl (by decide) ?_
                refine p_msk [false] (L2 := [none]) rfl ?_
                exact sX1_kindTold_L81 h
            · rw [if_neg hc] at h
              refine p_iconst (k := 34) 5 rfl (by decide) ?_
              exact s_iret h (k := 35) rfl rfl
          · rw [if_neg hc] at h
            refine p_iconst (k := 28) 4 rfl (by decide) ?_
            exact s_iret h (k := 29) rfl rfl
        · rw [if_neg hc] at h
          refine p_iconst (k := 22) 3 rfl (by decide) ?_
          exact s_iret h (k := 23) rfl rfl
      · rw [if_neg hc] at h
        refine p_iconst (k := 16) 2 rfl (by decide) ?_
        exact s_iret h (k := 17) rfl rfl
    · rw [if_neg hc] at h
      refine p_iconst (k := 10) 1 rfl (by decide) ?_
      exact s_iret h (k := 11) rfl rfl
  · rw [if_neg hc] at h
    refine p_iconst (k := 4) 0 rfl (by decide) ?_
    exact s_iret h (k := 5) rfl rfl
theorem tX1_kindTold {S : St} {r : Int32} {S9 : St} (h : fX1_kindTold S = some (r, S9)) : MR yX1_kindTold cX1_kindTold mX1_kindTold [.ref 30] S (some (.int r), S9) := MR.of (n := 0) okX1_kindTold rfl rfl (sX1_kindTold h)
-- value()I
def fX1_value_L7 : Nat → Int32 → Int32 → St → Option (Int32 × St)
  | 0 => fun _ _ _ => none
  | n + 1 => fun x1 x2 S =>
    if (S 30 4) ≤ x2 then
      some (x1, S)
    else
      cl (fX3_byteAt x2 S) fun v1 S1 =>
      bnd (mnI (((x1 * 10) + v1) - 48) 100000) fun v2 =>
      bnd (x2 + 1) fun v3 =>
      fX1_value_L7 n v2 v3 S1
theorem sX1_value_L7 {r : Int32} {S9 : St} : ∀ (n : Nat) (x1 : Int32) (x2 : Int32) (S : St), fX1_value_L7 n x1 x2 S = some (r, S9) → PW mX1_value (some (.int r), S9) 7 [some (.ref 30), some (.int x1), some (.int x2)] [] S := by
  intro n
  induction n with
  | zero => intro x1 x2 S h; cases h
  | succ n ih =>
    intro x1 x2 S h
    unfold fX1_value_L7 at h
    refine p_iload_n (k := 5) (i := 2) rfl rfl rfl ?_
    refine p_aload_n (k := 6) (i := 0) rfl rfl rfl ?_
    refine p_geti (k := 7) rfl lay_X1 rfl fl_RX1_19 ?_
    refine p_icmp_ge (k := 8) 43 rfl (by decide) (fun hc => ?_) (fun hc => ?_)
    · rw [if_pos hc] at h
      refine p_iload_n (k := 24) (i := 1) rfl rfl rfl ?_
      exact s_iret h (k := 25) rfl rfl
    · rw [if_neg hc] at h
      refine p_iload_n (k := 9) (i := 1) rfl rfl rfl ?_
      refine p_bipush (k := 10) 10 rfl (by decide) ?_
      refine p_imul (k := 11) rfl ?_
      refine p_aload_n (k := 12) (i := 0) rfl rfl rfl ?_
      refine p_getr (k := 13) rfl lay_X1 rfl fl_RX1_9 ?_
      refine p_iload_n (k := 14) (i := 2) rfl rfl rfl ?_
      obtain ⟨v1, S1, hcS1, h⟩ := cl_some h
      refine p_callV (k := 15) [.int x2] [.int (x1 * 10)] rfl (tX3_byteAt hcS1) lay_X3 rfl lc_X3_byteAt ml_RX1_119 mi_X3_byteAt mv_X3_byteAt (by decide) (by decide) (Nat.le_of_ble_eq_true rfl) rfl ?_
      refine p_iadd (k := 16) rfl ?_
      refine p_bipush (k := 17) 48 rfl (by decide) ?_
      refine p_isub (k := 18) rfl ?_
      refine p_ldc (k := 19) rfl k_RX1_123 ?_
      refine p_mmin (k := 20) rfl ml_RX1_124 mm_static_min mm_init mm_code_min (by decide) (Nat.le_of_ble_eq_true rfl) ?_
      refine s_bnd h (fun v2 h => ?_)
      refine p_istore_n (k := 21) 1 [some (.ref 30), some (.int v2), some (.int x2)] rfl rfl rfl (by decide) rfl ?_
      obtain ⟨v3, ev3, h⟩ := bnd_ex h
      refine p_iinc (k := 22) v3 [some (.ref 30), some (.int v2), some (.int v3)] rfl rfl (by rw [← ev3]; rfl) rfl (by decide) rfl ?_
      refine p_goto (k := 23) 7 rfl (by decide) ?_
      refine p_msk [true, true, true] (L2 := [some (.ref 30), some (.int v2), some (.int v3)]) rfl ?_
      exact ih _ _ _ h
def fX1_value (S : St) : Option (Int32 × St) :=
  bnd (S 30 3) fun v1 =>
  fX1_value_L7 FU 0 v1 S
theorem sX1_value {S : St} {r : Int32} {S9 : St} (h : fX1_value S = some (r, S9)) : PW mX1_value (some (.int r), S9) 0 [some (.ref 30), none, none] [] S := by
  unfold fX1_value at h
  refine p_iconst (k := 0) 0 rfl (by decide) ?_
  refine p_istore_n (k := 1) 1 [some (.ref 30), some (.int 0), none] rfl rfl rfl (by decide) rfl ?_
  refine p_aload_n (k := 2) (i := 0) rfl rfl rfl ?_
  refine p_geti (k := 3) rfl lay_X1 rfl fl_RX1_32 ?_
  refine s_bnd h (fun v1 h => ?_)
  refine p_istore_n (k := 4) 2 [some (.ref 30), some (.int 0), some (.int v1)] rfl rfl rfl (by decide) rfl ?_
  refine p_msk [true, true, true] (L2 := [some (.ref 30), some (.int 0), some (.int v1)]) rfl ?_
  exact sX1_value_L7 _ _ _ _ h
theorem tX1_value {S : St} {r : Int32} {S9 : St} (h : fX1_value S = some (r, S9)) : MR yX1_value cX1_value mX1_value [.ref 30] S (some (.int r), S9) := MR.of (n := 2) okX1_value rfl rfl (sX1_value h)
-- takeNumber(I)Z
def fX1_takeNumber_L16 (S : St) : Option (Int32 × St) :=
  retN .boolean 0 S
theorem sX1_takeNumber_L16 {r : Int32} {S9 : St}  {S : St} (h : fX1_takeNumber_L16 S = some (r, S9)) : PW mX1_takeNumber (some (.int r), S9) 16 [none, none] [] S := by
  unfold fX1_takeNumber_L16 at h
  refine p_iconst (k := 8) 0 rfl (by decide) ?_
  exact s_zret h (k := 9) rfl rfl
def fX1_takeNumber (a1 : Int32) (S : St) : Option (Int32 × St) :=
  if (S 30 2) = 2 then
    cl (fX1_value S) fun v1 S1 =>
    if v1 ≤ a1 then
      cl (fX1_value S1) fun v2 S2 =>
      bnd (up2 S2 30 5 v2) fun S3 =>
      cl (fX1_stepOn S3) fun _ S4 =>
      retN .boolean 1 S4
    else
      fX1_takeNumber_L16 S1
  else
    fX1_takeNumber_L16 S
theorem sX1_takeNumber {a1 : Int32} {S : St} {r : Int32} {S9 : St} (h : fX1_takeNumber a1 S = some (r, S9)) : PW mX1_takeNumber (some (.int r), S9) 0 [some (.ref 30), some (.int a1)] [] S := by
  unfold fX1_takeNumber at h
  refine p_aload_n (k := 0) (i := 0) rfl rfl rfl ?_
  refine p_geti (k := 1) rfl lay_X1 rfl fl_RX1_35 ?_
  refine p_iconst (k := 2) 2 rfl (by decide) ?_
  refine p_icmp_ne (k := 3) 16 rfl (by decide) (fun hc => ?_) (fun hc => ?_)
  · rw [if_neg hc] at h
    refine p_msk [false, false] (L2 := [none, none]) rfl ?_
    exact sX1_takeNumber_L16 h
  · rw [if_pos hc] at h
    refine p_aload_n (k := 4) (i := 0) rfl rfl rfl ?_
    obtain ⟨v1, S1, hcS1, h⟩ := cl_some h
    refine p_callV (k := 5) [] [] rfl (tX1_value hcS1) lay_X1 rfl lc_X1_value ml_RX1_116 mi_X1_value mv_X1_value (by decide) (by decide) (Nat.le_of_ble_eq_true rfl) rfl ?_
    refine p_iload_n (k := 6) (i := 1) rfl rfl rfl ?_
    refine p_icmp_le (k := 7) 18 rfl (by decide) (fun hc => ?_) (fun hc => ?_)
    · rw [if_pos hc] at h
      refine p_aload_n (k := 10) (i := 0) rfl rfl rfl ?_
      refine p_aload_n (k := 11) (i := 0) rfl rfl rfl ?_
      obtain ⟨v2, S2, hcS2, h⟩ := cl_some h
      refine p_callV (k := 12) [] [.ref 30] rfl (tX1_value hcS2) lay_X1 rfl lc_X1_value ml_RX1_116 mi_X1_value mv_X1_value (by decide) (by decide) (Nat.le_of_ble_eq_true rfl) rfl ?_
      refine s_put h (k := 13) rfl lay_X1 rfl fl_RX1_102 fp_1_5 rfl rfl (fun S3 h => ?_)
      refine p_aload_n (k := 14) (i := 0) rfl rfl rfl ?_
      obtain ⟨_, S4, hcS4, h⟩ := cl_some h
      refine p_callV (k := 15) [] [] rfl (tX1_stepOn hcS4) lay_X1 rfl lc_X1_stepOn ml_RX1_23 mi_X1_stepOn mv_X1_stepOn (by decide) (by decide) (Nat.le_of_ble_eq_true rfl) rfl ?_
      refine p_iconst (k := 16) 1 rfl (by decide) ?_
      exact s_zret h (k := 17) rfl rfl
    · rw [if_neg hc] at h
      refine p_msk [false, false] (L2 := [none, none]) rfl ?_
      exact sX1_takeNumber_L16 h
theorem tX1_takeNumber {a1 : Int32} {S : St} {r : Int32} {S9 : St} (h : fX1_takeNumber a1 S = some (r, S9)) : MR yX1_takeNumber cX1_takeNumber mX1_takeNumber [.ref 30, .int a1] S (some (.int r), S9) := MR.of (n := 0) okX1_takeNumber rfl rfl (sX1_takeNumber h)
-- readTrait(Ljava/lang/String;III)Z
def fX1_readTrait (a1 : Nat) (a2 : Int32) (a3 : Int32) (a4 : Int32) (S : St) : Option (Int32 × St) :=
  cl (fX1_isWord a1 S) fun v1 S1 =>
  if v1 = 0 then
    retN .boolean 1 S1
  else
    cl (fX1_stepOn S1) fun _ S2 =>
    cl (fX1_takeNumber a4 S2) fun v2 S3 =>
    if v2 = 0 then
      retN .boolean 0 S3
    else
      cl (fX0_setTrait 10 a2 a3 (S3 30 5) S3) fun _ S4 =>
      retN .boolean 1 S4
theorem sX1_readTrait {a1 : Nat} {a2 : Int32} {a3 : Int32} {a4 : Int32} (h1 : a1 < 13) {S : St} {r : Int32} {S9 : St} (h : fX1_readTrait a1 a2 a3 a4 S = some (r, S9)) : PW mX1_readTrait (some (.int r), S9) 0 [some (.ref 30), some (.ref (100 + a1)), some (.int a2), some (.int a3), some (.int a4)] [] S := by
  unfold fX1_readTrait at h
  refine p_aload_n (k := 0) (i := 0) rfl rfl rfl ?_
  refine p_aload_n (k := 1) (i := 1) rfl rfl rfl ?_
  obtain ⟨v1, S1, hcS1, h⟩ := cl_some h
  refine p_callV (k := 2) [.ref (100 + a1)] [] rfl (tX1_isWord h1 hcS1) lay_X1 rfl lc_X1_isWord ml_RX1_48 mi_X1_isWord mv_X1_isWord (by decide) (by decide) (Nat.le_of_ble_eq_true rfl) rfl ?_
  refine p_if_ne (k := 3) 10 rfl (by decide) (fun hc => ?_) (fun hc => ?_)
  · rw [if_neg hc] at h
    refine p_aload_n (k := 6) (i := 0) rfl rfl rfl ?_
    obtain ⟨_, S2, hcS2, h⟩ := cl_some h
    refine p_callV (k := 7) [] [] rfl (tX1_stepOn hcS2) lay_X1 rfl lc_X1_stepOn ml_RX1_23 mi_X1_stepOn mv_X1_stepOn (by decide) (by decide) (Nat.le_of_ble_eq_true rfl) rfl ?_
    refine p_aload_n (k := 8) (i := 0) rfl rfl rfl ?_
    refine p_iload (k := 9) rfl rfl ?_
    obtain ⟨v2, S3, hcS3, h⟩ := cl_some h
    refine p_callV (k := 10) [.int a4] [] rfl (tX1_takeNumber hcS3) lay_X1 rfl lc_X1_takeNumber ml_RX1_99 mi_X1_takeNumber mv_X1_takeNumber (by decide) (by decide) (Nat.le_of_ble_eq_true rfl) rfl ?_
    refine p_if_ne (k := 11) 25 rfl (by decide) (fun hc => ?_) (fun hc => ?_)
    · rw [if_neg hc] at h
      refine p_aload_n (k := 14) (i := 0) rfl rfl rfl ?_
      refine p_getr (k := 15) rfl lay_X1 rfl fl_RX1_15 ?_
      refine p_iload_n (k := 16) (i := 2) rfl rfl rfl ?_
      refine p_iload_n (k := 17) (i := 3) rfl rfl rfl ?_
      refine p_aload_n (k := 18) (i := 0) rfl rfl rfl ?_
      refine p_geti (k := 19) rfl lay_X1 rfl fl_RX1_102 ?_
      obtain ⟨_, S4, hcS4, h⟩ := cl_some h
      refine p_callV (k := 20) [.int a2, .int a3, .int (S3 30 5)] [] rfl (tX0_setTrait isC_10 hcS4) (lay_c isC_10) rfl lc_X0_setTrait ml_RX1_105 mi_X0_setTrait mv_X0_setTrait (by decide) (by decide) (Nat.le_of_ble_eq_true rfl) rfl ?_
      refine p_iconst (k := 21) 1 rfl (by decide) ?_
      exact s_zret h (k := 22) rfl rfl
    · rw [if_pos hc] at h
      refine p_iconst (k := 12) 0 rfl (by decide) ?_
      exact s_zret h (k := 13) rfl rfl
  · rw [if_pos hc] at h
    refine p_iconst (k := 4) 1 rfl (by decide) ?_
    exact s_zret h (k := 5) rfl rfl
theorem tX1_readTrait {a1 : Nat} {a2 : Int32} {a3 : Int32} {a4 : Int32} (h1 : a1 < 13) {S : St} {r : Int32} {S9 : St} (h : fX1_readTrait a1 a2 a3 a4 S = some (r, S9)) : MR yX1_readTrait cX1_readTrait mX1_readTrait [.ref 30, .ref (100 + a1), .int a2, .int a3, .int a4] S (some (.int r), S9) := MR.of (n := 0) okX1_readTrait rfl rfl (sX1_readTrait h1 h)
-- readGoat(I)Z
def fX1_readGoat_L70 (y0 : Int32) (S : St) : Option (Int32 × St) :=
  retN .boolean y0 S
theorem sX1_readGoat_L70 {r : Int32} {S9 : St} {y0 : Int32} {S : St} (h : fX1_readGoat_L70 y0 S = some (r, S9)) : PW mX1_readGoat (some (.int r), S9) 70 [none, none, none] [.int y0] S := by
  unfold fX1_readGoat_L70 at h
  exact s_zret h (k := 38) rfl rfl
def fX1_readGoat_L69 (S : St) : Option (Int32 × St) :=
  fX1_readGoat_L70 0 S
theorem sX1_readGoat_L69 {r : Int32} {S9 : St}  {S : St} (h : fX1_readGoat_L69 S = some (r, S9)) : PW mX1_readGoat (some (.int r), S9) 69 [none, none, none] [] S := by
  unfold fX1_readGoat_L69 at h
  refine p_iconst (k := 37) 0 rfl (by decide) ?_
  refine p_msk [false, false, false] (L2 := [none, none, none]) rfl ?_
  exact sX1_readGoat_L70 h
def fX1_readGoat (a1 : Int32) (S : St) : Option (Int32 × St) :=
  cl (fX0_isFull 10 S) fun v1 S1 =>
  if v1 = 0 then
    cl (fX0_addGoat 10 a1 0 S1) fun v2 S2 =>
    cl (fX1_stepOn S2) fun _ S3 =>
    cl (fX1_readTrait 7 v2 1 11 S3) fun v3 S4 =>
    if v3 = 0 then
      fX1_readGoat_L69 S4
    else
      cl (fX1_readTrait 8 v2 2 65535 S4) fun v4 S5 =>
      if v4 = 0 then
        fX1_readGoat_L69 S5
      else
        cl (fX1_readTrait 9 v2 4 99 S5) fun v5 S6 =>
        if v5 = 0 then
          fX1_readGoat_L69 S6
        else
          fX1_readGoat_L70 1 S6
  else
    retN .boolean 0 S1
theorem sX1_readGoat {a1 : Int32} {S : St} {r : Int32} {S9 : St} (h : fX1_readGoat a1 S = some (r, S9)) : PW mX1_readGoat (some (.int r), S9) 0 [some (.ref 30), some (.int a1), none] [] S := by
  unfold fX1_readGoat at h
  refine p_aload_n (k := 0) (i := 0) rfl rfl rfl ?_
  refine p_getr (k := 1) rfl lay_X1 rfl fl_RX1_15 ?_
  obtain ⟨v1, S1, hcS1, h⟩ := cl_some h
  refine p_callV (k := 2) [] [] rfl (tX0_isFull isC_10 hcS1) (lay_c isC_10) rfl lc_X0_isFull ml_RX1_81 mi_X0_isFull mv_X0_isFull (by decide) (by decide) (Nat.le_of_ble_eq_true rfl) rfl ?_
  refine p_if_eq (k := 3) 12 rfl (by decide) (fun hc => ?_) (fun hc => ?_)
  · rw [if_pos hc] at h
    refine p_aload_n (k := 6) (i := 0) rfl rfl rfl ?_
    refine p_getr (k := 7) rfl lay_X1 rfl fl_RX1_15 ?_
    refine p_iload_n (k := 8) (i := 1) rfl rfl rfl ?_
    refine p_iconst (k := 9) 0 rfl (by decide) ?_
    obtain ⟨v2, S2, hcS2, h⟩ := cl_some h
    refine p_callV (k := 10) [.int a1, .int 0] [] rfl (tX0_addGoat isC_10 hcS2) (lay_c isC_10) rfl lc_X0_addGoat ml_RX1_84 mi_X0_addGoat mv_X0_addGoat (by decide) (by decide) (Nat.le_of_ble_eq_true rfl) rfl ?_
    refine p_istore_n (k := 11) 2 [some (.ref 30), some (.int a1), some (.int v2)] rfl rfl rfl (by decide) rfl ?_
    refine p_aload_n (k := 12) (i := 0) rfl rfl rfl ?_
    obtain ⟨_, S3, hcS3, h⟩ := cl_some h
    refine p_callV (k := 13) [] [] rfl (tX1_stepOn hcS3) lay_X1 rfl lc_X1_stepOn ml_RX1_23 mi_X1_stepOn mv_X1_stepOn (by decide) (by decide) (Nat.le_of_ble_eq_true rfl) rfl ?_
    refine p_aload_n (k := 14) (i := 0) rfl rfl rfl ?_
    refine p_ldcs (j := 7) (k := 15) rfl (by decide) rfl rfl ?_
    refine p_iload_n (k := 16) (i := 2) rfl rfl rfl ?_
    refine p_iconst (k := 17) 1 rfl (by decide) ?_
    refine p_bipush (k := 18) 11 rfl (by decide) ?_
    obtain ⟨v3, S4, hcS4, h⟩ := cl_some h
    refine p_callV (k := 19) [.ref 107, .int v2, .int 1, .int 11] [] rfl (tX1_readTrait (by decide) hcS4) lay_X1 rfl lc_X1_readTrait ml_RX1_90 mi_X1_readTrait mv_X1_readTrait (by decide) (by decide) (Nat.le_of_ble_eq_true rfl) rfl ?_
    refine p_if_eq (k := 20) 69 rfl (by decide) (fun hc => ?_) (fun hc => ?_)
    · rw [if_pos hc] at h
      refine p_msk [false, false, false] (L2 := [none, none, none]) rfl ?_
      exact sX1_readGoat_L69 h
    · rw [if_neg hc] at h
      refine p_aload_n (k := 21) (i := 0) rfl rfl rfl ?_
      refine p_ldcs (j := 8) (k := 22) rfl (by decide) rfl rfl ?_
      refine p_iload_n (k := 23) (i := 2) rfl rfl rfl ?_
      refine p_iconst (k := 24) 2 rfl (by decide) ?_
      refine p_ldc (k := 25) rfl k_RX1_96 ?_
      obtain ⟨v4, S5, hcS5, h⟩ := cl_some h
      refine p_callV (k := 26) [.ref 108, .int v2, .int 2, .int 65535] [] rfl (tX1_readTrait (by decide) hcS5) lay_X1 rfl lc_X1_readTrait ml_RX1_90 mi_X1_readTrait mv_X1_readTrait (by decide) (by decide) (Nat.le_of_ble_eq_true rfl) rfl ?_
      refine p_if_eq (k := 27) 69 rfl (by decide) (fun hc => ?_) (fun hc => ?_)
      · rw [if_pos hc] at h
        refine p_msk [false, false, false] (L2 := [none, none, none]) rfl ?_
        exact sX1_readGoat_L69 h
      · rw [if_neg hc] at h
        refine p_aload_n (k := 28) (i := 0) rfl rfl rfl ?_
        refine p_ldcs (j := 9) (k := 29) rfl (by decide) rfl rfl ?_
        refine p_iload_n (k := 30) (i := 2) rfl rfl rfl ?_
        refine p_iconst (k := 31) 4 rfl (by decide) ?_
        refine p_bipush (k := 32) 99 rfl (by decide) ?_
        obtain ⟨v5, S6, hcS6, h⟩ := cl_some h
        refine p_callV (k := 33) [.ref 109, .int v2, .int 4, .int 99] [] rfl (tX1_readTrait (by decide) hcS6) lay_X1 rfl lc_X1_readTrait ml_RX1_90 mi_X1_readTrait mv_X1_readTrait (by decide) (by decide) (Nat.le_of_ble_eq_true rfl) rfl ?_
        refine p_if_eq (k := 34) 69 rfl (by decide) (fun hc => ?_) (fun hc => ?_)
        · rw [if_pos hc] at h
          refine p_msk [false, false, false] (L2 := [none, none, none]) rfl ?_
          exact sX1_readGoat_L69 h
        · rw [if_neg hc] at h
          refine p_iconst (k := 35) 1 rfl (by decide) ?_
          refine p_goto (k := 36) 70 rfl (by decide) ?_
          refine p_msk [false, false, false] (L2 := [none, none, none]) rfl ?_
          exact sX1_readGoat_L70 h
  · rw [if_neg hc] at h
    refine p_iconst (k := 4) 0 rfl (by decide) ?_
    exact s_zret h (k := 5) rfl rfl
theorem tX1_readGoat {a1 : Int32} {S : St} {r : Int32} {S9 : St} (h : fX1_readGoat a1 S = some (r, S9)) : MR yX1_readGoat cX1_readGoat mX1_readGoat [.ref 30, .int a1] S (some (.int r), S9) := MR.of (n := 1) okX1_readGoat rfl rfl (sX1_readGoat h)
-- readGrass()Z
def fX1_readGrass (S : St) : Option (Int32 × St) :=
  cl (fX1_stepOn S) fun _ S1 =>
  cl (fX1_takeNumber 11 S1) fun v1 S2 =>
  if v1 = 0 then
    retN .boolean 0 S2
  else
    bnd (S2 30 5) fun v2 =>
    cl (fX1_takeNumber 99 S2) fun v3 S3 =>
    if v3 = 0 then
      retN .boolean 0 S3
    else
      wr S3 (10 + 1) 12 v2 (S3 30 5) fun S4 =>
      retN .boolean 1 S4
theorem sX1_readGrass {S : St} {r : Int32} {S9 : St} (h : fX1_readGrass S = some (r, S9)) : PW mX1_readGrass (some (.int r), S9) 0 [some (.ref 30), none] [] S := by
  unfold fX1_readGrass at h
  refine p_aload_n (k := 0) (i := 0) rfl rfl rfl ?_
  obtain ⟨_, S1, hcS1, h⟩ := cl_some h
  refine p_callV (k := 1) [] [] rfl (tX1_stepOn hcS1) lay_X1 rfl lc_X1_stepOn ml_RX1_23 mi_X1_stepOn mv_X1_stepOn (by decide) (by decide) (Nat.le_of_ble_eq_true rfl) rfl ?_
  refine p_aload_n (k := 2) (i := 0) rfl rfl rfl ?_
  refine p_bipush (k := 3) 11 rfl (by decide) ?_
  obtain ⟨v1, S2, hcS2, h⟩ := cl_some h
  refine p_callV (k := 4) [.int 11] [] rfl (tX1_takeNumber hcS2) lay_X1 rfl lc_X1_takeNumber ml_RX1_99 mi_X1_takeNumber mv_X1_takeNumber (by decide) (by decide) (Nat.le_of_ble_eq_true rfl) rfl ?_
  refine p_if_ne (k := 5) 15 rfl (by decide) (fun hc => ?_) (fun hc => ?_)
  · rw [if_neg hc] at h
    refine p_aload_n (k := 8) (i := 0) rfl rfl rfl ?_
    refine p_geti (k := 9) rfl lay_X1 rfl fl_RX1_102 ?_
    refine s_bnd h (fun v2 h => ?_)
    refine p_istore_n (k := 10) 1 [some (.ref 30), some (.int v2)] rfl rfl rfl (by decide) rfl ?_
    refine p_aload_n (k := 11) (i := 0) rfl rfl rfl ?_
    refine p_bipush (k := 12) 99 rfl (by decide) ?_
    obtain ⟨v3, S3, hcS3, h⟩ := cl_some h
    refine p_callV (k := 13) [.int 99] [] rfl (tX1_takeNumber hcS3) lay_X1 rfl lc_X1_takeNumber ml_RX1_99 mi_X1_takeNumber mv_X1_takeNumber (by decide) (by decide) (Nat.le_of_ble_eq_true rfl) rfl ?_
    refine p_if_ne (k := 14) 31 rfl (by decide) (fun hc => ?_) (fun hc => ?_)
    · rw [if_neg hc] at h
      refine p_aload_n (k := 17) (i := 0) rfl rfl rfl ?_
      refine p_getr (k := 18) rfl lay_X1 rfl fl_RX1_15 ?_
      refine p_getr (k := 19) rfl (lay_c isC_10) rfl fl_RX1_109 ?_
      refine p_iload_n (k := 20) (i := 1) rfl rfl rfl ?_
      refine p_aload_n (k := 21) (i := 0) rfl rfl rfl ?_
      refine p_geti (k := 22) rfl lay_X1 rfl fl_RX1_102 ?_
      refine s_wr h (k := 23) rfl (lay_c0 isC_10) (fun S4 h => ?_)
      refine p_iconst (k := 24) 1 rfl (by decide) ?_
      exact s_zret h (k := 25) rfl rfl
    · rw [if_pos hc] at h
      refine p_iconst (k := 15) 0 rfl (by decide) ?_
      exact s_zret h (k := 16) rfl rfl
  · rw [if_pos hc] at h
    refine p_iconst (k := 6) 0 rfl (by decide) ?_
    exact s_zret h (k := 7) rfl rfl
theorem tX1_readGrass {S : St} {r : Int32} {S9 : St} (h : fX1_readGrass S = some (r, S9)) : MR yX1_readGrass cX1_readGrass mX1_readGrass [.ref 30] S (some (.int r), S9) := MR.of (n := 1) okX1_readGrass rfl rfl (sX1_readGrass h)
-- readGrows()Z
def fX1_readGrows (S : St) : Option (Int32 × St) :=
  cl (fX1_stepOn S) fun _ S1 =>
  cl (fX1_takeNumber 20 S1) fun v1 S2 =>
  if v1 = 0 then
    retN .boolean 0 S2
  else
    bnd (up2 S2 10 10 (S2 30 5)) fun S3 =>
    retN .boolean 1 S3
theorem sX1_readGrows {S : St} {r : Int32} {S9 : St} (h : fX1_readGrows S = some (r, S9)) : PW mX1_readGrows (some (.int r), S9) 0 [some (.ref 30)] [] S := by
  unfold fX1_readGrows at h
  refine p_aload_n (k := 0) (i := 0) rfl rfl rfl ?_
  obtain ⟨_, S1, hcS1, h⟩ := cl_some h
  refine p_callV (k := 1) [] [] rfl (tX1_stepOn hcS1) lay_X1 rfl lc_X1_stepOn ml_RX1_23 mi_X1_stepOn mv_X1_stepOn (by decide) (by decide) (Nat.le_of_ble_eq_true rfl) rfl ?_
  refine p_aload_n (k := 2) (i := 0) rfl rfl rfl ?_
  refine p_bipush (k := 3) 20 rfl (by decide) ?_
  obtain ⟨v1, S2, hcS2, h⟩ := cl_some h
  refine p_callV (k := 4) [.int 20] [] rfl (tX1_takeNumber hcS2) lay_X1 rfl lc_X1_takeNumber ml_RX1_99 mi_X1_takeNumber mv_X1_takeNumber (by decide) (by decide) (Nat.le_of_ble_eq_true rfl) rfl ?_
  refine p_if_ne (k := 5) 15 rfl (by decide) (fun hc => ?_) (fun hc => ?_)
  · rw [if_neg hc] at h
    refine p_aload_n (k := 8) (i := 0) rfl rfl rfl ?_
    refine p_getr (k := 9) rfl lay_X1 rfl fl_RX1_15 ?_
    refine p_aload_n (k := 10) (i := 0) rfl rfl rfl ?_
    refine p_geti (k := 11) rfl lay_X1 rfl fl_RX1_102 ?_
    refine s_put h (k := 12) rfl (lay_c isC_10) rfl fl_RX1_112 fp_0_10 rfl rfl (fun S3 h => ?_)
    refine p_iconst (k := 13) 1 rfl (by decide) ?_
    exact s_zret h (k := 14) rfl rfl
  · rw [if_pos hc] at h
    refine p_iconst (k := 6) 0 rfl (by decide) ?_
    exact s_zret h (k := 7) rfl rfl
theorem tX1_readGrows {S : St} {r : Int32} {S9 : St} (h : fX1_readGrows S = some (r, S9)) : MR yX1_readGrows cX1_readGrows mX1_readGrows [.ref 30] S (some (.int r), S9) := MR.of (n := 0) okX1_readGrows rfl rfl (sX1_readGrows h)
-- readSalt()Z
def fX1_readSalt (S : St) : Option (Int32 × St) :=
  cl (fX1_stepOn S) fun _ S1 =>
  cl (fX1_takeNumber 9999 S1) fun v1 S2 =>
  if v1 = 0 then
    retN .boolean 0 S2
  else
    bnd (up2 S2 10 11 (S2 30 5)) fun S3 =>
    retN .boolean 1 S3
theorem sX1_readSalt {S : St} {r : Int32} {S9 : St} (h : fX1_readSalt S = some (r, S9)) : PW mX1_readSalt (some (.int r), S9) 0 [some (.ref 30)] [] S := by
  unfold fX1_readSalt at h
  refine p_aload_n (k := 0) (i := 0) rfl rfl rfl ?_
  obtain ⟨_, S1, hcS1, h⟩ := cl_some h
  refine p_callV (k := 1) [] [] rfl (tX1_stepOn hcS1) lay_X1 rfl lc_X1_stepOn ml_RX1_23 mi_X1_stepOn mv_X1_stepOn (by decide) (by decide) (Nat.le_of_ble_eq_true rfl) rfl ?_
  refine p_aload_n (k := 2) (i := 0) rfl rfl rfl ?_
  refine p_sipush (k := 3) 9999 rfl (by decide) ?_
  obtain ⟨v1, S2, hcS2, h⟩ := cl_some h
  refine p_callV (k := 4) [.int 9999] [] rfl (tX1_takeNumber hcS2) lay_X1 rfl lc_X1_takeNumber ml_RX1_99 mi_X1_takeNumber mv_X1_takeNumber (by decide) (by decide) (Nat.le_of_ble_eq_true rfl) rfl ?_
  refine p_if_ne (k := 5) 16 rfl (by decide) (fun hc => ?_) (fun hc => ?_)
  · rw [if_neg hc] at h
    refine p_aload_n (k := 8) (i := 0) rfl rfl rfl ?_
    refine p_getr (k := 9) rfl lay_X1 rfl fl_RX1_15 ?_
    refine p_aload_n (k := 10) (i := 0) rfl rfl rfl ?_
    refine p_geti (k := 11) rfl lay_X1 rfl fl_RX1_102 ?_
    refine s_put h (k := 12) rfl (lay_c isC_10) rfl fl_RX1_114 fp_0_11 rfl rfl (fun S3 h => ?_)
    refine p_iconst (k := 13) 1 rfl (by decide) ?_
    exact s_zret h (k := 14) rfl rfl
  · rw [if_pos hc] at h
    refine p_iconst (k := 6) 0 rfl (by decide) ?_
    exact s_zret h (k := 7) rfl rfl
theorem tX1_readSalt {S : St} {r : Int32} {S9 : St} (h : fX1_readSalt S = some (r, S9)) : MR yX1_readSalt cX1_readSalt mX1_readSalt [.ref 30] S (some (.int r), S9) := MR.of (n := 0) okX1_readSalt rfl rfl (sX1_readSalt h)
-- readItem()Z
def fX1_readItem_L64 (y0 : Int32) (S : St) : Option (Int32 × St) :=
  retN .boolean y0 S
theorem sX1_readItem_L64 {r : Int32} {S9 : St} {y0 : Int32} {S : St} (h : fX1_readItem_L64 y0 S = some (r, S9)) : PW mX1_readItem (some (.int r), S9) 64 [none, none] [.int y0] S := by
  unfold fX1_readItem_L64 at h
  exact s_zret h (k := 33) rfl rfl
def fX1_readItem_L63 (S : St) : Option (Int32 × St) :=
  fX1_readItem_L64 0 S
theorem sX1_readItem_L63 {r : Int32} {S9 : St}  {S : St} (h : fX1_readItem_L63 S = some (r, S9)) : PW mX1_readItem (some (.int r), S9) 63 [none, none] [] S := by
  unfold fX1_readItem_L63 at h
  refine p_iconst (k := 32) 0 rfl (by decide) ?_
  refine p_msk [false, false] (L2 := [none, none]) rfl ?_
  exact sX1_readItem_L64 h
def fX1_readItem (S : St) : Option (Int32 × St) :=
  cl (fX1_kindTold S) fun v1 S1 =>
  if v1 < 0 then
    cl (fX1_isWord 10 S1) fun v2 S2 =>
    if v2 = 0 then
      cl (fX1_isWord 11 S2) fun v3 S3 =>
      if v3 = 0 then
        cl (fX1_isWord 12 S3) fun v4 S4 =>
        if v4 = 0 then
          fX1_readItem_L63 S4
        else
          cl (fX1_readSalt S4) fun v5 S5 =>
          if v5 = 0 then
            fX1_readItem_L63 S5
          else
            fX1_readItem_L64 1 S5
      else
        cl (fX1_readGrows S3) fun v6 S6 =>
        retN .boolean v6 S6
    else
      cl (fX1_readGrass S2) fun v7 S7 =>
      retN .boolean v7 S7
  else
    cl (fX1_readGoat v1 S1) fun v8 S8 =>
    retN .boolean v8 S8
theorem sX1_readItem {S : St} {r : Int32} {S9 : St} (h : fX1_readItem S = some (r, S9)) : PW mX1_readItem (some (.int r), S9) 0 [some (.ref 30), none] [] S := by
  unfold fX1_readItem at h
  refine p_aload_n (k := 0) (i := 0) rfl rfl rfl ?_
  obtain ⟨v1, S1, hcS1, h⟩ := cl_some h
  refine p_callV (k := 1) [] [] rfl (tX1_kindTold hcS1) lay_X1 rfl lc_X1_kindTold ml_RX1_38 mi_X1_kindTold mv_X1_kindTold (by decide) (by decide) (Nat.le_of_ble_eq_true rfl) rfl ?_
  refine p_istore_n (k := 2) 1 [some (.ref 30), some (.int v1)] rfl rfl rfl (by decide) rfl ?_
  refine p_iload_n (k := 3) (i := 1) rfl rfl rfl ?_
  refine p_if_lt (k := 4) 15 rfl (by decide) (fun hc => ?_) (fun hc => ?_)
  · rw [if_pos hc] at h
    refine p_aload_n (k := 9) (i := 0) rfl rfl rfl ?_
    refine p_ldcs (j := 10) (k := 10) rfl (by decide) rfl rfl ?_
    obtain ⟨v2, S2, hcS2, h⟩ := cl_some h
    refine p_callV (k := 11) [.ref 110] [] rfl (tX1_isWord (by decide) hcS2) lay_X1 rfl lc_X1_isWord ml_RX1_48 mi_X1_isWord mv_X1_isWord (by decide) (by decide) (Nat.le_of_ble_eq_true rfl) rfl ?_
    refine p_if_eq (k := 12) 29 rfl (by decide) (fun hc => ?_) (fun hc => ?_)
    · rw [if_pos hc] at h
      refine p_aload_n (k := 16) (i := 0) rfl rfl rfl ?_
      refine p_ldcs (j := 11) (k := 17) rfl (by decide) rfl rfl ?_
      obtain ⟨v3, S3, hcS3, h⟩ := cl_some h
      refine p_callV (k := 18) [.ref 111] [] rfl (tX1_isWord (by decide) hcS3) lay_X1 rfl lc_X1_isWord ml_RX1_48 mi_X1_isWord mv_X1_isWord (by decide) (by decide) (Nat.le_of_ble_eq_true rfl) rfl ?_
      refine p_if_eq (k := 19) 43 rfl (by decide) (fun hc => ?_) (fun hc => ?_)
      · rw [if_pos hc] at h
        refine p_aload_n (k := 23) (i := 0) rfl rfl rfl ?_
        refine p_ldcs (j := 12) (k := 24) rfl (by decide) rfl rfl ?_
        obtain ⟨v4, S4, hcS4, h⟩ := cl_some h
        refine p_callV (k := 25) [.ref 112] [] rfl (tX1_isWord (by decide) hcS4) lay_X1 rfl lc_X1_isWord ml_RX1_48 mi_X1_isWord mv_X1_isWord (by decide) (by decide) (Nat.le_of_ble_eq_true rfl) rfl ?_
        refine p_if_eq (k := 26) 63 rfl (by decide) (fun hc => ?_) (fun hc => ?_)
        · rw [if_pos hc] at h
          refine p_msk [false, false] (L2 := [none, none]) rfl ?_
          exact sX1_readItem_L63 h
        · rw [if_neg hc] at h
          refine p_aload_n (k := 27) (i := 0) rfl rfl rfl ?_
          obtain ⟨v5, S5, hcS5, h⟩ := cl_some h
          refine p_callV (k := 28) [] [] rfl (tX1_readSalt hcS5) lay_X1 rfl lc_X1_readSalt ml_RX1_62 mi_X1_readSalt mv_X1_readSalt (by decide) (by decide) (Nat.le_of_ble_eq_true rfl) rfl ?_
          refine p_if_eq (k := 29) 63 rfl (by decide) (fun hc => ?_) (fun hc => ?_)
          · rw [if_pos hc] at h
            refine p_msk [false, false] (L2 := [none, none]) rfl ?_
            exact sX1_readItem_L63 h
          · rw [if_neg hc] at h
            refine p_iconst (k := 30) 1 rfl (by decide) ?_
            refine p_goto (k := 31) 64 rfl (by decide) ?_
            refine p_msk [false, false] (L2 := [none, none]) rfl ?_
            exact sX1_readItem_L64 h
      · rw [if_neg hc] at h
        refine p_aload_n (k := 20) (i := 0) rfl rfl rfl ?_
        obtain ⟨v6, S6, hcS6, h⟩ := cl_some h
        refine p_callV (k := 21) [] [] rfl (tX1_readGrows hcS6) lay_X1 rfl lc_X1_readGrows ml_RX1_57 mi_X1_readGrows mv_X1_readGrows (by decide) (by decide) (Nat.le_of_ble_eq_true rfl) rfl ?_
        exact s_zret h (k := 22) rfl rfl
    · rw [if_neg hc] at h
      refine p_aload_n (k := 13) (i := 0) rfl rfl rfl ?_
      obtain ⟨v7, S7, hcS7, h⟩ := cl_some h
      refine p_callV (k := 14) [] [] rfl (tX1_readGrass hcS7) lay_X1 rfl lc_X1_readGrass ml_RX1_52 mi_X1_readGrass mv_X1_readGrass (by decide) (by decide) (Nat.le_of_ble_eq_true rfl) rfl ?_
      exact s_zret h (k := 15) rfl rfl
  · rw [if_neg hc] at h
    refine p_aload_n (k := 5) (i := 0) rfl rfl rfl ?_
    refine p_iload_n (k := 6) (i := 1) rfl rfl rfl ?_
    obtain ⟨v8, S8, hcS8, h⟩ := cl_some h
    refine p_callV (k := 7) [.int v1] [] rfl (tX1_readGoat hcS8) lay_X1 rfl lc_X1_readGoat ml_RX1_42 mi_X1_readGoat mv_X1_readGoat (by decide) (by decide) (Nat.le_of_ble_eq_true rfl) rfl ?_
    exact s_zret h (k := 8) rfl rfl
theorem tX1_readItem {S : St} {r : Int32} {S9 : St} (h : fX1_readItem S = some (r, S9)) : MR yX1_readItem cX1_readItem mX1_readItem [.ref 30] S (some (.int r), S9) := MR.of (n := 1) okX1_readItem rfl rfl (sX1_readItem h)
-- readText()I
def fX1_readText_L11 : Nat → Int32 → St → Option (Int32 × St)
  | 0 => fun _ _ => none
  | n + 1 => fun x1 S =>
    if 120 < x1 then
      some ((-1) - (S 30 3), S)
    else
      cl (fX1_readItem S) fun v1 S1 =>
      if v1 = 0 then
        some ((-1) - (S1 30 3), S1)
      else
        if (S1 30 2) = 0 then
          some (x1, S1)
        else
          if (S1 30 2) = 3 then
            cl (fX1_stepOn S1) fun _ S2 =>
            bnd (x1 + 1) fun v2 =>
            fX1_readText_L11 n v2 S2
          else
            some ((-1) - (S1 30 3), S1)
theorem sX1_readText_L11 {r : Int32} {S9 : St} : ∀ (n : Nat) (x1 : Int32) (S : St), fX1_readText_L11 n x1 S = some (r, S9) → PW mX1_readText (some (.int r), S9) 11 [some (.ref 30), some (.int x1)] [] S := by
  intro n
  induction n with
  | zero => intro x1 S h; cases h
  | succ n ih =>
    intro x1 S h
    unfold fX1_readText_L11 at h
    refine p_iload_n (k := 7) (i := 1) rfl rfl rfl ?_
    refine p_bipush (k := 8) 120 rfl (by decide) ?_
    refine p_icmp_gt (k := 9) 65 rfl (by decide) (fun hc => ?_) (fun hc => ?_)
    · rw [if_pos hc] at h
      refine p_iconst (k := 36) (-1) rfl (by decide) ?_
      refine p_aload_n (k := 37) (i := 0) rfl rfl rfl ?_
      refine p_geti (k := 38) rfl lay_X1 rfl fl_RX1_32 ?_
      refine p_isub (k := 39) rfl ?_
      exact s_iret h (k := 40) rfl rfl
    · rw [if_neg hc] at h
      refine p_aload_n (k := 10) (i := 0) rfl rfl rfl ?_
      obtain ⟨v1, S1, hcS1, h⟩ := cl_some h
      refine p_callV (k := 11) [] [] rfl (tX1_readItem hcS1) lay_X1 rfl lc_X1_readItem ml_RX1_28 mi_X1_readItem mv_X1_readItem (by decide) (by decide) (Nat.le_of_ble_eq_true rfl) rfl ?_
      refine p_if_ne (k := 12) 31 rfl (by decide) (fun hc => ?_) (fun hc => ?_)
      · rw [if_neg hc] at h
        refine p_aload_n (k := 18) (i := 0) rfl rfl rfl ?_
        refine p_geti (k := 19) rfl lay_X1 rfl fl_RX1_35 ?_
        refine p_if_ne (k := 20) 40 rfl (by decide) (fun hc => ?_) (fun hc => ?_)
        · rw [if_neg hc] at h
          refine p_aload_n (k := 23) (i := 0) rfl rfl rfl ?_
          refine p_geti (k := 24) rfl lay_X1 rfl fl_RX1_35 ?_
          refine p_iconst (k := 25) 3 rfl (by decide) ?_
          refine p_icmp_eq (k := 26) 55 rfl (by decide) (fun hc => ?_) (fun hc => ?_)
          · rw [if_pos hc] at h
            refine p_aload_n (k := 32) (i := 0) rfl rfl rfl ?_
            obtain ⟨_, S2, hcS2, h⟩ := cl_some h
            refine p_callV (k := 33) [] [] rfl (tX1_stepOn hcS2) lay_X1 rfl lc_X1_stepOn ml_RX1_23 mi_X1_stepOn mv_X1_stepOn (by decide) (by decide) (Nat.le_of_ble_eq_true rfl) rfl ?_
            obtain ⟨v2, ev2, h⟩ := bnd_ex h
            refine p_iinc (k := 34) v2 [some (.ref 30), some (.int v2)] rfl rfl (by rw [← ev2]; rfl) rfl (by decide) rfl ?_
            refine p_goto (k := 35) 11 rfl (by decide) ?_
            refine p_msk [true, true] (L2 := [some (.ref 30), some (.int v2)]) rfl ?_
            exact ih _ _ h
          · rw [if_neg hc] at h
            refine p_iconst (k := 27) (-1) rfl (by decide) ?_
            refine p_aload_n (k := 28) (i := 0) rfl rfl rfl ?_
            refine p_geti (k := 29) rfl lay_X1 rfl fl_RX1_32 ?_
            refine p_isub (k := 30) rfl ?_
            exact s_iret h (k := 31) rfl rfl
        · rw [if_pos hc] at h
          refine p_iload_n (k := 21) (i := 1) rfl rfl rfl ?_
          exact s_iret h (k := 22) rfl rfl
      · rw [if_pos hc] at h
        refine p_iconst (k := 13) (-1) rfl (by decide) ?_
        refine p_aload_n (k := 14) (i := 0) rfl rfl rfl ?_
        refine p_geti (k := 15) rfl lay_X1 rfl fl_RX1_32 ?_
        refine p_isub (k := 16) rfl ?_
        exact s_iret h (k := 17) rfl rfl
def fX1_readText (S : St) : Option (Int32 × St) :=
  bnd (up2 S 30 4 0) fun S1 =>
  cl (fX1_stepOn S1) fun _ S2 =>
  fX1_readText_L11 FU 1 S2
theorem sX1_readText {S : St} {r : Int32} {S9 : St} (h : fX1_readText S = some (r, S9)) : PW mX1_readText (some (.int r), S9) 0 [some (.ref 30), none] [] S := by
  unfold fX1_readText at h
  refine p_aload_n (k := 0) (i := 0) rfl rfl rfl ?_
  refine p_iconst (k := 1) 0 rfl (by decide) ?_
  refine s_put h (k := 2) rfl lay_X1 rfl fl_RX1_19 fp_1_4 rfl rfl (fun S1 h => ?_)
  refine p_aload_n (k := 3) (i := 0) rfl rfl rfl ?_
  obtain ⟨_, S2, hcS2, h⟩ := cl_some h
  refine p_callV (k := 4) [] [] rfl (tX1_stepOn hcS2) lay_X1 rfl lc_X1_stepOn ml_RX1_23 mi_X1_stepOn mv_X1_stepOn (by decide) (by decide) (Nat.le_of_ble_eq_true rfl) rfl ?_
  refine p_iconst (k := 5) 1 rfl (by decide) ?_
  refine p_istore_n (k := 6) 1 [some (.ref 30), some (.int 1)] rfl rfl rfl (by decide) rfl ?_
  refine p_msk [true, true] (L2 := [some (.ref 30), some (.int 1)]) rfl ?_
  exact sX1_readText_L11 _ _ _ h
theorem tX1_readText {S : St} {r : Int32} {S9 : St} (h : fX1_readText S = some (r, S9)) : MR yX1_readText cX1_readText mX1_readText [.ref 30] S (some (.int r), S9) := MR.of (n := 1) okX1_readText rfl rfl (sX1_readText h)
