-- isIn(JJJ)Z
def fX5_isIn_L18 (y0 : Int32) (S : St) : Option (Int32 × St) :=
  retN .boolean y0 S
theorem sX5_isIn_L18 {r : Int32} {S9 : St} {y0 : Int32} {S : St} (h : fX5_isIn_L18 y0 S = some (r, S9)) : PW mX5_isIn (some (.int r), S9) 18 [none, none, none, none, none, none] [.int y0] S := by
  unfold fX5_isIn_L18 at h
  exact s_zret h (k := 11) rfl rfl
def fX5_isIn_L17 (S : St) : Option (Int32 × St) :=
  fX5_isIn_L18 0 S
theorem sX5_isIn_L17 {r : Int32} {S9 : St}  {S : St} (h : fX5_isIn_L17 S = some (r, S9)) : PW mX5_isIn (some (.int r), S9) 17 [none, none, none, none, none, none] [] S := by
  unfold fX5_isIn_L17 at h
  refine p_iconst (k := 10) 0 rfl (by decide) ?_
  refine p_msk [false, false, false, false, false, false] (L2 := [none, none, none, none, none, none]) rfl ?_
  exact sX5_isIn_L18 h
def fX5_isIn (a1 : Int64) (a2 : Int64) (a3 : Int64) (S : St) : Option (Int32 × St) :=
  if (lg_cmp a1 a2) < 0 then
    fX5_isIn_L17 S
  else
    if 0 < (lg_cmp a1 a3) then
      fX5_isIn_L17 S
    else
      fX5_isIn_L18 1 S
theorem sX5_isIn {a1 : Int64} {a2 : Int64} {a3 : Int64} {S : St} {r : Int32} {S9 : St} (h : fX5_isIn a1 a2 a3 S = some (r, S9)) : PW mX5_isIn (some (.int r), S9) 0 [some (.long a1), none, some (.long a2), none, some (.long a3), none] [] S := by
  unfold fX5_isIn at h
  refine p_lload_n (k := 0) (i := 0) rfl rfl rfl ?_
  refine p_lload_n (k := 1) (i := 2) rfl rfl rfl ?_
  refine p_lcmp (k := 2) rfl ?_
  refine p_if_lt (k := 3) 17 rfl (by decide) (fun hc => ?_) (fun hc => ?_)
  · rw [if_pos hc] at h
    refine p_msk [false, false, false, false, false, false] (L2 := [none, none, none, none, none, none]) rfl ?_
    exact sX5_isIn_L17 h
  · rw [if_neg hc] at h
    refine p_lload_n (k := 4) (i := 0) rfl rfl rfl ?_
    refine p_lload (k := 5) rfl rfl ?_
    refine p_lcmp (k := 6) rfl ?_
    refine p_if_gt (k := 7) 17 rfl (by decide) (fun hc => ?_) (fun hc => ?_)
    · rw [if_pos hc] at h
      refine p_msk [false, false, false, false, false, false] (L2 := [none, none, none, none, none, none]) rfl ?_
      exact sX5_isIn_L17 h
    · rw [if_neg hc] at h
      refine p_iconst (k := 8) 1 rfl (by decide) ?_
      refine p_goto (k := 9) 18 rfl (by decide) ?_
      refine p_msk [false, false, false, false, false, false] (L2 := [none, none, none, none, none, none]) rfl ?_
      exact sX5_isIn_L18 h
theorem tX5_isIn {a1 : Int64} {a2 : Int64} {a3 : Int64} {S : St} {r : Int32} {S9 : St} (h : fX5_isIn a1 a2 a3 S = some (r, S9)) : MR yX5_isIn cX5_isIn mX5_isIn [.long a1, .long a2, .long a3] S (some (.int r), S9) := MR.of (n := 0) okX5_isIn rfl rfl (sX5_isIn h)
-- finds(I)I
def fX5_finds (a1 : Int32) (S : St) : Option (Int32 × St) :=
  rd S 46 8 0 fun v1 =>
  wr S 46 8 0 (v1 + 1) fun S1 =>
  rd S1 46 8 (((-1000001) - a1) + 1) fun v2 =>
  wr S1 46 8 (((-1000001) - a1) + 1) (v2 + 1) fun S2 =>
  some (a1, S2)
theorem sX5_finds {a1 : Int32} {S : St} {r : Int32} {S9 : St} (h : fX5_finds a1 S = some (r, S9)) : PW mX5_finds (some (.int r), S9) 0 [some (.ref 41), some (.int a1)] [] S := by
  unfold fX5_finds at h
  refine p_aload_n (k := 0) (i := 0) rfl rfl rfl ?_
  refine p_getr (k := 1) rfl lay_X5 rfl fl_RX5_22 ?_
  refine p_iconst (k := 2) 0 rfl (by decide) ?_
  refine p_dup2 (k := 3) rfl rfl rfl ?_
  refine s_rd h (k := 4) rfl lay_46 (fun v1 h => ?_)
  refine p_iconst (k := 5) 1 rfl (by decide) ?_
  refine p_iadd (k := 6) rfl ?_
  refine s_wr h (k := 7) rfl lay_46 (fun S1 h => ?_)
  refine p_aload_n (k := 8) (i := 0) rfl rfl rfl ?_
  refine p_getr (k := 9) rfl lay_X5 rfl fl_RX5_22 ?_
  refine p_ldc (k := 10) rfl k_RX5_37 ?_
  refine p_iload_n (k := 11) (i := 1) rfl rfl rfl ?_
  refine p_isub (k := 12) rfl ?_
  refine p_iconst (k := 13) 1 rfl (by decide) ?_
  refine p_iadd (k := 14) rfl ?_
  refine p_dup2 (k := 15) rfl rfl rfl ?_
  refine s_rd h (k := 16) rfl lay_46 (fun v2 h => ?_)
  refine p_iconst (k := 17) 1 rfl (by decide) ?_
  refine p_iadd (k := 18) rfl ?_
  refine s_wr h (k := 19) rfl lay_46 (fun S2 h => ?_)
  refine p_iload_n (k := 20) (i := 1) rfl rfl rfl ?_
  exact s_iret h (k := 21) rfl rfl
theorem tX5_finds {a1 : Int32} {S : St} {r : Int32} {S9 : St} (h : fX5_finds a1 S = some (r, S9)) : MR yX5_finds cX5_finds mX5_finds [.ref 41, .int a1] S (some (.int r), S9) := MR.of (n := 0) okX5_finds rfl rfl (sX5_finds h)
-- becomes(II)I
def fX5_becomes (a1 : Int32) (a2 : Int32) (S : St) : Option (Int32 × St) :=
  rd S 42 75 a1 fun v1 =>
  wr S 42 75 a1 a2 fun S1 =>
  some (v1, S1)
theorem sX5_becomes {a1 : Int32} {a2 : Int32} {S : St} {r : Int32} {S9 : St} (h : fX5_becomes a1 a2 S = some (r, S9)) : PW mX5_becomes (some (.int r), S9) 0 [some (.ref 41), some (.int a1), some (.int a2), none] [] S := by
  unfold fX5_becomes at h
  refine p_aload_n (k := 0) (i := 0) rfl rfl rfl ?_
  refine p_getr (k := 1) rfl lay_X5 rfl fl_RX5_7 ?_
  refine p_iload_n (k := 2) (i := 1) rfl rfl rfl ?_
  refine s_rd h (k := 3) rfl lay_42 (fun v1 h => ?_)
  refine p_istore_n (k := 4) 3 [some (.ref 41), some (.int a1), some (.int a2), some (.int v1)] rfl rfl rfl (by decide) rfl ?_
  refine p_aload_n (k := 5) (i := 0) rfl rfl rfl ?_
  refine p_getr (k := 6) rfl lay_X5 rfl fl_RX5_7 ?_
  refine p_iload_n (k := 7) (i := 1) rfl rfl rfl ?_
  refine p_iload_n (k := 8) (i := 2) rfl rfl rfl ?_
  refine s_wr h (k := 9) rfl lay_42 (fun S1 h => ?_)
  refine p_iload_n (k := 10) (i := 3) rfl rfl rfl ?_
  exact s_iret h (k := 11) rfl rfl
theorem tX5_becomes {a1 : Int32} {a2 : Int32} {S : St} {r : Int32} {S9 : St} (h : fX5_becomes a1 a2 S = some (r, S9)) : MR yX5_becomes cX5_becomes mX5_becomes [.ref 41, .int a1, .int a2] S (some (.int r), S9) := MR.of (n := 1) okX5_becomes rfl rfl (sX5_becomes h)
-- copyRow([I[I)V
def fX5_copyRow_L2 (a1 : Nat) (a2 : Nat) : Nat → Int32 → St → Option (Unit × St)
  | 0 => fun _ _ => none
  | n + 1 => fun x2 S =>
    if 75 ≤ x2 then
      some ((), S)
    else
      rd S a1 75 x2 fun v1 =>
      wr S a2 75 x2 v1 fun S1 =>
      bnd (x2 + 1) fun v2 =>
      fX5_copyRow_L2 a1 a2 n v2 S1
theorem sX5_copyRow_L2 {a1 : Nat} {a2 : Nat} (h1 : lay[a1]? = some (.inl 75)) (h2 : lay[a2]? = some (.inl 75)) {r : Unit} {S9 : St} : ∀ (n : Nat) (x2 : Int32) (S : St), fX5_copyRow_L2 a1 a2 n x2 S = some (r, S9) → PW mX5_copyRow (none, S9) 2 [some (.ref a1), some (.ref a2), some (.int x2)] [] S := by
  intro n
  induction n with
  | zero => intro x2 S h; cases h
  | succ n ih =>
    intro x2 S h
    unfold fX5_copyRow_L2 at h
    refine p_iload_n (k := 2) (i := 2) rfl rfl rfl ?_
    refine p_bipush (k := 3) 75 rfl (by decide) ?_
    refine p_icmp_ge (k := 4) 20 rfl (by decide) (fun hc => ?_) (fun hc => ?_)
    · rw [if_pos hc] at h
      exact s_vret h (k := 13) rfl rfl
    · rw [if_neg hc] at h
      refine p_aload_n (k := 5) (i := 1) rfl rfl rfl ?_
      refine p_iload_n (k := 6) (i := 2) rfl rfl rfl ?_
      refine p_aload_n (k := 7) (i := 0) rfl rfl rfl ?_
      refine p_iload_n (k := 8) (i := 2) rfl rfl rfl ?_
      refine s_rd h (k := 9) rfl h1 (fun v1 h => ?_)
      refine s_wr h (k := 10) rfl h2 (fun S1 h => ?_)
      obtain ⟨v2, ev2, h⟩ := bnd_ex h
      refine p_iinc (k := 11) v2 [some (.ref a1), some (.ref a2), some (.int v2)] rfl rfl (by rw [← ev2]; rfl) rfl (by decide) rfl ?_
      refine p_goto (k := 12) 2 rfl (by decide) ?_
      refine p_msk [true, true, true] (L2 := [some (.ref a1), some (.ref a2), some (.int v2)]) rfl ?_
      exact ih _ _ h
def fX5_copyRow (a1 : Nat) (a2 : Nat) (S : St) : Option (Unit × St) :=
  fX5_copyRow_L2 a1 a2 FU 0 S
theorem sX5_copyRow {a1 : Nat} {a2 : Nat} (h1 : lay[a1]? = some (.inl 75)) (h2 : lay[a2]? = some (.inl 75)) {S : St} {r : Unit} {S9 : St} (h : fX5_copyRow a1 a2 S = some (r, S9)) : PW mX5_copyRow (none, S9) 0 [some (.ref a1), some (.ref a2), none] [] S := by
  unfold fX5_copyRow at h
  refine p_iconst (k := 0) 0 rfl (by decide) ?_
  refine p_istore_n (k := 1) 2 [some (.ref a1), some (.ref a2), some (.int 0)] rfl rfl rfl (by decide) rfl ?_
  refine p_msk [true, true, true] (L2 := [some (.ref a1), some (.ref a2), some (.int 0)]) rfl ?_
  exact sX5_copyRow_L2 h1 h2 _ _ _ h
theorem tX5_copyRow {a1 : Nat} {a2 : Nat} (h1 : lay[a1]? = some (.inl 75)) (h2 : lay[a2]? = some (.inl 75)) {S : St} {r : Unit} {S9 : St} (h : fX5_copyRow a1 a2 S = some (r, S9)) : MR yX5_copyRow cX5_copyRow mX5_copyRow [.ref a1, .ref a2] S (none, S9) := MR.of (n := 1) okX5_copyRow rfl rfl (sX5_copyRow h1 h2 h)
-- isLedge(I)Z
def fX5_isLedge_L15 (y0 : Int32) (S : St) : Option (Int32 × St) :=
  retN .boolean y0 S
theorem sX5_isLedge_L15 {r : Int32} {S9 : St} {y0 : Int32} {S : St} (h : fX5_isLedge_L15 y0 S = some (r, S9)) : PW mX5_isLedge (some (.int r), S9) 15 [none] [.int y0] S := by
  unfold fX5_isLedge_L15 at h
  exact s_zret h (k := 8) rfl rfl
def fX5_isLedge_L14 (S : St) : Option (Int32 × St) :=
  fX5_isLedge_L15 0 S
theorem sX5_isLedge_L14 {r : Int32} {S9 : St}  {S : St} (h : fX5_isLedge_L14 S = some (r, S9)) : PW mX5_isLedge (some (.int r), S9) 14 [none] [] S := by
  unfold fX5_isLedge_L14 at h
  refine p_iconst (k := 7) 0 rfl (by decide) ?_
  refine p_msk [false] (L2 := [none]) rfl ?_
  exact sX5_isLedge_L15 h
def fX5_isLedge (a1 : Int32) (S : St) : Option (Int32 × St) :=
  if a1 < 0 then
    fX5_isLedge_L14 S
  else
    if 12 ≤ a1 then
      fX5_isLedge_L14 S
    else
      fX5_isLedge_L15 1 S
theorem sX5_isLedge {a1 : Int32} {S : St} {r : Int32} {S9 : St} (h : fX5_isLedge a1 S = some (r, S9)) : PW mX5_isLedge (some (.int r), S9) 0 [some (.int a1)] [] S := by
  unfold fX5_isLedge at h
  refine p_iload_n (k := 0) (i := 0) rfl rfl rfl ?_
  refine p_if_lt (k := 1) 14 rfl (by decide) (fun hc => ?_) (fun hc => ?_)
  · rw [if_pos hc] at h
    refine p_msk [false] (L2 := [none]) rfl ?_
    exact sX5_isLedge_L14 h
  · rw [if_neg hc] at h
    refine p_iload_n (k := 2) (i := 0) rfl rfl rfl ?_
    refine p_bipush (k := 3) 12 rfl (by decide) ?_
    refine p_icmp_ge (k := 4) 14 rfl (by decide) (fun hc => ?_) (fun hc => ?_)
    · rw [if_pos hc] at h
      refine p_msk [false] (L2 := [none]) rfl ?_
      exact sX5_isLedge_L14 h
    · rw [if_neg hc] at h
      refine p_iconst (k := 5) 1 rfl (by decide) ?_
      refine p_goto (k := 6) 15 rfl (by decide) ?_
      refine p_msk [false] (L2 := [none]) rfl ?_
      exact sX5_isLedge_L15 h
theorem tX5_isLedge {a1 : Int32} {S : St} {r : Int32} {S9 : St} (h : fX5_isLedge a1 S = some (r, S9)) : MR yX5_isLedge cX5_isLedge mX5_isLedge [.int a1] S (some (.int r), S9) := MR.of (n := 0) okX5_isLedge rfl rfl (sX5_isLedge h)
-- isPage(I)Z
def fX5_isPage_L15 (y0 : Int32) (S : St) : Option (Int32 × St) :=
  retN .boolean y0 S
theorem sX5_isPage_L15 {r : Int32} {S9 : St} {y0 : Int32} {S : St} (h : fX5_isPage_L15 y0 S = some (r, S9)) : PW mX5_isPage (some (.int r), S9) 15 [none] [.int y0] S := by
  unfold fX5_isPage_L15 at h
  exact s_zret h (k := 8) rfl rfl
def fX5_isPage_L14 (S : St) : Option (Int32 × St) :=
  fX5_isPage_L15 0 S
theorem sX5_isPage_L14 {r : Int32} {S9 : St}  {S : St} (h : fX5_isPage_L14 S = some (r, S9)) : PW mX5_isPage (some (.int r), S9) 14 [none] [] S := by
  unfold fX5_isPage_L14 at h
  refine p_iconst (k := 7) 0 rfl (by decide) ?_
  refine p_msk [false] (L2 := [none]) rfl ?_
  exact sX5_isPage_L15 h
def fX5_isPage (a1 : Int32) (S : St) : Option (Int32 × St) :=
  if a1 < 0 then
    fX5_isPage_L14 S
  else
    if 16 ≤ a1 then
      fX5_isPage_L14 S
    else
      fX5_isPage_L15 1 S
theorem sX5_isPage {a1 : Int32} {S : St} {r : Int32} {S9 : St} (h : fX5_isPage a1 S = some (r, S9)) : PW mX5_isPage (some (.int r), S9) 0 [some (.int a1)] [] S := by
  unfold fX5_isPage at h
  refine p_iload_n (k := 0) (i := 0) rfl rfl rfl ?_
  refine p_if_lt (k := 1) 14 rfl (by decide) (fun hc => ?_) (fun hc => ?_)
  · rw [if_pos hc] at h
    refine p_msk [false] (L2 := [none]) rfl ?_
    exact sX5_isPage_L14 h
  · rw [if_neg hc] at h
    refine p_iload_n (k := 2) (i := 0) rfl rfl rfl ?_
    refine p_bipush (k := 3) 16 rfl (by decide) ?_
    refine p_icmp_ge (k := 4) 14 rfl (by decide) (fun hc => ?_) (fun hc => ?_)
    · rw [if_pos hc] at h
      refine p_msk [false] (L2 := [none]) rfl ?_
      exact sX5_isPage_L14 h
    · rw [if_neg hc] at h
      refine p_iconst (k := 5) 1 rfl (by decide) ?_
      refine p_goto (k := 6) 15 rfl (by decide) ?_
      refine p_msk [false] (L2 := [none]) rfl ?_
      exact sX5_isPage_L15 h
theorem tX5_isPage {a1 : Int32} {S : St} {r : Int32} {S9 : St} (h : fX5_isPage a1 S = some (r, S9)) : MR yX5_isPage cX5_isPage mX5_isPage [.int a1] S (some (.int r), S9) := MR.of (n := 0) okX5_isPage rfl rfl (sX5_isPage h)
-- isGoat(I)Z
def fX5_isGoat_L19 (y0 : Int32) (S : St) : Option (Int32 × St) :=
  retN .boolean y0 S
theorem sX5_isGoat_L19 {r : Int32} {S9 : St} {y0 : Int32} {S : St} (h : fX5_isGoat_L19 y0 S = some (r, S9)) : PW mX5_isGoat (some (.int r), S9) 19 [none, none] [.int y0] S := by
  unfold fX5_isGoat_L19 at h
  exact s_zret h (k := 11) rfl rfl
def fX5_isGoat_L18 (S : St) : Option (Int32 × St) :=
  fX5_isGoat_L19 0 S
theorem sX5_isGoat_L18 {r : Int32} {S9 : St}  {S : St} (h : fX5_isGoat_L18 S = some (r, S9)) : PW mX5_isGoat (some (.int r), S9) 18 [none, none] [] S := by
  unfold fX5_isGoat_L18 at h
  refine p_iconst (k := 10) 0 rfl (by decide) ?_
  refine p_msk [false, false] (L2 := [none, none]) rfl ?_
  exact sX5_isGoat_L19 h
def fX5_isGoat (a1 : Int32) (S : St) : Option (Int32 × St) :=
  if a1 < 0 then
    fX5_isGoat_L18 S
  else
    rd S 42 75 0 fun v1 =>
    if v1 ≤ a1 then
      fX5_isGoat_L18 S
    else
      fX5_isGoat_L19 1 S
theorem sX5_isGoat {a1 : Int32} {S : St} {r : Int32} {S9 : St} (h : fX5_isGoat a1 S = some (r, S9)) : PW mX5_isGoat (some (.int r), S9) 0 [some (.ref 41), some (.int a1)] [] S := by
  unfold fX5_isGoat at h
  refine p_iload_n (k := 0) (i := 1) rfl rfl rfl ?_
  refine p_if_lt (k := 1) 18 rfl (by decide) (fun hc => ?_) (fun hc => ?_)
  · rw [if_pos hc] at h
    refine p_msk [false, false] (L2 := [none, none]) rfl ?_
    exact sX5_isGoat_L18 h
  · rw [if_neg hc] at h
    refine p_iload_n (k := 2) (i := 1) rfl rfl rfl ?_
    refine p_aload_n (k := 3) (i := 0) rfl rfl rfl ?_
    refine p_getr (k := 4) rfl lay_X5 rfl fl_RX5_7 ?_
    refine p_iconst (k := 5) 0 rfl (by decide) ?_
    refine s_rd h (k := 6) rfl lay_42 (fun v1 h => ?_)
    refine p_icmp_ge (k := 7) 18 rfl (by decide) (fun hc => ?_) (fun hc => ?_)
    · rw [if_pos hc] at h
      refine p_msk [false, false] (L2 := [none, none]) rfl ?_
      exact sX5_isGoat_L18 h
    · rw [if_neg hc] at h
      refine p_iconst (k := 8) 1 rfl (by decide) ?_
      refine p_goto (k := 9) 19 rfl (by decide) ?_
      refine p_msk [false, false] (L2 := [none, none]) rfl ?_
      exact sX5_isGoat_L19 h
theorem tX5_isGoat {a1 : Int32} {S : St} {r : Int32} {S9 : St} (h : fX5_isGoat a1 S = some (r, S9)) : MR yX5_isGoat cX5_isGoat mX5_isGoat [.ref 41, .int a1] S (some (.int r), S9) := MR.of (n := 0) okX5_isGoat rfl rfl (sX5_isGoat h)
-- at(II)I
def fX5_at (a1 : Int32) (a2 : Int32) (S : St) : Option (Int32 × St) :=
  some ((17 + (6 * a1)) + a2, S)
theorem sX5_at {a1 : Int32} {a2 : Int32} {S : St} {r : Int32} {S9 : St} (h : fX5_at a1 a2 S = some (r, S9)) : PW mX5_at (some (.int r), S9) 0 [some (.int a1), some (.int a2)] [] S := by
  unfold fX5_at at h
  refine p_bipush (k := 0) 17 rfl (by decide) ?_
  refine p_bipush (k := 1) 6 rfl (by decide) ?_
  refine p_iload_n (k := 2) (i := 0) rfl rfl rfl ?_
  refine p_imul (k := 3) rfl ?_
  refine p_iadd (k := 4) rfl ?_
  refine p_iload_n (k := 5) (i := 1) rfl rfl rfl ?_
  refine p_iadd (k := 6) rfl ?_
  exact s_iret h (k := 7) rfl rfl
theorem tX5_at {a1 : Int32} {a2 : Int32} {S : St} {r : Int32} {S9 : St} (h : fX5_at a1 a2 S = some (r, S9)) : MR yX5_at cX5_at mX5_at [.int a1, .int a2] S (some (.int r), S9) := MR.of (n := 0) okX5_at rfl rfl (sX5_at h)
-- its(II)I
def fX5_its (a1 : Int32) (a2 : Int32) (S : St) : Option (Int32 × St) :=
  rd S 42 75 ((17 + (6 * a1)) + a2) fun v1 =>
  some (v1, S)
theorem sX5_its {a1 : Int32} {a2 : Int32} {S : St} {r : Int32} {S9 : St} (h : fX5_its a1 a2 S = some (r, S9)) : PW mX5_its (some (.int r), S9) 0 [some (.ref 41), some (.int a1), some (.int a2)] [] S := by
  unfold fX5_its at h
  refine p_aload_n (k := 0) (i := 0) rfl rfl rfl ?_
  refine p_getr (k := 1) rfl lay_X5 rfl fl_RX5_7 ?_
  refine p_bipush (k := 2) 17 rfl (by decide) ?_
  refine p_bipush (k := 3) 6 rfl (by decide) ?_
  refine p_iload_n (k := 4) (i := 1) rfl rfl rfl ?_
  refine p_imul (k := 5) rfl ?_
  refine p_iadd (k := 6) rfl ?_
  refine p_iload_n (k := 7) (i := 2) rfl rfl rfl ?_
  refine p_iadd (k := 8) rfl ?_
  refine s_rd h (k := 9) rfl lay_42 (fun v1 h => ?_)
  exact s_iret h (k := 10) rfl rfl
theorem tX5_its {a1 : Int32} {a2 : Int32} {S : St} {r : Int32} {S9 : St} (h : fX5_its a1 a2 S = some (r, S9)) : MR yX5_its cX5_its mX5_its [.ref 41, .int a1, .int a2] S (some (.int r), S9) := MR.of (n := 0) okX5_its rfl rfl (sX5_its h)
-- least(II)I
def fX5_least_L10 (y0 : Int32) (S : St) : Option (Int32 × St) :=
  some (y0, S)
theorem sX5_least_L10 {r : Int32} {S9 : St} {y0 : Int32} {S : St} (h : fX5_least_L10 y0 S = some (r, S9)) : PW mX5_least (some (.int r), S9) 10 [none, none] [.int y0] S := by
  unfold fX5_least_L10 at h
  exact s_iret h (k := 6) rfl rfl
def fX5_least (a1 : Int32) (a2 : Int32) (S : St) : Option (Int32 × St) :=
  if a2 ≤ a1 then
    fX5_least_L10 a2 S
  else
    fX5_least_L10 a1 S
theorem sX5_least {a1 : Int32} {a2 : Int32} {S : St} {r : Int32} {S9 : St} (h : fX5_least a1 a2 S = some (r, S9)) : PW mX5_least (some (.int r), S9) 0 [some (.int a1), some (.int a2)] [] S := by
  unfold fX5_least at h
  refine p_iload_n (k := 0) (i := 0) rfl rfl rfl ?_
  refine p_iload_n (k := 1) (i := 1) rfl rfl rfl ?_
  refine p_icmp_ge (k := 2) 9 rfl (by decide) (fun hc => ?_) (fun hc => ?_)
  · rw [if_pos hc] at h
    refine p_iload_n (k := 5) (i := 1) rfl rfl rfl ?_
    refine p_msk [false, false] (L2 := [none, none]) rfl ?_
    exact sX5_least_L10 h
  · rw [if_neg hc] at h
    refine p_iload_n (k := 3) (i := 0) rfl rfl rfl ?_
    refine p_goto (k := 4) 10 rfl (by decide) ?_
    refine p_msk [false, false] (L2 := [none, none]) rfl ?_
    exact sX5_least_L10 h
theorem tX5_least {a1 : Int32} {a2 : Int32} {S : St} {r : Int32} {S9 : St} (h : fX5_least a1 a2 S = some (r, S9)) : MR yX5_least cX5_least mX5_least [.int a1, .int a2] S (some (.int r), S9) := MR.of (n := 0) okX5_least rfl rfl (sX5_least h)
-- greatest(II)I
def fX5_greatest_L10 (y0 : Int32) (S : St) : Option (Int32 × St) :=
  some (y0, S)
theorem sX5_greatest_L10 {r : Int32} {S9 : St} {y0 : Int32} {S : St} (h : fX5_greatest_L10 y0 S = some (r, S9)) : PW mX5_greatest (some (.int r), S9) 10 [none, none] [.int y0] S := by
  unfold fX5_greatest_L10 at h
  exact s_iret h (k := 6) rfl rfl
def fX5_greatest (a1 : Int32) (a2 : Int32) (S : St) : Option (Int32 × St) :=
  if a1 ≤ a2 then
    fX5_greatest_L10 a2 S
  else
    fX5_greatest_L10 a1 S
theorem sX5_greatest {a1 : Int32} {a2 : Int32} {S : St} {r : Int32} {S9 : St} (h : fX5_greatest a1 a2 S = some (r, S9)) : PW mX5_greatest (some (.int r), S9) 0 [some (.int a1), some (.int a2)] [] S := by
  unfold fX5_greatest at h
  refine p_iload_n (k := 0) (i := 0) rfl rfl rfl ?_
  refine p_iload_n (k := 1) (i := 1) rfl rfl rfl ?_
  refine p_icmp_le (k := 2) 9 rfl (by decide) (fun hc => ?_) (fun hc => ?_)
  · rw [if_pos hc] at h
    refine p_iload_n (k := 5) (i := 1) rfl rfl rfl ?_
    refine p_msk [false, false] (L2 := [none, none]) rfl ?_
    exact sX5_greatest_L10 h
  · rw [if_neg hc] at h
    refine p_iload_n (k := 3) (i := 0) rfl rfl rfl ?_
    refine p_goto (k := 4) 10 rfl (by decide) ?_
    refine p_msk [false, false] (L2 := [none, none]) rfl ?_
    exact sX5_greatest_L10 h
theorem tX5_greatest {a1 : Int32} {a2 : Int32} {S : St} {r : Int32} {S9 : St} (h : fX5_greatest a1 a2 S = some (r, S9)) : MR yX5_greatest cX5_greatest mX5_greatest [.int a1, .int a2] S (some (.int r), S9) := MR.of (n := 0) okX5_greatest rfl rfl (sX5_greatest h)
-- orNone(I)I
def fX5_orNone_L14 (y0 : Int32) (S : St) : Option (Int32 × St) :=
  some (y0, S)
theorem sX5_orNone_L14 {r : Int32} {S9 : St} {y0 : Int32} {S : St} (h : fX5_orNone_L14 y0 S = some (r, S9)) : PW mX5_orNone (some (.int r), S9) 14 [none, none] [.int y0] S := by
  unfold fX5_orNone_L14 at h
  exact s_iret h (k := 7) rfl rfl
def fX5_orNone (a1 : Int32) (S : St) : Option (Int32 × St) :=
  if 0 ≤ a1 then
    fX5_orNone_L14 a1 S
  else
    cl (fX5_finds (-1000004) S) fun v1 S1 =>
    fX5_orNone_L14 v1 S1
theorem sX5_orNone {a1 : Int32} {S : St} {r : Int32} {S9 : St} (h : fX5_orNone a1 S = some (r, S9)) : PW mX5_orNone (some (.int r), S9) 0 [some (.ref 41), some (.int a1)] [] S := by
  unfold fX5_orNone at h
  refine p_iload_n (k := 0) (i := 1) rfl rfl rfl ?_
  refine p_if_ge (k := 1) 13 rfl (by decide) (fun hc => ?_) (fun hc => ?_)
  · rw [if_pos hc] at h
    refine p_iload_n (k := 6) (i := 1) rfl rfl rfl ?_
    refine p_msk [false, false] (L2 := [none, none]) rfl ?_
    exact sX5_orNone_L14 h
  · rw [if_neg hc] at h
    refine p_aload_n (k := 2) (i := 0) rfl rfl rfl ?_
    refine p_ldc (k := 3) rfl k_RX5_38 ?_
    obtain ⟨v1, S1, hcS1, h⟩ := cl_some h
    refine p_callV (k := 4) [.int (-1000004)] [] rfl (tX5_finds hcS1) lay_X5 rfl lc_X5_finds ml_RX5_39 mi_X5_finds mv_X5_finds (by decide) (by decide) (Nat.le_of_ble_eq_true rfl) rfl ?_
    refine p_goto (k := 5) 14 rfl (by decide) ?_
    refine p_msk [false, false] (L2 := [none, none]) rfl ?_
    exact sX5_orNone_L14 h
theorem tX5_orNone {a1 : Int32} {S : St} {r : Int32} {S9 : St} (h : fX5_orNone a1 S = some (r, S9)) : MR yX5_orNone cX5_orNone mX5_orNone [.ref 41, .int a1] S (some (.int r), S9) := MR.of (n := 0) okX5_orNone rfl rfl (sX5_orNone h)
-- many(I)I
def fX5_many_L4 : Nat → Int32 → Int32 → St → Option (Int32 × St)
  | 0 => fun _ _ _ => none
  | n + 1 => fun x1 x2 S =>
    if x2 = 0 then
      some (x1, S)
    else
      bnd (x1 + 1) fun v1 =>
      bnd (x2 &&& (x2 - 1)) fun v2 =>
      fX5_many_L4 n v1 v2 S
theorem sX5_many_L4 {r : Int32} {S9 : St} : ∀ (n : Nat) (x1 : Int32) (x2 : Int32) (S : St), fX5_many_L4 n x1 x2 S = some (r, S9) → PW mX5_many (some (.int r), S9) 4 [none, some (.int x1), some (.int x2)] [] S := by
  intro n
  induction n with
  | zero => intro x1 x2 S h; cases h
  | succ n ih =>
    intro x1 x2 S h
    unfold fX5_many_L4 at h
    refine p_iload_n (k := 4) (i := 2) rfl rfl rfl ?_
    refine p_if_eq (k := 5) 20 rfl (by decide) (fun hc => ?_) (fun hc => ?_)
    · rw [if_pos hc] at h
      refine p_iload_n (k := 14) (i := 1) rfl rfl rfl ?_
      exact s_iret h (k := 15) rfl rfl
    · rw [if_neg hc] at h
      obtain ⟨v1, ev1, h⟩ := bnd_ex h
      refine p_iinc (k := 6) v1 [none, some (.int v1), some (.int x2)] rfl rfl (by rw [← ev1]; rfl) rfl (by decide) rfl ?_
      refine p_iload_n (k := 7) (i := 2) rfl rfl rfl ?_
      refine p_iload_n (k := 8) (i := 2) rfl rfl rfl ?_
      refine p_iconst (k := 9) 1 rfl (by decide) ?_
      refine p_isub (k := 10) rfl ?_
      refine p_iand (k := 11) rfl ?_
      refine s_bnd h (fun v2 h => ?_)
      refine p_istore_n (k := 12) 2 [none, some (.int v1), some (.int v2)] rfl rfl rfl (by decide) rfl ?_
      refine p_goto (k := 13) 4 rfl (by decide) ?_
      refine p_msk [false, true, true] (L2 := [none, some (.int v1), some (.int v2)]) rfl ?_
      exact ih _ _ _ h
def fX5_many (a1 : Int32) (S : St) : Option (Int32 × St) :=
  fX5_many_L4 FU 0 a1 S
theorem sX5_many {a1 : Int32} {S : St} {r : Int32} {S9 : St} (h : fX5_many a1 S = some (r, S9)) : PW mX5_many (some (.int r), S9) 0 [some (.int a1), none, none] [] S := by
  unfold fX5_many at h
  refine p_iconst (k := 0) 0 rfl (by decide) ?_
  refine p_istore_n (k := 1) 1 [some (.int a1), some (.int 0), none] rfl rfl rfl (by decide) rfl ?_
  refine p_iload_n (k := 2) (i := 0) rfl rfl rfl ?_
  refine p_istore_n (k := 3) 2 [some (.int a1), some (.int 0), some (.int a1)] rfl rfl rfl (by decide) rfl ?_
  refine p_msk [false, true, true] (L2 := [none, some (.int 0), some (.int a1)]) rfl ?_
  exact sX5_many_L4 _ _ _ _ h
theorem tX5_many {a1 : Int32} {S : St} {r : Int32} {S9 : St} (h : fX5_many a1 S = some (r, S9)) : MR yX5_many cX5_many mX5_many [.int a1] S (some (.int r), S9) := MR.of (n := 2) okX5_many rfl rfl (sX5_many h)
-- grass(II)I
def fX5_grass_L36 (y0 : Int32) (S : St) : Option (Int32 × St) :=
  some (y0, S)
theorem sX5_grass_L36 {r : Int32} {S9 : St} {y0 : Int32} {S : St} (h : fX5_grass_L36 y0 S = some (r, S9)) : PW mX5_grass (some (.int r), S9) 36 [none, none, none] [.int y0] S := by
  unfold fX5_grass_L36 at h
  exact s_iret h (k := 19) rfl rfl
def fX5_grass_L30 (S : St) : Option (Int32 × St) :=
  cl (fX5_finds (-1000001) S) fun v1 S1 =>
  fX5_grass_L36 v1 S1
theorem sX5_grass_L30 {r : Int32} {S9 : St}  {S : St} (h : fX5_grass_L30 S = some (r, S9)) : PW mX5_grass (some (.int r), S9) 30 [some (.ref 41), none, none] [] S := by
  unfold fX5_grass_L30 at h
  refine p_aload_n (k := 16) (i := 0) rfl rfl rfl ?_
  refine p_ldc (k := 17) rfl k_RX5_37 ?_
  obtain ⟨v1, S1, hcS1, h⟩ := cl_some h
  refine p_callV (k := 18) [.int (-1000001)] [] rfl (tX5_finds hcS1) lay_X5 rfl lc_X5_finds ml_RX5_39 mi_X5_finds mv_X5_finds (by decide) (by decide) (Nat.le_of_ble_eq_true rfl) rfl ?_
  refine p_msk [false, false, false] (L2 := [none, none, none]) rfl ?_
  exact sX5_grass_L36 h
def fX5_grass (a1 : Int32) (a2 : Int32) (S : St) : Option (Int32 × St) :=
  cl (fX5_isLedge a1 S) fun v1 S1 =>
  if v1 = 0 then
    fX5_grass_L30 S1
  else
    cl (fX5_isIn (Int32.toInt64 a2) 0 99 S1) fun v2 S2 =>
    if v2 = 0 then
      fX5_grass_L30 S2
    else
      cl (fX5_becomes (5 + a1) a2 S2) fun v3 S3 =>
      fX5_grass_L36 v3 S3
theorem sX5_grass {a1 : Int32} {a2 : Int32} {S : St} {r : Int32} {S9 : St} (h : fX5_grass a1 a2 S = some (r, S9)) : PW mX5_grass (some (.int r), S9) 0 [some (.ref 41), some (.int a1), some (.int a2)] [] S := by
  unfold fX5_grass at h
  refine p_iload_n (k := 0) (i := 1) rfl rfl rfl ?_
  obtain ⟨v1, S1, hcS1, h⟩ := cl_some h
  refine p_callS (k := 1) [.int a1] [] rfl (tX5_isLedge hcS1) lc_X5_isLedge ml_RX5_43 ms_X5_isLedge (by decide) (by decide) (Nat.le_of_ble_eq_true rfl) rfl ?_
  refine p_if_eq (k := 2) 30 rfl (by decide) (fun hc => ?_) (fun hc => ?_)
  · rw [if_pos hc] at h
    refine p_msk [true, false, false] (L2 := [some (.ref 41), none, none]) rfl ?_
    exact sX5_grass_L30 h
  · rw [if_neg hc] at h
    refine p_iload_n (k := 3) (i := 2) rfl rfl rfl ?_
    refine p_i2l (k := 4) rfl ?_
    refine p_lconst (k := 5) 0 rfl (by decide) ?_
    refine p_ldc2 (k := 6) rfl k_RX5_47 ?_
    obtain ⟨v2, S2, hcS2, h⟩ := cl_some h
    refine p_callS (k := 7) [.long (Int32.toInt64 a2), .long 0, .long 99] [] rfl (tX5_isIn hcS2) lc_X5_isIn ml_RX5_49 ms_X5_isIn (by decide) (by decide) (Nat.le_of_ble_eq_true rfl) rfl ?_
    refine p_if_eq (k := 8) 30 rfl (by decide) (fun hc => ?_) (fun hc => ?_)
    · rw [if_pos hc] at h
      refine p_msk [true, false, false] (L2 := [some (.ref 41), none, none]) rfl ?_
      exact sX5_grass_L30 h
    · rw [if_neg hc] at h
      refine p_aload_n (k := 9) (i := 0) rfl rfl rfl ?_
      refine p_iconst (k := 10) 5 rfl (by decide) ?_
      refine p_iload_n (k := 11) (i := 1) rfl rfl rfl ?_
      refine p_iadd (k := 12) rfl ?_
      refine p_iload_n (k := 13) (i := 2) rfl rfl rfl ?_
      obtain ⟨v3, S3, hcS3, h⟩ := cl_some h
      refine p_callV (k := 14) [.int (5 + a1), .int a2] [] rfl (tX5_becomes hcS3) lay_X5 rfl lc_X5_becomes ml_RX5_53 mi_X5_becomes mv_X5_becomes (by decide) (by decide) (Nat.le_of_ble_eq_true rfl) rfl ?_
      refine p_goto (k := 15) 36 rfl (by decide) ?_
      refine p_msk [false, false, false] (L2 := [none, none, none]) rfl ?_
      exact sX5_grass_L36 h
theorem tX5_grass {a1 : Int32} {a2 : Int32} {S : St} {r : Int32} {S9 : St} (h : fX5_grass a1 a2 S = some (r, S9)) : MR yX5_grass cX5_grass mX5_grass [.ref 41, .int a1, .int a2] S (some (.int r), S9) := MR.of (n := 0) okX5_grass rfl rfl (sX5_grass h)
-- there(I)I
def fX5_there_L32 (k4 : Int32 → Int32 → Int32 → St → Option (Int32 × St)) (x1 : Int32) (x3 : Int32) (y0 : Int32) (y1 : Int32) (S : St) : Option (Int32 × St) :=
  bnd (y0 ||| y1) fun v1 =>
  bnd (x3 + 1) fun v2 =>
  k4 x1 v1 v2 S
theorem sX5_there_L32 {r : Int32} {S9 : St} {k4 : Int32 → Int32 → Int32 → St → Option (Int32 × St)} (hk4 : ∀ x1 x2 x3 S, k4 x1 x2 x3 S = some (r, S9) → PW mX5_there (some (.int r), S9) 4 [some (.ref 41), some (.int x1), some (.int x2), some (.int x3)] [] S) {x1 : Int32} {x3 : Int32} {y0 : Int32} {y1 : Int32} {S : St} (h : fX5_there_L32 k4 x1 x3 y0 y1 S = some (r, S9)) : PW mX5_there (some (.int r), S9) 32 [some (.ref 41), some (.int x1), none, some (.int x3)] [.int y1, .int y0] S := by
  unfold fX5_there_L32 at h
  refine p_ior (k := 22) rfl ?_
  refine s_bnd h (fun v1 h => ?_)
  refine p_istore_n (k := 23) 2 [some (.ref 41), some (.int x1), some (.int v1), some (.int x3)] rfl rfl rfl (by decide) rfl ?_
  obtain ⟨v2, ev2, h⟩ := bnd_ex h
  refine p_iinc (k := 24) v2 [some (.ref 41), some (.int x1), some (.int v1), some (.int v2)] rfl rfl (by rw [← ev2]; rfl) rfl (by decide) rfl ?_
  refine p_goto (k := 25) 4 rfl (by decide) ?_
  refine p_msk [true, true, true, true] (L2 := [some (.ref 41), some (.int x1), some (.int v1), some (.int v2)]) rfl ?_
  exact hk4 _ _ _ _ h
def fX5_there_L4 : Nat → Int32 → Int32 → Int32 → St → Option (Int32 × St)
  | 0 => fun _ _ _ _ => none
  | n + 1 => fun x1 x2 x3 S =>
    rd S 42 75 0 fun v1 =>
    if v1 ≤ x3 then
      some (x2, S)
    else
      cl (fX5_its x3 1 S) fun v2 S1 =>
      if v2 = x1 then
        fX5_there_L32 (fun x1 x2 x3 S => fX5_there_L4 n x1 x2 x3 S) x1 x3 x2 (1 <<< (x3 &&& 31)) S1
      else
        fX5_there_L32 (fun x1 x2 x3 S => fX5_there_L4 n x1 x2 x3 S) x1 x3 x2 0 S1
theorem sX5_there_L4 {r : Int32} {S9 : St} : ∀ (n : Nat) (x1 : Int32) (x2 : Int32) (x3 : Int32) (S : St), fX5_there_L4 n x1 x2 x3 S = some (r, S9) → PW mX5_there (some (.int r), S9) 4 [some (.ref 41), some (.int x1), some (.int x2), some (.int x3)] [] S := by
  intro n
  induction n with
  | zero => intro x1 x2 x3 S h; cases h
  | succ n ih =>
    intro x1 x2 x3 S h
    unfold fX5_there_L4 at h
    refine p_iload_n (k := 4) (i := 3) rfl rfl rfl ?_
    refine p_aload_n (k := 5) (i := 0) rfl rfl rfl ?_
    refine p_getr (k := 6) rfl lay_X5 rfl fl_RX5_7 ?_
    refine p_iconst (k := 7) 0 rfl (by decide) ?_
    refine s_rd h (k := 8) rfl lay_42 (fun v1 h => ?_)
    refine p_icmp_ge (k := 9) 40 rfl (by decide) (fun hc => ?_) (fun hc => ?_)
    · rw [if_pos hc] at h
      refine p_iload_n (k := 26) (i := 2) rfl rfl rfl ?_
      exact s_iret h (k := 27) rfl rfl
    · rw [if_neg hc] at h
      refine p_iload_n (k := 10) (i := 2) rfl rfl rfl ?_
      refine p_aload_n (k := 11) (i := 0) rfl rfl rfl ?_
      refine p_iload_n (k := 12) (i := 3) rfl rfl rfl ?_
      refine p_iconst (k := 13) 1 rfl (by decide) ?_
      obtain ⟨v2, S1, hcS1, h⟩ := cl_some h
      refine p_callV (k := 14) [.int x3, .int 1] [.int x2] rfl (tX5_its hcS1) lay_X5 rfl lc_X5_its ml_RX5_57 mi_X5_its mv_X5_its (by decide) (by decide) (Nat.le_of_ble_eq_true rfl) rfl ?_
      refine p_iload_n (k := 15) (i := 1) rfl rfl rfl ?_
      refine p_icmp_ne (k := 16) 31 rfl (by decide) (fun hc => ?_) (fun hc => ?_)
      · rw [if_neg hc] at h
        refine p_iconst (k := 21) 0 rfl (by decide) ?_
        refine p_msk [true, true, false, true] (L2 := [some (.ref 41), some (.int x1), none, some (.int x3)]) rfl ?_
        exact sX5_there_L32 ih h
      · rw [if_pos hc] at h
        refine p_iconst (k := 17) 1 rfl (by decide) ?_
        refine p_iload_n (k := 18) (i := 3) rfl rfl rfl ?_
        refine p_ishl (k := 19) rfl ?_
        refine p_goto (k := 20) 32 rfl (by decide) ?_
        refine p_msk [true, true, false, true] (L2 := [some (.ref 41), some (.int x1), none, some (.int x3)]) rfl ?_
        exact sX5_there_L32 ih h
def fX5_there (a1 : Int32) (S : St) : Option (Int32 × St) :=
  fX5_there_L4 FU a1 0 0 S
theorem sX5_there {a1 : Int32} {S : St} {r : Int32} {S9 : St} (h : fX5_there a1 S = some (r, S9)) : PW mX5_there (some (.int r), S9) 0 [some (.ref 41), some (.int a1), none, none] [] S := by
  unfold fX5_there at h
  refine p_iconst (k := 0) 0 rfl (by decide) ?_
  refine p_istore_n (k := 1) 2 [some (.ref 41), some (.int a1), some (.int 0), none] rfl rfl rfl (by decide) rfl ?_
  refine p_iconst (k := 2) 0 rfl (by decide) ?_
  refine p_istore_n (k := 3) 3 [some (.ref 41), some (.int a1), some (.int 0), some (.int 0)] rfl rfl rfl (by decide) rfl ?_
  refine p_msk [true, true, true, true] (L2 := [some (.ref 41), some (.int a1), some (.int 0), some (.int 0)]) rfl ?_
  exact sX5_there_L4 _ _ _ _ _ h
theorem tX5_there {a1 : Int32} {S : St} {r : Int32} {S9 : St} (h : fX5_there a1 S = some (r, S9)) : MR yX5_there cX5_there mX5_there [.ref 41, .int a1] S (some (.int r), S9) := MR.of (n := 2) okX5_there rfl rfl (sX5_there h)
-- known(I)I
def fX5_known_L34 (k4 : Int32 → Int32 → Int32 → St → Option (Int32 × St)) (x1 : Int32) (x3 : Int32) (y0 : Int32) (y1 : Int32) (S : St) : Option (Int32 × St) :=
  bnd (y0 ||| y1) fun v1 =>
  bnd (x3 + 1) fun v2 =>
  k4 x1 v1 v2 S
theorem sX5_known_L34 {r : Int32} {S9 : St} {k4 : Int32 → Int32 → Int32 → St → Option (Int32 × St)} (hk4 : ∀ x1 x2 x3 S, k4 x1 x2 x3 S = some (r, S9) → PW mX5_known (some (.int r), S9) 4 [some (.ref 41), some (.int x1), some (.int x2), some (.int x3)] [] S) {x1 : Int32} {x3 : Int32} {y0 : Int32} {y1 : Int32} {S : St} (h : fX5_known_L34 k4 x1 x3 y0 y1 S = some (r, S9)) : PW mX5_known (some (.int r), S9) 34 [some (.ref 41), some (.int x1), none, some (.int x3)] [.int y1, .int y0] S := by
  unfold fX5_known_L34 at h
  refine p_ior (k := 24) rfl ?_
  refine s_bnd h (fun v1 h => ?_)
  refine p_istore_n (k := 25) 2 [some (.ref 41), some (.int x1), some (.int v1), some (.int x3)] rfl rfl rfl (by decide) rfl ?_
  obtain ⟨v2, ev2, h⟩ := bnd_ex h
  refine p_iinc (k := 26) v2 [some (.ref 41), some (.int x1), some (.int v1), some (.int v2)] rfl rfl (by rw [← ev2]; rfl) rfl (by decide) rfl ?_
  refine p_goto (k := 27) 4 rfl (by decide) ?_
  refine p_msk [true, true, true, true] (L2 := [some (.ref 41), some (.int x1), some (.int v1), some (.int v2)]) rfl ?_
  exact hk4 _ _ _ _ h
def fX5_known_L4 : Nat → Int32 → Int32 → Int32 → St → Option (Int32 × St)
  | 0 => fun _ _ _ _ => none
  | n + 1 => fun x1 x2 x3 S =>
    rd S 42 75 0 fun v1 =>
    if v1 ≤ x3 then
      some (x2, S)
    else
      if ((x1 >>> (x3 &&& 31)) &&& 1) = 1 then
        cl (fX5_its x3 2 S) fun v2 S1 =>
        fX5_known_L34 (fun x1 x2 x3 S => fX5_known_L4 n x1 x2 x3 S) x1 x3 x2 v2 S1
      else
        fX5_known_L34 (fun x1 x2 x3 S => fX5_known_L4 n x1 x2 x3 S) x1 x3 x2 0 S
theorem sX5_known_L4 {r : Int32} {S9 : St} : ∀ (n : Nat) (x1 : Int32) (x2 : Int32) (x3 : Int32) (S : St), fX5_known_L4 n x1 x2 x3 S = some (r, S9) → PW mX5_known (some (.int r), S9) 4 [some (.ref 41), some (.int x1), some (.int x2), some (.int x3)] [] S := by
  intro n
  induction n with
  | zero => intro x1 x2 x3 S h; cases h
  | succ n ih =>
    intro x1 x2 x3 S h
    unfold fX5_known_L4 at h
    refine p_iload_n (k := 4) (i := 3) rfl rfl rfl ?_
    refine p_aload_n (k := 5) (i := 0) rfl rfl rfl ?_
    refine p_getr (k := 6) rfl lay_X5 rfl fl_RX5_7 ?_
    refine p_iconst (k := 7) 0 rfl (by decide) ?_
    refine s_rd h (k := 8) rfl lay_42 (fun v1 h => ?_)
    refine p_icmp_ge (k := 9) 42 rfl (by decide) (fun hc => ?_) (fun hc => ?_)
    · rw [if_pos hc] at h
      refine p_iload_n (k := 28) (i := 2) rfl rfl rfl ?_
      exact s_iret h (k := 29) rfl rfl
    · rw [if_neg hc] at h
      refine p_iload_n (k := 10) (i := 2) rfl rfl rfl ?_
      refine p_iload_n (k := 11) (i := 1) rfl rfl rfl ?_
      refine p_iload_n (k := 12) (i := 3) rfl rfl rfl ?_
      refine p_ishr (k := 13) rfl ?_
      refine p_iconst (k := 14) 1 rfl (by decide) ?_
      refine p_iand (k := 15) rfl ?_
      refine p_iconst (k := 16) 1 rfl (by decide) ?_
      refine p_icmp_ne (k := 17) 33 rfl (by decide) (fun hc => ?_) (fun hc => ?_)
      · rw [if_neg hc] at h
        refine p_iconst (k := 23) 0 rfl (by decide) ?_
        refine p_msk [true, true, false, true] (L2 := [some (.ref 41), some (.int x1), none, some (.int x3)]) rfl ?_
        exact sX5_known_L34 ih h
      · rw [if_pos hc] at h
        refine p_aload_n (k := 18) (i := 0) rfl rfl rfl ?_
        refine p_iload_n (k := 19) (i := 3) rfl rfl rfl ?_
        refine p_iconst (k := 20) 2 rfl (by decide) ?_
        obtain ⟨v2, S1, hcS1, h⟩ := cl_some h
        refine p_callV (k := 21) [.int x3, .int 2] [.int x2] rfl (tX5_its hcS1) lay_X5 rfl lc_X5_its ml_RX5_57 mi_X5_its mv_X5_its (by decide) (by decide) (Nat.le_of_ble_eq_true rfl) rfl ?_
        refine p_goto (k := 22) 34 rfl (by decide) ?_
        refine p_msk [true, true, false, true] (L2 := [some (.ref 41), some (.int x1), none, some (.int x3)]) rfl ?_
        exact sX5_known_L34 ih h
def fX5_known (a1 : Int32) (S : St) : Option (Int32 × St) :=
  fX5_known_L4 FU a1 0 0 S
theorem sX5_known {a1 : Int32} {S : St} {r : Int32} {S9 : St} (h : fX5_known a1 S = some (r, S9)) : PW mX5_known (some (.int r), S9) 0 [some (.ref 41), some (.int a1), none, none] [] S := by
  unfold fX5_known at h
  refine p_iconst (k := 0) 0 rfl (by decide) ?_
  refine p_istore_n (k := 1) 2 [some (.ref 41), some (.int a1), some (.int 0), none] rfl rfl rfl (by decide) rfl ?_
  refine p_iconst (k := 2) 0 rfl (by decide) ?_
  refine p_istore_n (k := 3) 3 [some (.ref 41), some (.int a1), some (.int 0), some (.int 0)] rfl rfl rfl (by decide) rfl ?_
  refine p_msk [true, true, true, true] (L2 := [some (.ref 41), some (.int a1), some (.int 0), some (.int 0)]) rfl ?_
  exact sX5_known_L4 _ _ _ _ _ h
theorem tX5_known {a1 : Int32} {S : St} {r : Int32} {S9 : St} (h : fX5_known a1 S = some (r, S9)) : MR yX5_known cX5_known mX5_known [.ref 41, .int a1] S (some (.int r), S9) := MR.of (n := 2) okX5_known rfl rfl (sX5_known h)
-- knownAll()I
def fX5_knownAll (S : St) : Option (Int32 × St) :=
  cl (fX5_known 255 S) fun v1 S1 =>
  some (v1, S1)
theorem sX5_knownAll {S : St} {r : Int32} {S9 : St} (h : fX5_knownAll S = some (r, S9)) : PW mX5_knownAll (some (.int r), S9) 0 [some (.ref 41)] [] S := by
  unfold fX5_knownAll at h
  refine p_aload_n (k := 0) (i := 0) rfl rfl rfl ?_
  refine p_sipush (k := 1) 255 rfl (by decide) ?_
  obtain ⟨v1, S1, hcS1, h⟩ := cl_some h
  refine p_callV (k := 2) [.int 255] [] rfl (tX5_known hcS1) lay_X5 rfl lc_X5_known ml_RX5_60 mi_X5_known mv_X5_known (by decide) (by decide) (Nat.le_of_ble_eq_true rfl) rfl ?_
  exact s_iret h (k := 3) rfl rfl
theorem tX5_knownAll {S : St} {r : Int32} {S9 : St} (h : fX5_knownAll S = some (r, S9)) : MR yX5_knownAll cX5_knownAll mX5_knownAll [.ref 41] S (some (.int r), S9) := MR.of (n := 0) okX5_knownAll rfl rfl (sX5_knownAll h)
-- ledge(II)I
def fX5_ledge_L19 (S : St) : Option (Int32 × St) :=
  cl (fX5_finds (-1000001) S) fun v1 S1 =>
  some (v1, S1)
theorem sX5_ledge_L19 {r : Int32} {S9 : St}  {S : St} (h : fX5_ledge_L19 S = some (r, S9)) : PW mX5_ledge (some (.int r), S9) 19 [some (.ref 41), none, none] [] S := by
  unfold fX5_ledge_L19 at h
  refine p_aload_n (k := 9) (i := 0) rfl rfl rfl ?_
  refine p_ldc (k := 10) rfl k_RX5_37 ?_
  obtain ⟨v1, S1, hcS1, h⟩ := cl_some h
  refine p_callV (k := 11) [.int (-1000001)] [] rfl (tX5_finds hcS1) lay_X5 rfl lc_X5_finds ml_RX5_39 mi_X5_finds mv_X5_finds (by decide) (by decide) (Nat.le_of_ble_eq_true rfl) rfl ?_
  exact s_iret h (k := 12) rfl rfl
def fX5_ledge_L63 (y0 : Int32) (S : St) : Option (Int32 × St) :=
  some (y0, S)
theorem sX5_ledge_L63 {r : Int32} {S9 : St} {y0 : Int32} {S : St} (h : fX5_ledge_L63 y0 S = some (r, S9)) : PW mX5_ledge (some (.int r), S9) 63 [none, none, none] [.int y0] S := by
  unfold fX5_ledge_L63 at h
  exact s_iret h (k := 34) rfl rfl
def fX5_ledge (a1 : Int32) (a2 : Int32) (S : St) : Option (Int32 × St) :=
  cl (fX5_isLedge a1 S) fun v1 S1 =>
  if v1 = 0 then
    fX5_ledge_L19 S1
  else
    cl (fX5_isIn (Int32.toInt64 a2) 0 2 S1) fun v2 S2 =>
    if v2 = 0 then
      fX5_ledge_L19 S2
    else
      if a2 = 0 then
        rd S2 42 75 (5 + a1) fun v6 =>
        fX5_ledge_L63 v6 S2
      else
        if a2 = 1 then
          cl (fX5_there a1 S2) fun v5 S5 =>
          fX5_ledge_L63 v5 S5
        else
          cl (fX5_there a1 S2) fun v3 S3 =>
          cl (fX5_known v3 S3) fun v4 S4 =>
          fX5_ledge_L63 v4 S4
theorem sX5_ledge {a1 : Int32} {a2 : Int32} {S : St} {r : Int32} {S9 : St} (h : fX5_ledge a1 a2 S = some (r, S9)) : PW mX5_ledge (some (.int r), S9) 0 [some (.ref 41), some (.int a1), some (.int a2)] [] S := by
  unfold fX5_ledge at h
  refine p_iload_n (k := 0) (i := 1) rfl rfl rfl ?_
  obtain ⟨v1, S1, hcS1, h⟩ := cl_some h
  refine p_callS (k := 1) [.int a1] [] rfl (tX5_isLedge hcS1) lc_X5_isLedge ml_RX5_43 ms_X5_isLedge (by decide) (by decide) (Nat.le_of_ble_eq_true rfl) rfl ?_
  refine p_if_eq (k := 2) 19 rfl (by decide) (fun hc => ?_) (fun hc => ?_)
  · rw [if_pos hc] at h
    refine p_msk [true, false, false] (L2 := [some (.ref 41), none, none]) rfl ?_
    exact sX5_ledge_L19 h
  · rw [if_neg hc] at h
    refine p_iload_n (k := 3) (i := 2) rfl rfl rfl ?_
    refine p_i2l (k := 4) rfl ?_
    refine p_lconst (k := 5) 0 rfl (by decide) ?_
    refine p_ldc2 (k := 6) rfl k_RX5_63 ?_
    obtain ⟨v2, S2, hcS2, h⟩ := cl_some h
    refine p_callS (k := 7) [.long (Int32.toInt64 a2), .long 0, .long 2] [] rfl (tX5_isIn hcS2) lc_X5_isIn ml_RX5_49 ms_X5_isIn (by decide) (by decide) (Nat.le_of_ble_eq_true rfl) rfl ?_
    refine p_if_ne (k := 8) 26 rfl (by decide) (fun hc => ?_) (fun hc => ?_)
    · rw [if_neg hc] at h
      refine p_iload_n (k := 13) (i := 2) rfl rfl rfl ?_
      refine p_if_ne (k := 14) 41 rfl (by decide) (fun hc => ?_) (fun hc => ?_)
      · rw [if_neg hc] at h
        refine p_iload_n (k := 22) (i := 2) rfl rfl rfl ?_
        refine p_iconst (k := 23) 1 rfl (by decide) ?_
        refine p_icmp_ne (k := 24) 54 rfl (by decide) (fun hc => ?_) (fun hc => ?_)
        · rw [if_neg hc] at h
          refine p_aload_n (k := 29) (i := 0) rfl rfl rfl ?_
          refine p_aload_n (k := 30) (i := 0) rfl rfl rfl ?_
          refine p_iload_n (k := 31) (i := 1) rfl rfl rfl ?_
          obtain ⟨v3, S3, hcS3, h⟩ := cl_some h
          refine p_callV (k := 32) [.int a1] [.ref 41] rfl (tX5_there hcS3) lay_X5 rfl lc_X5_there ml_RX5_65 mi_X5_there mv_X5_there (by decide) (by decide) (Nat.le_of_ble_eq_true rfl) rfl ?_
          obtain ⟨v4, S4, hcS4, h⟩ := cl_some h
          refine p_callV (k := 33) [.int v3] [] rfl (tX5_known hcS4) lay_X5 rfl lc_X5_known ml_RX5_60 mi_X5_known mv_X5_known (by decide) (by decide) (Nat.le_of_ble_eq_true rfl) rfl ?_
          refine p_msk [false, false, false] (L2 := [none, none, none]) rfl ?_
          exact sX5_ledge_L63 h
        · rw [if_pos hc] at h
          refine p_aload_n (k := 25) (i := 0) rfl rfl rfl ?_
          refine p_iload_n (k := 26) (i := 1) rfl rfl rfl ?_
          obtain ⟨v5, S5, hcS5, h⟩ := cl_some h
          refine p_callV (k := 27) [.int a1] [] rfl (tX5_there hcS5) lay_X5 rfl lc_X5_there ml_RX5_65 mi_X5_there mv_X5_there (by decide) (by decide) (Nat.le_of_ble_eq_true rfl) rfl ?_
          refine p_goto (k := 28) 63 rfl (by decide) ?_
          refine p_msk [false, false, false] (L2 := [none, none, none]) rfl ?_
          exact sX5_ledge_L63 h
      · rw [if_pos hc] at h
        refine p_aload_n (k := 15) (i := 0) rfl rfl rfl ?_
        refine p_getr (k := 16) rfl lay_X5 rfl fl_RX5_7 ?_
        refine p_iconst (k := 17) 5 rfl (by decide) ?_
        refine p_iload_n (k := 18) (i := 1) rfl rfl rfl ?_
        refine p_iadd (k := 19) rfl ?_
        refine s_rd h (k := 20) rfl lay_42 (fun v6 h => ?_)
        refine p_goto (k := 21) 63 rfl (by decide) ?_
        refine p_msk [false, false, false] (L2 := [none, none, none]) rfl ?_
        exact sX5_ledge_L63 h
    · rw [if_pos hc] at h
      refine p_msk [true, false, false] (L2 := [some (.ref 41), none, none]) rfl ?_
      exact sX5_ledge_L19 h
theorem tX5_ledge {a1 : Int32} {a2 : Int32} {S : St} {r : Int32} {S9 : St} (h : fX5_ledge a1 a2 S = some (r, S9)) : MR yX5_ledge cX5_ledge mX5_ledge [.ref 41, .int a1, .int a2] S (some (.int r), S9) := MR.of (n := 0) okX5_ledge rfl rfl (sX5_ledge h)
-- set(II)I
def fX5_set_L49 (y0 : Int32) (S : St) : Option (Int32 × St) :=
  some (y0, S)
theorem sX5_set_L49 {r : Int32} {S9 : St} {y0 : Int32} {S : St} (h : fX5_set_L49 y0 S = some (r, S9)) : PW mX5_set (some (.int r), S9) 49 [none, none, none] [.int y0] S := by
  unfold fX5_set_L49 at h
  exact s_iret h (k := 26) rfl rfl
def fX5_set_L43 (S : St) : Option (Int32 × St) :=
  cl (fX5_finds (-1000001) S) fun v1 S1 =>
  fX5_set_L49 v1 S1
theorem sX5_set_L43 {r : Int32} {S9 : St}  {S : St} (h : fX5_set_L43 S = some (r, S9)) : PW mX5_set (some (.int r), S9) 43 [some (.ref 41), none, none] [] S := by
  unfold fX5_set_L43 at h
  refine p_aload_n (k := 23) (i := 0) rfl rfl rfl ?_
  refine p_ldc (k := 24) rfl k_RX5_37 ?_
  obtain ⟨v1, S1, hcS1, h⟩ := cl_some h
  refine p_callV (k := 25) [.int (-1000001)] [] rfl (tX5_finds hcS1) lay_X5 rfl lc_X5_finds ml_RX5_39 mi_X5_finds mv_X5_finds (by decide) (by decide) (Nat.le_of_ble_eq_true rfl) rfl ?_
  refine p_msk [false, false, false] (L2 := [none, none, none]) rfl ?_
  exact sX5_set_L49 h
def fX5_set_L26 (x1 : Int32) (x2 : Int32) (y0 : Int64) (y1 : Int64) (y2 : Int64) (S : St) : Option (Int32 × St) :=
  cl (fX5_isIn y0 y1 y2 S) fun v1 S1 =>
  if v1 = 0 then
    fX5_set_L43 S1
  else
    cl (fX5_becomes (3 + x1) x2 S1) fun v2 S2 =>
    fX5_set_L49 v2 S2
theorem sX5_set_L26 {r : Int32} {S9 : St} {x1 : Int32} {x2 : Int32} {y0 : Int64} {y1 : Int64} {y2 : Int64} {S : St} (h : fX5_set_L26 x1 x2 y0 y1 y2 S = some (r, S9)) : PW mX5_set (some (.int r), S9) 26 [some (.ref 41), some (.int x1), some (.int x2)] [.long y2, .long y1, .long y0] S := by
  unfold fX5_set_L26 at h
  obtain ⟨v1, S1, hcS1, h⟩ := cl_some h
  refine p_callS (k := 14) [.long y0, .long y1, .long y2] [] rfl (tX5_isIn hcS1) lc_X5_isIn ml_RX5_49 ms_X5_isIn (by decide) (by decide) (Nat.le_of_ble_eq_true rfl) rfl ?_
  refine p_if_eq (k := 15) 43 rfl (by decide) (fun hc => ?_) (fun hc => ?_)
  · rw [if_pos hc] at h
    refine p_msk [true, false, false] (L2 := [some (.ref 41), none, none]) rfl ?_
    exact sX5_set_L43 h
  · rw [if_neg hc] at h
    refine p_aload_n (k := 16) (i := 0) rfl rfl rfl ?_
    refine p_iconst (k := 17) 3 rfl (by decide) ?_
    refine p_iload_n (k := 18) (i := 1) rfl rfl rfl ?_
    refine p_iadd (k := 19) rfl ?_
    refine p_iload_n (k := 20) (i := 2) rfl rfl rfl ?_
    obtain ⟨v2, S2, hcS2, h⟩ := cl_some h
    refine p_callV (k := 21) [.int (3 + x1), .int x2] [] rfl (tX5_becomes hcS2) lay_X5 rfl lc_X5_becomes ml_RX5_53 mi_X5_becomes mv_X5_becomes (by decide) (by decide) (Nat.le_of_ble_eq_true rfl) rfl ?_
    refine p_goto (k := 22) 49 rfl (by decide) ?_
    refine p_msk [false, false, false] (L2 := [none, none, none]) rfl ?_
    exact sX5_set_L49 h
def fX5_set (a1 : Int32) (a2 : Int32) (S : St) : Option (Int32 × St) :=
  cl (fX5_isIn (Int32.toInt64 a1) 0 1 S) fun v1 S1 =>
  if v1 = 0 then
    fX5_set_L43 S1
  else
    if a1 = 0 then
      fX5_set_L26 a1 a2 (Int32.toInt64 a2) 0 20 S1
    else
      fX5_set_L26 a1 a2 (Int32.toInt64 a2) 0 9999 S1
theorem sX5_set {a1 : Int32} {a2 : Int32} {S : St} {r : Int32} {S9 : St} (h : fX5_set a1 a2 S = some (r, S9)) : PW mX5_set (some (.int r), S9) 0 [some (.ref 41), some (.int a1), some (.int a2)] [] S := by
  unfold fX5_set at h
  refine p_iload_n (k := 0) (i := 1) rfl rfl rfl ?_
  refine p_i2l (k := 1) rfl ?_
  refine p_lconst (k := 2) 0 rfl (by decide) ?_
  refine p_lconst (k := 3) 1 rfl (by decide) ?_
  obtain ⟨v1, S1, hcS1, h⟩ := cl_some h
  refine p_callS (k := 4) [.long (Int32.toInt64 a1), .long 0, .long 1] [] rfl (tX5_isIn hcS1) lc_X5_isIn ml_RX5_49 ms_X5_isIn (by decide) (by decide) (Nat.le_of_ble_eq_true rfl) rfl ?_
  refine p_if_eq (k := 5) 43 rfl (by decide) (fun hc => ?_) (fun hc => ?_)
  · rw [if_pos hc] at h
    refine p_msk [true, false, false] (L2 := [some (.ref 41), none, none]) rfl ?_
    exact sX5_set_L43 h
  · rw [if_neg hc] at h
    refine p_iload_n (k := 6) (i := 2) rfl rfl rfl ?_
    refine p_i2l (k := 7) rfl ?_
    refine p_lconst (k := 8) 0 rfl (by decide) ?_
    refine p_iload_n (k := 9) (i := 1) rfl rfl rfl ?_
    refine p_if_ne (k := 10) 23 rfl (by decide) (fun hc => ?_) (fun hc => ?_)
    · rw [if_neg hc] at h
      refine p_ldc2 (k := 13) rfl k_RX5_70 ?_
      refine p_msk [true, true, true] (L2 := [some (.ref 41), some (.int a1), some (.int a2)]) rfl ?_
      exact sX5_set_L26 h
    · rw [if_pos hc] at h
      refine p_ldc2 (k := 11) rfl k_RX5_68 ?_
      refine p_goto (k := 12) 26 rfl (by decide) ?_
      refine p_msk [true, true, true] (L2 := [some (.ref 41), some (.int a1), some (.int a2)]) rfl ?_
      exact sX5_set_L26 h
theorem tX5_set {a1 : Int32} {a2 : Int32} {S : St} {r : Int32} {S9 : St} (h : fX5_set a1 a2 S = some (r, S9)) : MR yX5_set cX5_set mX5_set [.ref 41, .int a1, .int a2] S (some (.int r), S9) := MR.of (n := 0) okX5_set rfl rfl (sX5_set h)
-- comes(III)V
def fX5_comes (a1 : Int32) (a2 : Int32) (a3 : Int32) (S : St) : Option (Unit × St) :=
  rd S 42 75 0 fun v1 =>
  cl (fX5_at v1 0 S) fun v2 S1 =>
  wr S1 42 75 v2 a1 fun S2 =>
  cl (fX5_at v1 1 S2) fun v3 S3 =>
  wr S3 42 75 v3 a2 fun S4 =>
  cl (fX5_at v1 2 S4) fun v4 S5 =>
  wr S5 42 75 v4 a3 fun S6 =>
  cl (fX5_at v1 3 S6) fun v5 S7 =>
  wr S7 42 75 v5 0 fun S8 =>
  cl (fX5_at v1 4 S8) fun v6 S9 =>
  wr S9 42 75 v6 30 fun S10 =>
  cl (fX5_at v1 5 S10) fun v7 S11 =>
  wr S11 42 75 v7 0 fun S12 =>
  rd S12 42 75 0 fun v8 =>
  wr S12 42 75 0 (v8 + 1) fun S13 =>
  some ((), S13)
theorem sX5_comes {a1 : Int32} {a2 : Int32} {a3 : Int32} {S : St} {r : Unit} {S9 : St} (h : fX5_comes a1 a2 a3 S = some (r, S9)) : PW mX5_comes (none, S9) 0 [some (.ref 41), some (.int a1), some (.int a2), some (.int a3), none] [] S := by
  unfold fX5_comes at h
  refine p_aload_n (k := 0) (i := 0) rfl rfl rfl ?_
  refine p_getr (k := 1) rfl lay_X5 rfl fl_RX5_7 ?_
  refine p_iconst (k := 2) 0 rfl (by decide) ?_
  refine s_rd h (k := 3) rfl lay_42 (fun v1 h => ?_)
  refine p_istore (k := 4) [some (.ref 41), some (.int a1), some (.int a2), some (.int a3), some (.int v1)] rfl rfl (by decide) rfl ?_
  refine p_aload_n (k := 5) (i := 0) rfl rfl rfl ?_
  refine p_getr (k := 6) rfl lay_X5 rfl fl_RX5_7 ?_
  refine p_iload (k := 7) rfl rfl ?_
  refine p_iconst (k := 8) 0 rfl (by decide) ?_
  obtain ⟨v2, S1, hcS1, h⟩ := cl_some h
  refine p_callS (k := 9) [.int v1, .int 0] [.ref 42] rfl (tX5_at hcS1) lc_X5_at ml_RX5_72 ms_X5_at (by decide) (by decide) (Nat.le_of_ble_eq_true rfl) rfl ?_
  refine p_iload_n (k := 10) (i := 1) rfl rfl rfl ?_
  refine s_wr h (k := 11) rfl lay_42 (fun S2 h => ?_)
  refine p_aload_n (k := 12) (i := 0) rfl rfl rfl ?_
  refine p_getr (k := 13) rfl lay_X5 rfl fl_RX5_7 ?_
  refine p_iload (k := 14) rfl rfl ?_
  refine p_iconst (k := 15) 1 rfl (by decide) ?_
  obtain ⟨v3, S3, hcS3, h⟩ := cl_some h
  refine p_callS (k := 16) [.int v1, .int 1] [.ref 42] rfl (tX5_at hcS3) lc_X5_at ml_RX5_72 ms_X5_at (by decide) (by decide) (Nat.le_of_ble_eq_true rfl) rfl ?_
  refine p_iload_n (k := 17) (i := 2) rfl rfl rfl ?_
  refine s_wr h (k := 18) rfl lay_42 (fun S4 h => ?_)
  refine p_aload_n (k := 19) (i := 0) rfl rfl rfl ?_
  refine p_getr (k := 20) rfl lay_X5 rfl fl_RX5_7 ?_
  refine p_iload (k := 21) rfl rfl ?_
  refine p_iconst (k := 22) 2 rfl (by decide) ?_
  obtain ⟨v4, S5, hcS5, h⟩ := cl_some h
  refine p_callS (k := 23) [.int v1, .int 2] [.ref 42] rfl (tX5_at hcS5) lc_X5_at ml_RX5_72 ms_X5_at (by decide) (by decide) (Nat.le_of_ble_eq_true rfl) rfl ?_
  refine p_iload_n (k := 24) (i := 3) rfl rfl rfl ?_
  refine s_wr h (k := 25) rfl lay_42 (fun S6 h => ?_)
  refine p_aload_n (k := 26) (i := 0) rfl rfl rfl ?_
  refine p_getr (k := 27) rfl lay_X5 rfl fl_RX5_7 ?_
  refine p_iload (k := 28) rfl rfl ?_
  refine p_iconst (k := 29) 3 rfl (by decide) ?_
  obtain ⟨v5, S7, hcS7, h⟩ := cl_some h
  refine p_callS (k := 30) [.int v1, .int 3] [.ref 42] rfl (tX5_at hcS7) lc_X5_at ml_RX5_72 ms_X5_at (by decide) (by decide) (Nat.le_of_ble_eq_true rfl) rfl ?_
  refine p_iconst (k := 31) 0 rfl (by decide) ?_
  refine s_wr h (k := 32) rfl lay_42 (fun S8 h => ?_)
  refine p_aload_n (k := 33) (i := 0) rfl rfl rfl ?_
  refine p_getr (k := 34) rfl lay_X5 rfl fl_RX5_7 ?_
  refine p_iload (k := 35) rfl rfl ?_
  refine p_iconst (k := 36) 4 rfl (by decide) ?_
  obtain ⟨v6, S9, hcS9, h⟩ := cl_some h
  refine p_callS (k := 37) [.int v1, .int 4] [.ref 42] rfl (tX5_at hcS9) lc_X5_at ml_RX5_72 ms_X5_at (by decide) (by decide) (Nat.le_of_ble_eq_true rfl) rfl ?_
  refine p_bipush (k := 38) 30 rfl (by decide) ?_
  refine s_wr h (k := 39) rfl lay_42 (fun S10 h => ?_)
  refine p_aload_n (k := 40) (i := 0) rfl rfl rfl ?_
  refine p_getr (k := 41) rfl lay_X5 rfl fl_RX5_7 ?_
  refine p_iload (k := 42) rfl rfl ?_
  refine p_iconst (k := 43) 5 rfl (by decide) ?_
  obtain ⟨v7, S11, hcS11, h⟩ := cl_some h
  refine p_callS (k := 44) [.int v1, .int 5] [.ref 42] rfl (tX5_at hcS11) lc_X5_at ml_RX5_72 ms_X5_at (by decide) (by decide) (Nat.le_of_ble_eq_true rfl) rfl ?_
  refine p_iconst (k := 45) 0 rfl (by decide) ?_
  refine s_wr h (k := 46) rfl lay_42 (fun S12 h => ?_)
  refine p_aload_n (k := 47) (i := 0) rfl rfl rfl ?_
  refine p_getr (k := 48) rfl lay_X5 rfl fl_RX5_7 ?_
  refine p_iconst (k := 49) 0 rfl (by decide) ?_
  refine p_dup2 (k := 50) rfl rfl rfl ?_
  refine s_rd h (k := 51) rfl lay_42 (fun v8 h => ?_)
  refine p_iconst (k := 52) 1 rfl (by decide) ?_
  refine p_iadd (k := 53) rfl ?_
  refine s_wr h (k := 54) rfl lay_42 (fun S13 h => ?_)
  exact s_vret h (k := 55) rfl rfl
theorem tX5_comes {a1 : Int32} {a2 : Int32} {a3 : Int32} {S : St} {r : Unit} {S9 : St} (h : fX5_comes a1 a2 a3 S = some (r, S9)) : MR yX5_comes cX5_comes mX5_comes [.ref 41, .int a1, .int a2, .int a3] S (none, S9) := MR.of (n := 1) okX5_comes rfl rfl (sX5_comes h)
-- goat(II)I
def fX5_goat_L19 (S : St) : Option (Int32 × St) :=
  cl (fX5_finds (-1000001) S) fun v1 S1 =>
  some (v1, S1)
theorem sX5_goat_L19 {r : Int32} {S9 : St}  {S : St} (h : fX5_goat_L19 S = some (r, S9)) : PW mX5_goat (some (.int r), S9) 19 [some (.ref 41), none, none] [] S := by
  unfold fX5_goat_L19 at h
  refine p_aload_n (k := 9) (i := 0) rfl rfl rfl ?_
  refine p_ldc (k := 10) rfl k_RX5_37 ?_
  obtain ⟨v1, S1, hcS1, h⟩ := cl_some h
  refine p_callV (k := 11) [.int (-1000001)] [] rfl (tX5_finds hcS1) lay_X5 rfl lc_X5_finds ml_RX5_39 mi_X5_finds mv_X5_finds (by decide) (by decide) (Nat.le_of_ble_eq_true rfl) rfl ?_
  exact s_iret h (k := 12) rfl rfl
def fX5_goat (a1 : Int32) (a2 : Int32) (S : St) : Option (Int32 × St) :=
  cl (fX5_isIn (Int32.toInt64 a1) 0 6 S) fun v1 S1 =>
  if v1 = 0 then
    fX5_goat_L19 S1
  else
    cl (fX5_isLedge a2 S1) fun v2 S2 =>
    if v2 = 0 then
      fX5_goat_L19 S2
    else
      rd S2 42 75 0 fun v3 =>
      if v3 = 8 then
        cl (fX5_finds (-1000002) S2) fun v5 S4 =>
        some (v5, S4)
      else
        cl (fX5_comes a1 a2 0 S2) fun _ S3 =>
        rd S3 42 75 0 fun v4 =>
        some (v4 - 1, S3)
theorem sX5_goat {a1 : Int32} {a2 : Int32} {S : St} {r : Int32} {S9 : St} (h : fX5_goat a1 a2 S = some (r, S9)) : PW mX5_goat (some (.int r), S9) 0 [some (.ref 41), some (.int a1), some (.int a2)] [] S := by
  unfold fX5_goat at h
  refine p_iload_n (k := 0) (i := 1) rfl rfl rfl ?_
  refine p_i2l (k := 1) rfl ?_
  refine p_lconst (k := 2) 0 rfl (by decide) ?_
  refine p_ldc2 (k := 3) rfl k_RX5_75 ?_
  obtain ⟨v1, S1, hcS1, h⟩ := cl_some h
  refine p_callS (k := 4) [.long (Int32.toInt64 a1), .long 0, .long 6] [] rfl (tX5_isIn hcS1) lc_X5_isIn ml_RX5_49 ms_X5_isIn (by decide) (by decide) (Nat.le_of_ble_eq_true rfl) rfl ?_
  refine p_if_eq (k := 5) 19 rfl (by decide) (fun hc => ?_) (fun hc => ?_)
  · rw [if_pos hc] at h
    refine p_msk [true, false, false] (L2 := [some (.ref 41), none, none]) rfl ?_
    exact sX5_goat_L19 h
  · rw [if_neg hc] at h
    refine p_iload_n (k := 6) (i := 2) rfl rfl rfl ?_
    obtain ⟨v2, S2, hcS2, h⟩ := cl_some h
    refine p_callS (k := 7) [.int a2] [] rfl (tX5_isLedge hcS2) lc_X5_isLedge ml_RX5_43 ms_X5_isLedge (by decide) (by decide) (Nat.le_of_ble_eq_true rfl) rfl ?_
    refine p_if_ne (k := 8) 26 rfl (by decide) (fun hc => ?_) (fun hc => ?_)
    · rw [if_neg hc] at h
      refine p_aload_n (k := 13) (i := 0) rfl rfl rfl ?_
      refine p_getr (k := 14) rfl lay_X5 rfl fl_RX5_7 ?_
      refine p_iconst (k := 15) 0 rfl (by decide) ?_
      refine s_rd h (k := 16) rfl lay_42 (fun v3 h => ?_)
      refine p_bipush (k := 17) 8 rfl (by decide) ?_
      refine p_icmp_ne (k := 18) 44 rfl (by decide) (fun hc => ?_) (fun hc => ?_)
      · rw [if_neg hc] at h
        refine p_aload_n (k := 23) (i := 0) rfl rfl rfl ?_
        refine p_iload_n (k := 24) (i := 1) rfl rfl rfl ?_
        refine p_iload_n (k := 25) (i := 2) rfl rfl rfl ?_
        refine p_iconst (k := 26) 0 rfl (by decide) ?_
        obtain ⟨_, S3, hcS3, h⟩ := cl_some h
        refine p_callV (k := 27) [.int a1, .int a2, .int 0] [] rfl (tX5_comes hcS3) lay_X5 rfl lc_X5_comes ml_RX5_78 mi_X5_comes mv_X5_comes (by decide) (by decide) (Nat.le_of_ble_eq_true rfl) rfl ?_
        refine p_aload_n (k := 28) (i := 0) rfl rfl rfl ?_
        refine p_getr (k := 29) rfl lay_X5 rfl fl_RX5_7 ?_
        refine p_iconst (k := 30) 0 rfl (by decide) ?_
        refine s_rd h (k := 31) rfl lay_42 (fun v4 h => ?_)
        refine p_iconst (k := 32) 1 rfl (by decide) ?_
        refine p_isub (k := 33) rfl ?_
        exact s_iret h (k := 34) rfl rfl
      · rw [if_pos hc] at h
        refine p_aload_n (k := 19) (i := 0) rfl rfl rfl ?_
        refine p_ldc (k := 20) rfl k_RX5_77 ?_
        obtain ⟨v5, S4, hcS4, h⟩ := cl_some h
        refine p_callV (k := 21) [.int (-1000002)] [] rfl (tX5_finds hcS4) lay_X5 rfl lc_X5_finds ml_RX5_39 mi_X5_finds mv_X5_finds (by decide) (by decide) (Nat.le_of_ble_eq_true rfl) rfl ?_
        exact s_iret h (k := 22) rfl rfl
    · rw [if_pos hc] at h
      refine p_msk [true, false, false] (L2 := [some (.ref 41), none, none]) rfl ?_
      exact sX5_goat_L19 h
theorem tX5_goat {a1 : Int32} {a2 : Int32} {S : St} {r : Int32} {S9 : St} (h : fX5_goat a1 a2 S = some (r, S9)) : MR yX5_goat cX5_goat mX5_goat [.ref 41, .int a1, .int a2] S (some (.int r), S9) := MR.of (n := 0) okX5_goat rfl rfl (sX5_goat h)
-- isQuoted(II)Z
def fX5_isQuoted_L60 (y0 : Int32) (S : St) : Option (Int32 × St) :=
  retN .boolean y0 S
theorem sX5_isQuoted_L60 {r : Int32} {S9 : St} {y0 : Int32} {S : St} (h : fX5_isQuoted_L60 y0 S = some (r, S9)) : PW mX5_isQuoted (some (.int r), S9) 60 [none, none, none] [.int y0] S := by
  unfold fX5_isQuoted_L60 at h
  exact s_zret h (k := 14) rfl rfl
def fX5_isQuoted_L77 (y0 : Int32) (S : St) : Option (Int32 × St) :=
  retN .boolean y0 S
theorem sX5_isQuoted_L77 {r : Int32} {S9 : St} {y0 : Int32} {S : St} (h : fX5_isQuoted_L77 y0 S = some (r, S9)) : PW mX5_isQuoted (some (.int r), S9) 77 [none, none, none] [.int y0] S := by
  unfold fX5_isQuoted_L77 at h
  exact s_zret h (k := 25) rfl rfl
def fX5_isQuoted_L96 (y0 : Int32) (S : St) : Option (Int32 × St) :=
  retN .boolean y0 S
theorem sX5_isQuoted_L96 {r : Int32} {S9 : St} {y0 : Int32} {S : St} (h : fX5_isQuoted_L96 y0 S = some (r, S9)) : PW mX5_isQuoted (some (.int r), S9) 96 [none, none, none] [.int y0] S := by
  unfold fX5_isQuoted_L96 at h
  exact s_zret h (k := 38) rfl rfl
def fX5_isQuoted_L113 (y0 : Int32) (S : St) : Option (Int32 × St) :=
  retN .boolean y0 S
theorem sX5_isQuoted_L113 {r : Int32} {S9 : St} {y0 : Int32} {S : St} (h : fX5_isQuoted_L113 y0 S = some (r, S9)) : PW mX5_isQuoted (some (.int r), S9) 113 [none, none, none] [.int y0] S := by
  unfold fX5_isQuoted_L113 at h
  exact s_zret h (k := 48) rfl rfl
def fX5_isQuoted_L136 (y0 : Int32) (S : St) : Option (Int32 × St) :=
  retN .boolean y0 S
theorem sX5_isQuoted_L136 {r : Int32} {S9 : St} {y0 : Int32} {S : St} (h : fX5_isQuoted_L136 y0 S = some (r, S9)) : PW mX5_isQuoted (some (.int r), S9) 136 [none, none, none] [.int y0] S := by
  unfold fX5_isQuoted_L136 at h
  exact s_zret h (k := 61) rfl rfl
def fX5_isQuoted_L135 (S : St) : Option (Int32 × St) :=
  fX5_isQuoted_L136 0 S
theorem sX5_isQuoted_L135 {r : Int32} {S9 : St}  {S : St} (h : fX5_isQuoted_L135 S = some (r, S9)) : PW mX5_isQuoted (some (.int r), S9) 135 [none, none, none] [] S := by
  unfold fX5_isQuoted_L135 at h
  refine p_iconst (k := 60) 0 rfl (by decide) ?_
  refine p_msk [false, false, false] (L2 := [none, none, none]) rfl ?_
  exact sX5_isQuoted_L136 h
def fX5_isQuoted_L137 (S : St) : Option (Int32 × St) :=
  retN .boolean 1 S
theorem sX5_isQuoted_L137 {r : Int32} {S9 : St}  {S : St} (h : fX5_isQuoted_L137 S = some (r, S9)) : PW mX5_isQuoted (some (.int r), S9) 137 [none, none, none] [] S := by
  unfold fX5_isQuoted_L137 at h
  refine p_iconst (k := 62) 1 rfl (by decide) ?_
  exact s_zret h (k := 63) rfl rfl
def fX5_isQuoted (a1 : Int32) (a2 : Int32) (S : St) : Option (Int32 × St) :=
  cl (fX5_its a1 0 S) fun v1 S1 =>
  if v1 = 1 then
    cl (fX5_its a1 4 S1) fun v2 S2 =>
    if v2 < 10 then
      fX5_isQuoted_L60 0 S2
    else
      fX5_isQuoted_L60 1 S2
  else
  if v1 = 2 then
    cl (fX5_its a1 1 S1) fun v3 S3 =>
    if (v3 - v3 / 2 * 2) = 0 then
      fX5_isQuoted_L77 1 S3
    else
      fX5_isQuoted_L77 0 S3
  else
  if v1 = 3 then
    fX5_isQuoted_L137 S1
  else
  if v1 = 4 then
    cl (fX5_its a1 3 S1) fun v4 S4 =>
    if ((a2 + v4) - (a2 + v4) / 3 * 3) = 0 then
      fX5_isQuoted_L96 0 S4
    else
      fX5_isQuoted_L96 1 S4
  else
  if v1 = 5 then
    cl (fX5_its a1 1 S1) fun v5 S5 =>
    if v5 = 11 then
      fX5_isQuoted_L113 1 S5
    else
      fX5_isQuoted_L113 0 S5
  else
  if v1 = 6 then
    cl (fX5_its a1 4 S1) fun v6 S6 =>
    if v6 < 10 then
      fX5_isQuoted_L135 S6
    else
      if 7 < a2 then
        fX5_isQuoted_L135 S6
      else
        fX5_isQuoted_L136 1 S6
  else
  fX5_isQuoted_L137 S1
theorem sX5_isQuoted {a1 : Int32} {a2 : Int32} {S : St} {r : Int32} {S9 : St} (h : fX5_isQuoted a1 a2 S = some (r, S9)) : PW mX5_isQuoted (some (.int r), S9) 0 [some (.ref 41), some (.int a1), some (.int a2)] [] S := by
  unfold fX5_isQuoted at h
  refine p_aload_n (k := 0) (i := 0) rfl rfl rfl ?_
  refine p_iload_n (k := 1) (i := 1) rfl rfl rfl ?_
  refine p_iconst (k := 2) 0 rfl (by decide) ?_
  obtain ⟨v1, S1, hcS1, h⟩ := cl_some h
  refine p_callV (k := 3) [.int a1, .int 0] [] rfl (tX5_its hcS1) lay_X5 rfl lc_X5_its ml_RX5_57 mi_X5_its mv_X5_its (by decide) (by decide) (Nat.le_of_ble_eq_true rfl) rfl ?_
  by_cases hx0 : v1 = 1
  · rw [if_pos hx0] at h
    refine p_tableIn (k := 4) (off := 38) 44 rfl (by rw [hx0]; decide) (by rw [hx0]; decide) (by rw [hx0]; decide) (by decide) ?_
    refine p_aload_n (k := 5) (i := 0) rfl rfl rfl ?_
    refine p_iload_n (k := 6) (i := 1) rfl rfl rfl ?_
    refine p_iconst (k := 7) 4 rfl (by decide) ?_
    obtain ⟨v2, S2, hcS2, h⟩ := cl_some h
    refine p_callV (k := 8) [.int a1, .int 4] [] rfl (tX5_its hcS2) lay_X5 rfl lc_X5_its ml_RX5_57 mi_X5_its mv_X5_its (by decide) (by decide) (Nat.le_of_ble_eq_true rfl) rfl ?_
    refine p_bipush (k := 9) 10 rfl (by decide) ?_
    refine p_icmp_lt (k := 10) 59 rfl (by decide) (fun hc => ?_) (fun hc => ?_)
    · rw [if_pos hc] at h
      refine p_iconst (k := 13) 0 rfl (by decide) ?_
      refine p_msk [false, false, false] (L2 := [none, none, none]) rfl ?_
      exact sX5_isQuoted_L60 h
    · rw [if_neg hc] at h
      refine p_iconst (k := 11) 1 rfl (by decide) ?_
      refine p_goto (k := 12) 60 rfl (by decide) ?_
      refine p_msk [false, false, false] (L2 := [none, none, none]) rfl ?_
      exact sX5_isQuoted_L60 h
  rw [if_neg hx0] at h
  by_cases hx1 : v1 = 2
  · rw [if_pos hx1] at h
    refine p_tableIn (k := 4) (off := 55) 61 rfl (by rw [hx1]; decide) (by rw [hx1]; decide) (by rw [hx1]; decide) (by decide) ?_
    refine p_aload_n (k := 15) (i := 0) rfl rfl rfl ?_
    refine p_iload_n (k := 16) (i := 1) rfl rfl rfl ?_
    refine p_iconst (k := 17) 1 rfl (by decide) ?_
    obtain ⟨v3, S3, hcS3, h⟩ := cl_some h
    refine p_callV (k := 18) [.int a1, .int 1] [] rfl (tX5_its hcS3) lay_X5 rfl lc_X5_its ml_RX5_57 mi_X5_its mv_X5_its (by decide) (by decide) (Nat.le_of_ble_eq_true rfl) rfl ?_
    refine p_iconst (k := 19) 2 rfl (by decide) ?_
    refine p_irem (k := 20) rfl (by decide) ?_
    refine p_if_ne (k := 21) 76 rfl (by decide) (fun hc => ?_) (fun hc => ?_)
    · rw [if_neg hc] at h
      refine p_iconst (k := 24) 0 rfl (by decide) ?_
      refine p_msk [false, false, false] (L2 := [none, none, none]) rfl ?_
      exact sX5_isQuoted_L77 h
    · rw [if_pos hc] at h
      refine p_iconst (k := 22) 1 rfl (by decide) ?_
      refine p_goto (k := 23) 77 rfl (by decide) ?_
      refine p_msk [false, false, false] (L2 := [none, none, none]) rfl ?_
      exact sX5_isQuoted_L77 h
  rw [if_neg hx1] at h
  by_cases hx2 : v1 = 3
  · rw [if_pos hx2] at h
    refine p_tableIn (k := 4) (off := 131) 137 rfl (by rw [hx2]; decide) (by rw [hx2]; decide) (by rw [hx2]; decide) (by decide) ?_
    refine p_msk [false, false, false] (L2 := [none, none, none]) rfl ?_
    exact sX5_isQuoted_L137 h
  rw [if_neg hx2] at h
  by_cases hx3 : v1 = 4
  · rw [if_pos hx3] at h
    refine p_tableIn (k := 4) (off := 72) 78 rfl (by rw [hx3]; decide) (by rw [hx3]; decide) (by rw [hx3]; decide) (by decide) ?_
    refine p_iload_n (k := 26) (i := 2) rfl rfl rfl ?_
    refine p_aload_n (k := 27) (i := 0) rfl rfl rfl ?_
    refine p_iload_n (k := 28) (i := 1) rfl rfl rfl ?_
    refine p_iconst (k := 29) 3 rfl (by decide) ?_
    obtain ⟨v4, S4, hcS4, h⟩ := cl_some h
    refine p_callV (k := 30) [.int a1, .int 3] [.int a2] rfl (tX5_its hcS4) lay_X5 rfl lc_X5_its ml_RX5_57 mi_X5_its mv_X5_its (by decide) (by decide) (Nat.le_of_ble_eq_true rfl) rfl ?_
    refine p_iadd (k := 31) rfl ?_
    refine p_iconst (k := 32) 3 rfl (by decide) ?_
    refine p_irem (k := 33) rfl (by decide) ?_
    refine p_if_eq (k := 34) 95 rfl (by decide) (fun hc => ?_) (fun hc => ?_)
    · rw [if_pos hc] at h
      refine p_iconst (k := 37) 0 rfl (by decide) ?_
      refine p_msk [false, false, false] (L2 := [none, none, none]) rfl ?_
      exact sX5_isQuoted_L96 h
    · rw [if_neg hc] at h
      refine p_iconst (k := 35) 1 rfl (by decide) ?_
      refine p_goto (k := 36) 96 rfl (by decide) ?_
      refine p_msk [false, false, false] (L2 := [none, none, none]) rfl ?_
      exact sX5_isQuoted_L96 h
  rw [if_neg hx3] at h
  by_cases hx4 : v1 = 5
  · rw [if_pos hx4] at h
    refine p_tableIn (k := 4) (off := 91) 97 rfl (by rw [hx4]; decide) (by rw [hx4]; decide) (by rw [hx4]; decide) (by decide) ?_
    refine p_aload_n (k := 39) (i := 0) rfl rfl rfl ?_
    refine p_iload_n (k := 40) (i := 1) rfl rfl rfl ?_
    refine p_iconst (k := 41) 1 rfl (by decide) ?_
    obtain ⟨v5, S5, hcS5, h⟩ := cl_some h
    refine p_callV (k := 42) [.int a1, .int 1] [] rfl (tX5_its hcS5) lay_X5 rfl lc_X5_its ml_RX5_57 mi_X5_its mv_X5_its (by decide) (by decide) (Nat.le_of_ble_eq_true rfl) rfl ?_
    refine p_bipush (k := 43) 11 rfl (by decide) ?_
    refine p_icmp_ne (k := 44) 112 rfl (by decide) (fun hc => ?_) (fun hc => ?_)
    · rw [if_neg hc] at h
      refine p_iconst (k := 47) 0 rfl (by decide) ?_
      refine p_msk [false, false, false] (L2 := [none, none, none]) rfl ?_
      exact sX5_isQuoted_L113 h
    · rw [if_pos hc] at h
      refine p_iconst (k := 45) 1 rfl (by decide) ?_
      refine p_goto (k := 46) 113 rfl (by decide) ?_
      refine p_msk [false, false, false] (L2 := [none, none, none]) rfl ?_
      exact sX5_isQuoted_L113 h
  rw [if_neg hx4] at h
  by_cases hx5 : v1 = 6
  · rw [if_pos hx5] at h
    refine p_tableIn (k := 4) (off := 108) 114 rfl (by rw [hx5]; decide) (by rw [hx5]; decide) (by rw [hx5]; decide) (by decide) ?_
    refine p_aload_n (k := 49) (i := 0) rfl rfl rfl ?_
    refine p_iload_n (k := 50) (i := 1) rfl rfl rfl ?_
    refine p_iconst (k := 51) 4 rfl (by decide) ?_
    obtain ⟨v6, S6, hcS6, h⟩ := cl_some h
    refine p_callV (k := 52) [.int a1, .int 4] [] rfl (tX5_its hcS6) lay_X5 rfl lc_X5_its ml_RX5_57 mi_X5_its mv_X5_its (by decide) (by decide) (Nat.le_of_ble_eq_true rfl) rfl ?_
    refine p_bipush (k := 53) 10 rfl (by decide) ?_
    refine p_icmp_lt (k := 54) 135 rfl (by decide) (fun hc => ?_) (fun hc => ?_)
    · rw [if_pos hc] at h
      refine p_msk [false, false, false] (L2 := [none, none, none]) rfl ?_
      exact sX5_isQuoted_L135 h
    · rw [if_neg hc] at h
      refine p_iload_n (k := 55) (i := 2) rfl rfl rfl ?_
      refine p_bipush (k := 56) 7 rfl (by decide) ?_
      refine p_icmp_gt (k := 57) 135 rfl (by decide) (fun hc => ?_) (fun hc => ?_)
      · rw [if_pos hc] at h
        refine p_msk [false, false, false] (L2 := [none, none, none]) rfl ?_
        exact sX5_isQuoted_L135 h
      · rw [if_neg hc] at h
        refine p_iconst (k := 58) 1 rfl (by decide) ?_
        refine p_goto (k := 59) 136 rfl (by decide) ?_
        refine p_msk [false, false, false] (L2 := [none, none, none]) rfl ?_
        exact sX5_isQuoted_L136 h
  rw [if_neg hx5] at h
  have hz0 := toInt_ne hx0 (z := 1) (by decide)
  have hz1 := toInt_ne hx1 (z := 2) (by decide)
  have hz2 := toInt_ne hx2 (z := 3) (by decide)
  have hz3 := toInt_ne hx3 (z := 4) (by decide)
  have hz4 := toInt_ne hx4 (z := 5) (by decide)
  have hz5 := toInt_ne hx5 (z := 6) (by decide)
  refine p_tableOut (k := 4) 137 rfl (by omega) (by decide) ?_
  refine p_msk [false, false, false] (L2 := [none, none, none]) rfl ?_
  exact sX5_isQuoted_L137 h
theorem tX5_isQuoted {a1 : Int32} {a2 : Int32} {S : St} {r : Int32} {S9 : St} (h : fX5_isQuoted a1 a2 S = some (r, S9)) : MR yX5_isQuoted cX5_isQuoted mX5_isQuoted [.ref 41, .int a1, .int a2] S (some (.int r), S9) := MR.of (n := 0) okX5_isQuoted rfl rfl (sX5_isQuoted h)
-- quotes(I)I
def fX5_quotes_L41 (k4 : Int32 → Int32 → Int32 → St → Option (Int32 × St)) (x1 : Int32) (x3 : Int32) (y0 : Int32) (y1 : Int32) (S : St) : Option (Int32 × St) :=
  bnd (y0 ||| y1) fun v1 =>
  bnd (x3 + 1) fun v2 =>
  k4 x1 v1 v2 S
theorem sX5_quotes_L41 {r : Int32} {S9 : St} {k4 : Int32 → Int32 → Int32 → St → Option (Int32 × St)} (hk4 : ∀ x1 x2 x3 S, k4 x1 x2 x3 S = some (r, S9) → PW mX5_quotes (some (.int r), S9) 4 [some (.ref 41), some (.int x1), some (.int x2), some (.int x3)] [] S) {x1 : Int32} {x3 : Int32} {y0 : Int32} {y1 : Int32} {S : St} (h : fX5_quotes_L41 k4 x1 x3 y0 y1 S = some (r, S9)) : PW mX5_quotes (some (.int r), S9) 41 [some (.ref 41), some (.int x1), none, some (.int x3)] [.int y1, .int y0] S := by
  unfold fX5_quotes_L41 at h
  refine p_ior (k := 28) rfl ?_
  refine s_bnd h (fun v1 h => ?_)
  refine p_istore_n (k := 29) 2 [some (.ref 41), some (.int x1), some (.int v1), some (.int x3)] rfl rfl rfl (by decide) rfl ?_
  obtain ⟨v2, ev2, h⟩ := bnd_ex h
  refine p_iinc (k := 30) v2 [some (.ref 41), some (.int x1), some (.int v1), some (.int v2)] rfl rfl (by rw [← ev2]; rfl) rfl (by decide) rfl ?_
  refine p_goto (k := 31) 4 rfl (by decide) ?_
  refine p_msk [true, true, true, true] (L2 := [some (.ref 41), some (.int x1), some (.int v1), some (.int v2)]) rfl ?_
  exact hk4 _ _ _ _ h
def fX5_quotes_L40 (k4 : Int32 → Int32 → Int32 → St → Option (Int32 × St)) (x1 : Int32) (x3 : Int32) (y0 : Int32) (S : St) : Option (Int32 × St) :=
  fX5_quotes_L41 k4 x1 x3 y0 0 S
theorem sX5_quotes_L40 {r : Int32} {S9 : St} {k4 : Int32 → Int32 → Int32 → St → Option (Int32 × St)} (hk4 : ∀ x1 x2 x3 S, k4 x1 x2 x3 S = some (r, S9) → PW mX5_quotes (some (.int r), S9) 4 [some (.ref 41), some (.int x1), some (.int x2), some (.int x3)] [] S) {x1 : Int32} {x3 : Int32} {y0 : Int32} {S : St} (h : fX5_quotes_L40 k4 x1 x3 y0 S = some (r, S9)) : PW mX5_quotes (some (.int r), S9) 40 [some (.ref 41), some (.int x1), none, some (.int x3)] [.int y0] S := by
  unfold fX5_quotes_L40 at h
  refine p_iconst (k := 27) 0 rfl (by decide) ?_
  refine p_msk [true, true, false, true] (L2 := [some (.ref 41), some (.int x1), none, some (.int x3)]) rfl ?_
  exact sX5_quotes_L41 hk4 h
def fX5_quotes_L4 : Nat → Int32 → Int32 → Int32 → St → Option (Int32 × St)
  | 0 => fun _ _ _ _ => none
  | n + 1 => fun x1 x2 x3 S =>
    if 16 ≤ x3 then
      some (x2, S)
    else
      cl (fX5_its x1 2 S) fun v1 S1 =>
      if ((v1 >>> (x3 &&& 31)) &&& 1) = 1 then
        cl (fX5_isQuoted x1 x3 S1) fun v2 S2 =>
        if v2 = 0 then
          fX5_quotes_L40 (fun x1 x2 x3 S => fX5_quotes_L4 n x1 x2 x3 S) x1 x3 x2 S2
        else
          fX5_quotes_L41 (fun x1 x2 x3 S => fX5_quotes_L4 n x1 x2 x3 S) x1 x3 x2 (1 <<< (x3 &&& 31)) S2
      else
        fX5_quotes_L40 (fun x1 x2 x3 S => fX5_quotes_L4 n x1 x2 x3 S) x1 x3 x2 S1
theorem sX5_quotes_L4 {r : Int32} {S9 : St} : ∀ (n : Nat) (x1 : Int32) (x2 : Int32) (x3 : Int32) (S : St), fX5_quotes_L4 n x1 x2 x3 S = some (r, S9) → PW mX5_quotes (some (.int r), S9) 4 [some (.ref 41), some (.int x1), some (.int x2), some (.int x3)] [] S := by
  intro n
  induction n with
  | zero => intro x1 x2 x3 S h; cases h
  | succ n ih =>
    intro x1 x2 x3 S h
    unfold fX5_quotes_L4 at h
    refine p_iload_n (k := 4) (i := 3) rfl rfl rfl ?_
    refine p_bipush (k := 5) 16 rfl (by decide) ?_
    refine p_icmp_ge (k := 6) 49 rfl (by decide) (fun hc => ?_) (fun hc => ?_)
    · rw [if_pos hc] at h
      refine p_iload_n (k := 32) (i := 2) rfl rfl rfl ?_
      exact s_iret h (k := 33) rfl rfl
    · rw [if_neg hc] at h
      refine p_iload_n (k := 7) (i := 2) rfl rfl rfl ?_
      refine p_aload_n (k := 8) (i := 0) rfl rfl rfl ?_
      refine p_iload_n (k := 9) (i := 1) rfl rfl rfl ?_
      refine p_iconst (k := 10) 2 rfl (by decide) ?_
      obtain ⟨v1, S1, hcS1, h⟩ := cl_some h
      refine p_callV (k := 11) [.int x1, .int 2] [.int x2] rfl (tX5_its hcS1) lay_X5 rfl lc_X5_its ml_RX5_57 mi_X5_its mv_X5_its (by decide) (by decide) (Nat.le_of_ble_eq_true rfl) rfl ?_
      refine p_iload_n (k := 12) (i := 3) rfl rfl rfl ?_
      refine p_ishr (k := 13) rfl ?_
      refine p_iconst (k := 14) 1 rfl (by decide) ?_
      refine p_iand (k := 15) rfl ?_
      refine p_iconst (k := 16) 1 rfl (by decide) ?_
      refine p_icmp_ne (k := 17) 40 rfl (by decide) (fun hc => ?_) (fun hc => ?_)
      · rw [if_neg hc] at h
        refine p_msk [true, true, false, true] (L2 := [some (.ref 41), some (.int x1), none, some (.int x3)]) rfl ?_
        exact sX5_quotes_L40 ih h
      · rw [if_pos hc] at h
        refine p_aload_n (k := 18) (i := 0) rfl rfl rfl ?_
        refine p_iload_n (k := 19) (i := 1) rfl rfl rfl ?_
        refine p_iload_n (k := 20) (i := 3) rfl rfl rfl ?_
        obtain ⟨v2, S2, hcS2, h⟩ := cl_some h
        refine p_callV (k := 21) [.int x1, .int x3] [.int x2] rfl (tX5_isQuoted hcS2) lay_X5 rfl lc_X5_isQuoted ml_RX5_82 mi_X5_isQuoted mv_X5_isQuoted (by decide) (by decide) (Nat.le_of_ble_eq_true rfl) rfl ?_
        refine p_if_eq (k := 22) 40 rfl (by decide) (fun hc => ?_) (fun hc => ?_)
        · rw [if_pos hc] at h
          refine p_msk [true, true, false, true] (L2 := [some (.ref 41), some (.int x1), none, some (.int x3)]) rfl ?_
          exact sX5_quotes_L40 ih h
        · rw [if_neg hc] at h
          refine p_iconst (k := 23) 1 rfl (by decide) ?_
          refine p_iload_n (k := 24) (i := 3) rfl rfl rfl ?_
          refine p_ishl (k := 25) rfl ?_
          refine p_goto (k := 26) 41 rfl (by decide) ?_
          refine p_msk [true, true, false, true] (L2 := [some (.ref 41), some (.int x1), none, some (.int x3)]) rfl ?_
          exact sX5_quotes_L41 ih h
def fX5_quotes (a1 : Int32) (S : St) : Option (Int32 × St) :=
  fX5_quotes_L4 FU a1 0 0 S
theorem sX5_quotes {a1 : Int32} {S : St} {r : Int32} {S9 : St} (h : fX5_quotes a1 S = some (r, S9)) : PW mX5_quotes (some (.int r), S9) 0 [some (.ref 41), some (.int a1), none, none] [] S := by
  unfold fX5_quotes at h
  refine p_iconst (k := 0) 0 rfl (by decide) ?_
  refine p_istore_n (k := 1) 2 [some (.ref 41), some (.int a1), some (.int 0), none] rfl rfl rfl (by decide) rfl ?_
  refine p_iconst (k := 2) 0 rfl (by decide) ?_
  refine p_istore_n (k := 3) 3 [some (.ref 41), some (.int a1), some (.int 0), some (.int 0)] rfl rfl rfl (by decide) rfl ?_
  refine p_msk [true, true, true, true] (L2 := [some (.ref 41), some (.int a1), some (.int 0), some (.int 0)]) rfl ?_
  exact sX5_quotes_L4 _ _ _ _ _ h
theorem tX5_quotes {a1 : Int32} {S : St} {r : Int32} {S9 : St} (h : fX5_quotes a1 S = some (r, S9)) : MR yX5_quotes cX5_quotes mX5_quotes [.ref 41, .int a1] S (some (.int r), S9) := MR.of (n := 2) okX5_quotes rfl rfl (sX5_quotes h)
-- costs(I)I
def fX5_costs (a1 : Int32) (S : St) : Option (Int32 × St) :=
  cl (fX5_its a1 2 S) fun v1 S1 =>
  cl (fX5_many v1 S1) fun v2 S2 =>
  bnd (2 + (v2 / 2)) fun v3 =>
  cl (fX5_its a1 0 S2) fun v4 S3 =>
  if v4 = 1 then
    cl (fX5_its a1 1 S3) fun v5 S4 =>
    some (2 + v5, S4)
  else
  if v4 = 2 then
    some (v3, S3)
  else
  if v4 = 3 then
    some (v3 - 1, S3)
  else
  if v4 = 4 then
    cl (fX5_its a1 3 S3) fun v6 S5 =>
    some ((v3 - 1) + (v6 / 10), S5)
  else
  if v4 = 5 then
    some (99, S3)
  else
  if v4 = 6 then
    cl (fX5_its a1 1 S3) fun v7 S6 =>
    some ((2 + v7) / 2, S6)
  else
  some (2, S3)
theorem sX5_costs {a1 : Int32} {S : St} {r : Int32} {S9 : St} (h : fX5_costs a1 S = some (r, S9)) : PW mX5_costs (some (.int r), S9) 0 [some (.ref 41), some (.int a1), none] [] S := by
  unfold fX5_costs at h
  refine p_iconst (k := 0) 2 rfl (by decide) ?_
  refine p_aload_n (k := 1) (i := 0) rfl rfl rfl ?_
  refine p_iload_n (k := 2) (i := 1) rfl rfl rfl ?_
  refine p_iconst (k := 3) 2 rfl (by decide) ?_
  obtain ⟨v1, S1, hcS1, h⟩ := cl_some h
  refine p_callV (k := 4) [.int a1, .int 2] [.int 2] rfl (tX5_its hcS1) lay_X5 rfl lc_X5_its ml_RX5_57 mi_X5_its mv_X5_its (by decide) (by decide) (Nat.le_of_ble_eq_true rfl) rfl ?_
  obtain ⟨v2, S2, hcS2, h⟩ := cl_some h
  refine p_callS (k := 5) [.int v1] [.int 2] rfl (tX5_many hcS2) lc_X5_many ml_RX5_86 ms_X5_many (by decide) (by decide) (Nat.le_of_ble_eq_true rfl) rfl ?_
  refine p_iconst (k := 6) 2 rfl (by decide) ?_
  refine p_idiv (k := 7) rfl (by decide) ?_
  refine p_iadd (k := 8) rfl ?_
  refine s_bnd h (fun v3 h => ?_)
  refine p_istore_n (k := 9) 2 [some (.ref 41), some (.int a1), some (.int v3)] rfl rfl rfl (by decide) rfl ?_
  refine p_aload_n (k := 10) (i := 0) rfl rfl rfl ?_
  refine p_iload_n (k := 11) (i := 1) rfl rfl rfl ?_
  refine p_iconst (k := 12) 0 rfl (by decide) ?_
  obtain ⟨v4, S3, hcS3, h⟩ := cl_some h
  refine p_callV (k := 13) [.int a1, .int 0] [] rfl (tX5_its hcS3) lay_X5 rfl lc_X5_its ml_RX5_57 mi_X5_its mv_X5_its (by decide) (by decide) (Nat.le_of_ble_eq_true rfl) rfl ?_
  by_cases hx0 : v4 = 1
  · rw [if_pos hx0] at h
    refine p_tableIn (k := 14) (off := 40) 60 rfl (by rw [hx0]; decide) (by rw [hx0]; decide) (by rw [hx0]; decide) (by decide) ?_
    refine p_iconst (k := 15) 2 rfl (by decide) ?_
    refine p_aload_n (k := 16) (i := 0) rfl rfl rfl ?_
    refine p_iload_n (k := 17) (i := 1) rfl rfl rfl ?_
    refine p_iconst (k := 18) 1 rfl (by decide) ?_
    obtain ⟨v5, S4, hcS4, h⟩ := cl_some h
    refine p_callV (k := 19) [.int a1, .int 1] [.int 2] rfl (tX5_its hcS4) lay_X5 rfl lc_X5_its ml_RX5_57 mi_X5_its mv_X5_its (by decide) (by decide) (Nat.le_of_ble_eq_true rfl) rfl ?_
    refine p_iadd (k := 20) rfl ?_
    exact s_iret h (k := 21) rfl rfl
  rw [if_neg hx0] at h
  by_cases hx1 : v4 = 2
  · rw [if_pos hx1] at h
    refine p_tableIn (k := 14) (off := 49) 69 rfl (by rw [hx1]; decide) (by rw [hx1]; decide) (by rw [hx1]; decide) (by decide) ?_
    refine p_iload_n (k := 22) (i := 2) rfl rfl rfl ?_
    exact s_iret h (k := 23) rfl rfl
  rw [if_neg hx1] at h
  by_cases hx2 : v4 = 3
  · rw [if_pos hx2] at h
    refine p_tableIn (k := 14) (off := 51) 71 rfl (by rw [hx2]; decide) (by rw [hx2]; decide) (by rw [hx2]; decide) (by decide) ?_
    refine p_iload_n (k := 24) (i := 2) rfl rfl rfl ?_
    refine p_iconst (k := 25) 1 rfl (by decide) ?_
    refine p_isub (k := 26) rfl ?_
    exact s_iret h (k := 27) rfl rfl
  rw [if_neg hx2] at h
  by_cases hx3 : v4 = 4
  · rw [if_pos hx3] at h
    refine p_tableIn (k := 14) (off := 55) 75 rfl (by rw [hx3]; decide) (by rw [hx3]; decide) (by rw [hx3]; decide) (by decide) ?_
    refine p_iload_n (k := 28) (i := 2) rfl rfl rfl ?_
    refine p_iconst (k := 29) 1 rfl (by decide) ?_
    refine p_isub (k := 30) rfl ?_
    refine p_aload_n (k := 31) (i := 0) rfl rfl rfl ?_
    refine p_iload_n (k := 32) (i := 1) rfl rfl rfl ?_
    refine p_iconst (k := 33) 3 rfl (by decide) ?_
    obtain ⟨v6, S5, hcS5, h⟩ := cl_some h
    refine p_callV (k := 34) [.int a1, .int 3] [.int (v3 - 1)] rfl (tX5_its hcS5) lay_X5 rfl lc_X5_its ml_RX5_57 mi_X5_its mv_X5_its (by decide) (by decide) (Nat.le_of_ble_eq_true rfl) rfl ?_
    refine p_bipush (k := 35) 10 rfl (by decide) ?_
    refine p_idiv (k := 36) rfl (by decide) ?_
    refine p_iadd (k := 37) rfl ?_
    exact s_iret h (k := 38) rfl rfl
  rw [if_neg hx3] at h
  by_cases hx4 : v4 = 5
  · rw [if_pos hx4] at h
    refine p_tableIn (k := 14) (off := 69) 89 rfl (by rw [hx4]; decide) (by rw [hx4]; decide) (by rw [hx4]; decide) (by decide) ?_
    refine p_bipush (k := 39) 99 rfl (by decide) ?_
    exact s_iret h (k := 40) rfl rfl
  rw [if_neg hx4] at h
  by_cases hx5 : v4 = 6
  · rw [if_pos hx5] at h
    refine p_tableIn (k := 14) (off := 72) 92 rfl (by rw [hx5]; decide) (by rw [hx5]; decide) (by rw [hx5]; decide) (by decide) ?_
    refine p_iconst (k := 41) 2 rfl (by decide) ?_
    refine p_aload_n (k := 42) (i := 0) rfl rfl rfl ?_
    refine p_iload_n (k := 43) (i := 1) rfl rfl rfl ?_
    refine p_iconst (k := 44) 1 rfl (by decide) ?_
    obtain ⟨v7, S6, hcS6, h⟩ := cl_some h
    refine p_callV (k := 45) [.int a1, .int 1] [.int 2] rfl (tX5_its hcS6) lay_X5 rfl lc_X5_its ml_RX5_57 mi_X5_its mv_X5_its (by decide) (by decide) (Nat.le_of_ble_eq_true rfl) rfl ?_
    refine p_iadd (k := 46) rfl ?_
    refine p_iconst (k := 47) 2 rfl (by decide) ?_
    refine p_idiv (k := 48) rfl (by decide) ?_
    exact s_iret h (k := 49) rfl rfl
  rw [if_neg hx5] at h
  have hz0 := toInt_ne hx0 (z := 1) (by decide)
  have hz1 := toInt_ne hx1 (z := 2) (by decide)
  have hz2 := toInt_ne hx2 (z := 3) (by decide)
  have hz3 := toInt_ne hx3 (z := 4) (by decide)
  have hz4 := toInt_ne hx4 (z := 5) (by decide)
  have hz5 := toInt_ne hx5 (z := 6) (by decide)
  refine p_tableOut (k := 14) 103 rfl (by omega) (by decide) ?_
  refine p_iconst (k := 50) 2 rfl (by decide) ?_
  exact s_iret h (k := 51) rfl rfl
theorem tX5_costs {a1 : Int32} {S : St} {r : Int32} {S9 : St} (h : fX5_costs a1 S = some (r, S9)) : MR yX5_costs cX5_costs mX5_costs [.ref 41, .int a1] S (some (.int r), S9) := MR.of (n := 1) okX5_costs rfl rfl (sX5_costs h)
-- grazes(I)I
def fX5_grazes_L47 (S : St) : Option (Int32 × St) :=
  some (6, S)
theorem sX5_grazes_L47 {r : Int32} {S9 : St}  {S : St} (h : fX5_grazes_L47 S = some (r, S9)) : PW mX5_grazes (some (.int r), S9) 47 [none, none] [] S := by
  unfold fX5_grazes_L47 at h
  refine p_bipush (k := 7) 6 rfl (by decide) ?_
  exact s_iret h (k := 8) rfl rfl
def fX5_grazes (a1 : Int32) (S : St) : Option (Int32 × St) :=
  cl (fX5_its a1 0 S) fun v1 S1 =>
  if v1 = 1 then
    some (7, S1)
  else
  if v1 = 2 then
    fX5_grazes_L47 S1
  else
  if v1 = 3 then
    fX5_grazes_L47 S1
  else
  if v1 = 4 then
    fX5_grazes_L47 S1
  else
  if v1 = 5 then
    some (2, S1)
  else
  if v1 = 6 then
    some (3, S1)
  else
  some (5, S1)
theorem sX5_grazes {a1 : Int32} {S : St} {r : Int32} {S9 : St} (h : fX5_grazes a1 S = some (r, S9)) : PW mX5_grazes (some (.int r), S9) 0 [some (.ref 41), some (.int a1)] [] S := by
  unfold fX5_grazes at h
  refine p_aload_n (k := 0) (i := 0) rfl rfl rfl ?_
  refine p_iload_n (k := 1) (i := 1) rfl rfl rfl ?_
  refine p_iconst (k := 2) 0 rfl (by decide) ?_
  obtain ⟨v1, S1, hcS1, h⟩ := cl_some h
  refine p_callV (k := 3) [.int a1, .int 0] [] rfl (tX5_its hcS1) lay_X5 rfl lc_X5_its ml_RX5_57 mi_X5_its mv_X5_its (by decide) (by decide) (Nat.le_of_ble_eq_true rfl) rfl ?_
  by_cases hx0 : v1 = 1
  · rw [if_pos hx0] at h
    refine p_tableIn (k := 4) (off := 38) 44 rfl (by rw [hx0]; decide) (by rw [hx0]; decide) (by rw [hx0]; decide) (by decide) ?_
    refine p_bipush (k := 5) 7 rfl (by decide) ?_
    exact s_iret h (k := 6) rfl rfl
  rw [if_neg hx0] at h
  by_cases hx1 : v1 = 2
  · rw [if_pos hx1] at h
    refine p_tableIn (k := 4) (off := 41) 47 rfl (by rw [hx1]; decide) (by rw [hx1]; decide) (by rw [hx1]; decide) (by decide) ?_
    refine p_msk [false, false] (L2 := [none, none]) rfl ?_
    exact sX5_grazes_L47 h
  rw [if_neg hx1] at h
  by_cases hx2 : v1 = 3
  · rw [if_pos hx2] at h
    refine p_tableIn (k := 4) (off := 41) 47 rfl (by rw [hx2]; decide) (by rw [hx2]; decide) (by rw [hx2]; decide) (by decide) ?_
    refine p_msk [false, false] (L2 := [none, none]) rfl ?_
    exact sX5_grazes_L47 h
  rw [if_neg hx2] at h
  by_cases hx3 : v1 = 4
  · rw [if_pos hx3] at h
    refine p_tableIn (k := 4) (off := 41) 47 rfl (by rw [hx3]; decide) (by rw [hx3]; decide) (by rw [hx3]; decide) (by decide) ?_
    refine p_msk [false, false] (L2 := [none, none]) rfl ?_
    exact sX5_grazes_L47 h
  rw [if_neg hx3] at h
  by_cases hx4 : v1 = 5
  · rw [if_pos hx4] at h
    refine p_tableIn (k := 4) (off := 44) 50 rfl (by rw [hx4]; decide) (by rw [hx4]; decide) (by rw [hx4]; decide) (by decide) ?_
    refine p_iconst (k := 9) 2 rfl (by decide) ?_
    exact s_iret h (k := 10) rfl rfl
  rw [if_neg hx4] at h
  by_cases hx5 : v1 = 6
  · rw [if_pos hx5] at h
    refine p_tableIn (k := 4) (off := 46) 52 rfl (by rw [hx5]; decide) (by rw [hx5]; decide) (by rw [hx5]; decide) (by decide) ?_
    refine p_iconst (k := 11) 3 rfl (by decide) ?_
    exact s_iret h (k := 12) rfl rfl
  rw [if_neg hx5] at h
  have hz0 := toInt_ne hx0 (z := 1) (by decide)
  have hz1 := toInt_ne hx1 (z := 2) (by decide)
  have hz2 := toInt_ne hx2 (z := 3) (by decide)
  have hz3 := toInt_ne hx3 (z := 4) (by decide)
  have hz4 := toInt_ne hx4 (z := 5) (by decide)
  have hz5 := toInt_ne hx5 (z := 6) (by decide)
  refine p_tableOut (k := 4) 54 rfl (by omega) (by decide) ?_
  refine p_iconst (k := 13) 5 rfl (by decide) ?_
  exact s_iret h (k := 14) rfl rfl
theorem tX5_grazes {a1 : Int32} {S : St} {r : Int32} {S9 : St} (h : fX5_grazes a1 S = some (r, S9)) : MR yX5_grazes cX5_grazes mX5_grazes [.ref 41, .int a1] S (some (.int r), S9) := MR.of (n := 0) okX5_grazes rfl rfl (sX5_grazes h)
-- greenest(I)I
def fX5_greenest_L71 (y0 : Int32) (S : St) : Option (Int32 × St) :=
  some (y0, S)
theorem sX5_greenest_L71 {r : Int32} {S9 : St} {y0 : Int32} {S : St} (h : fX5_greenest_L71 y0 S = some (r, S9)) : PW mX5_greenest (some (.int r), S9) 71 [none, none, none] [.int y0] S := by
  unfold fX5_greenest_L71 at h
  exact s_iret h (k := 50) rfl rfl
def fX5_greenest_L70 (x2 : Int32) (S : St) : Option (Int32 × St) :=
  fX5_greenest_L71 x2 S
theorem sX5_greenest_L70 {r : Int32} {S9 : St} {x2 : Int32} {S : St} (h : fX5_greenest_L70 x2 S = some (r, S9)) : PW mX5_greenest (some (.int r), S9) 70 [none, none, some (.int x2)] [] S := by
  unfold fX5_greenest_L70 at h
  refine p_iload_n (k := 49) (i := 2) rfl rfl rfl ?_
  refine p_msk [false, false, false] (L2 := [none, none, none]) rfl ?_
  exact sX5_greenest_L71 h
def fX5_greenest_L38 (x1 : Int32) (y0 : Int32) (S : St) : Option (Int32 × St) :=
  if x1 ≤ 0 then
    fX5_greenest_L70 y0 S
  else
    rd S 42 75 ((5 + x1) - 1) fun v1 =>
    rd S 42 75 (5 + y0) fun v2 =>
    if v1 ≤ v2 then
      fX5_greenest_L70 y0 S
    else
      fX5_greenest_L71 (x1 - 1) S
theorem sX5_greenest_L38 {r : Int32} {S9 : St} {x1 : Int32} {y0 : Int32} {S : St} (h : fX5_greenest_L38 x1 y0 S = some (r, S9)) : PW mX5_greenest (some (.int r), S9) 38 [some (.ref 41), some (.int x1), none] [.int y0] S := by
  unfold fX5_greenest_L38 at h
  refine p_istore_n (k := 27) 2 [some (.ref 41), some (.int x1), some (.int y0)] rfl rfl rfl (by decide) rfl ?_
  refine p_iload_n (k := 28) (i := 1) rfl rfl rfl ?_
  refine p_if_le (k := 29) 70 rfl (by decide) (fun hc => ?_) (fun hc => ?_)
  · rw [if_pos hc] at h
    refine p_msk [false, false, true] (L2 := [none, none, some (.int y0)]) rfl ?_
    exact sX5_greenest_L70 h
  · rw [if_neg hc] at h
    refine p_aload_n (k := 30) (i := 0) rfl rfl rfl ?_
    refine p_getr (k := 31) rfl lay_X5 rfl fl_RX5_7 ?_
    refine p_iconst (k := 32) 5 rfl (by decide) ?_
    refine p_iload_n (k := 33) (i := 1) rfl rfl rfl ?_
    refine p_iadd (k := 34) rfl ?_
    refine p_iconst (k := 35) 1 rfl (by decide) ?_
    refine p_isub (k := 36) rfl ?_
    refine s_rd h (k := 37) rfl lay_42 (fun v1 h => ?_)
    refine p_aload_n (k := 38) (i := 0) rfl rfl rfl ?_
    refine p_getr (k := 39) rfl lay_X5 rfl fl_RX5_7 ?_
    refine p_iconst (k := 40) 5 rfl (by decide) ?_
    refine p_iload_n (k := 41) (i := 2) rfl rfl rfl ?_
    refine p_iadd (k := 42) rfl ?_
    refine s_rd h (k := 43) rfl lay_42 (fun v2 h => ?_)
    refine p_icmp_le (k := 44) 70 rfl (by decide) (fun hc => ?_) (fun hc => ?_)
    · rw [if_pos hc] at h
      refine p_msk [false, false, true] (L2 := [none, none, some (.int y0)]) rfl ?_
      exact sX5_greenest_L70 h
    · rw [if_neg hc] at h
      refine p_iload_n (k := 45) (i := 1) rfl rfl rfl ?_
      refine p_iconst (k := 46) 1 rfl (by decide) ?_
      refine p_isub (k := 47) rfl ?_
      refine p_goto (k := 48) 71 rfl (by decide) ?_
      refine p_msk [false, false, false] (L2 := [none, none, none]) rfl ?_
      exact sX5_greenest_L71 h
def fX5_greenest_L37 (x1 : Int32) (x2 : Int32) (S : St) : Option (Int32 × St) :=
  fX5_greenest_L38 x1 x2 S
theorem sX5_greenest_L37 {r : Int32} {S9 : St} {x1 : Int32} {x2 : Int32} {S : St} (h : fX5_greenest_L37 x1 x2 S = some (r, S9)) : PW mX5_greenest (some (.int r), S9) 37 [some (.ref 41), some (.int x1), some (.int x2)] [] S := by
  unfold fX5_greenest_L37 at h
  refine p_iload_n (k := 26) (i := 2) rfl rfl rfl ?_
  refine p_msk [true, true, false] (L2 := [some (.ref 41), some (.int x1), none]) rfl ?_
  exact sX5_greenest_L38 h
def fX5_greenest (a1 : Int32) (S : St) : Option (Int32 × St) :=
  if 12 ≤ (a1 + 1) then
    fX5_greenest_L37 a1 a1 S
  else
    rd S 42 75 ((5 + a1) + 1) fun v1 =>
    rd S 42 75 (5 + a1) fun v2 =>
    if v1 ≤ v2 then
      fX5_greenest_L37 a1 a1 S
    else
      fX5_greenest_L38 a1 (a1 + 1) S
theorem sX5_greenest {a1 : Int32} {S : St} {r : Int32} {S9 : St} (h : fX5_greenest a1 S = some (r, S9)) : PW mX5_greenest (some (.int r), S9) 0 [some (.ref 41), some (.int a1), none] [] S := by
  unfold fX5_greenest at h
  refine p_iload_n (k := 0) (i := 1) rfl rfl rfl ?_
  refine p_istore_n (k := 1) 2 [some (.ref 41), some (.int a1), some (.int a1)] rfl rfl rfl (by decide) rfl ?_
  refine p_iload_n (k := 2) (i := 1) rfl rfl rfl ?_
  refine p_iconst (k := 3) 1 rfl (by decide) ?_
  refine p_iadd (k := 4) rfl ?_
  refine p_bipush (k := 5) 12 rfl (by decide) ?_
  refine p_icmp_ge (k := 6) 37 rfl (by decide) (fun hc => ?_) (fun hc => ?_)
  · rw [if_pos hc] at h
    refine p_msk [true, true, true] (L2 := [some (.ref 41), some (.int a1), some (.int a1)]) rfl ?_
    exact sX5_greenest_L37 h
  · rw [if_neg hc] at h
    refine p_aload_n (k := 7) (i := 0) rfl rfl rfl ?_
    refine p_getr (k := 8) rfl lay_X5 rfl fl_RX5_7 ?_
    refine p_iconst (k := 9) 5 rfl (by decide) ?_
    refine p_iload_n (k := 10) (i := 1) rfl rfl rfl ?_
    refine p_iadd (k := 11) rfl ?_
    refine p_iconst (k := 12) 1 rfl (by decide) ?_
    refine p_iadd (k := 13) rfl ?_
    refine s_rd h (k := 14) rfl lay_42 (fun v1 h => ?_)
    refine p_aload_n (k := 15) (i := 0) rfl rfl rfl ?_
    refine p_getr (k := 16) rfl lay_X5 rfl fl_RX5_7 ?_
    refine p_iconst (k := 17) 5 rfl (by decide) ?_
    refine p_iload_n (k := 18) (i := 2) rfl rfl rfl ?_
    refine p_iadd (k := 19) rfl ?_
    refine s_rd h (k := 20) rfl lay_42 (fun v2 h => ?_)
    refine p_icmp_le (k := 21) 37 rfl (by decide) (fun hc => ?_) (fun hc => ?_)
    · rw [if_pos hc] at h
      refine p_msk [true, true, true] (L2 := [some (.ref 41), some (.int a1), some (.int a1)]) rfl ?_
      exact sX5_greenest_L37 h
    · rw [if_neg hc] at h
      refine p_iload_n (k := 22) (i := 1) rfl rfl rfl ?_
      refine p_iconst (k := 23) 1 rfl (by decide) ?_
      refine p_iadd (k := 24) rfl ?_
      refine p_goto (k := 25) 38 rfl (by decide) ?_
      refine p_msk [true, true, false] (L2 := [some (.ref 41), some (.int a1), none]) rfl ?_
      exact sX5_greenest_L38 h
theorem tX5_greenest {a1 : Int32} {S : St} {r : Int32} {S9 : St} (h : fX5_greenest a1 S = some (r, S9)) : MR yX5_greenest cX5_greenest mX5_greenest [.ref 41, .int a1] S (some (.int r), S9) := MR.of (n := 1) okX5_greenest rfl rfl (sX5_greenest h)
-- climbsTo(I)I
def fX5_climbsTo_L66 (y0 : Int32) (S : St) : Option (Int32 × St) :=
  some (y0, S)
theorem sX5_climbsTo_L66 {r : Int32} {S9 : St} {y0 : Int32} {S : St} (h : fX5_climbsTo_L66 y0 S = some (r, S9)) : PW mX5_climbsTo (some (.int r), S9) 66 [none, none, none] [.int y0] S := by
  unfold fX5_climbsTo_L66 at h
  exact s_iret h (k := 24) rfl rfl
def fX5_climbsTo_L91 (y0 : Int32) (S : St) : Option (Int32 × St) :=
  some (y0, S)
theorem sX5_climbsTo_L91 {r : Int32} {S9 : St} {y0 : Int32} {S : St} (h : fX5_climbsTo_L91 y0 S = some (r, S9)) : PW mX5_climbsTo (some (.int r), S9) 91 [none, none, none] [.int y0] S := by
  unfold fX5_climbsTo_L91 at h
  exact s_iret h (k := 41) rfl rfl
def fX5_climbsTo_L90 (x2 : Int32) (S : St) : Option (Int32 × St) :=
  fX5_climbsTo_L91 x2 S
theorem sX5_climbsTo_L90 {r : Int32} {S9 : St} {x2 : Int32} {S : St} (h : fX5_climbsTo_L90 x2 S = some (r, S9)) : PW mX5_climbsTo (some (.int r), S9) 90 [none, none, some (.int x2)] [] S := by
  unfold fX5_climbsTo_L90 at h
  refine p_iload_n (k := 40) (i := 2) rfl rfl rfl ?_
  refine p_msk [false, false, false] (L2 := [none, none, none]) rfl ?_
  exact sX5_climbsTo_L91 h
def fX5_climbsTo (a1 : Int32) (S : St) : Option (Int32 × St) :=
  cl (fX5_its a1 1 S) fun v1 S1 =>
  cl (fX5_its a1 0 S1) fun v2 S2 =>
  if v2 = 2 then
    rd S2 42 75 1 fun v3 =>
    if ((v3 + a1) - (v3 + a1) / 2 * 2) = 0 then
      cl (fX5_greenest v1 S2) fun v4 S3 =>
      fX5_climbsTo_L66 v4 S3
    else
      fX5_climbsTo_L66 v1 S2
  else
  if v2 = 3 then
    some (v1, S2)
  else
  if v2 = 4 then
    if v1 ≤ 0 then
      fX5_climbsTo_L90 v1 S2
    else
      cl (fX5_its a1 3 S2) fun v5 S4 =>
      if (v5 - v5 / 5 * 5) = 0 then
        fX5_climbsTo_L91 (v1 - 1) S4
      else
        fX5_climbsTo_L90 v1 S4
  else
  if v2 = 5 then
    cl (fX5_least (v1 + 1) 11 S2) fun v6 S5 =>
    some (v6, S5)
  else
  cl (fX5_greenest v1 S2) fun v7 S6 =>
  some (v7, S6)
theorem sX5_climbsTo {a1 : Int32} {S : St} {r : Int32} {S9 : St} (h : fX5_climbsTo a1 S = some (r, S9)) : PW mX5_climbsTo (some (.int r), S9) 0 [some (.ref 41), some (.int a1), none] [] S := by
  unfold fX5_climbsTo at h
  refine p_aload_n (k := 0) (i := 0) rfl rfl rfl ?_
  refine p_iload_n (k := 1) (i := 1) rfl rfl rfl ?_
  refine p_iconst (k := 2) 1 rfl (by decide) ?_
  obtain ⟨v1, S1, hcS1, h⟩ := cl_some h
  refine p_callV (k := 3) [.int a1, .int 1] [] rfl (tX5_its hcS1) lay_X5 rfl lc_X5_its ml_RX5_57 mi_X5_its mv_X5_its (by decide) (by decide) (Nat.le_of_ble_eq_true rfl) rfl ?_
  refine p_istore_n (k := 4) 2 [some (.ref 41), some (.int a1), some (.int v1)] rfl rfl rfl (by decide) rfl ?_
  refine p_aload_n (k := 5) (i := 0) rfl rfl rfl ?_
  refine p_iload_n (k := 6) (i := 1) rfl rfl rfl ?_
  refine p_iconst (k := 7) 0 rfl (by decide) ?_
  obtain ⟨v2, S2, hcS2, h⟩ := cl_some h
  refine p_callV (k := 8) [.int a1, .int 0] [] rfl (tX5_its hcS2) lay_X5 rfl lc_X5_its ml_RX5_57 mi_X5_its mv_X5_its (by decide) (by decide) (Nat.le_of_ble_eq_true rfl) rfl ?_
  by_cases hx0 : v2 = 2
  · rw [if_pos hx0] at h
    refine p_tableIn (k := 9) (off := 31) 44 rfl (by rw [hx0]; decide) (by rw [hx0]; decide) (by rw [hx0]; decide) (by decide) ?_
    refine p_aload_n (k := 10) (i := 0) rfl rfl rfl ?_
    refine p_getr (k := 11) rfl lay_X5 rfl fl_RX5_7 ?_
    refine p_iconst (k := 12) 1 rfl (by decide) ?_
    refine s_rd h (k := 13) rfl lay_42 (fun v3 h => ?_)
    refine p_iload_n (k := 14) (i := 1) rfl rfl rfl ?_
    refine p_iadd (k := 15) rfl ?_
    refine p_iconst (k := 16) 2 rfl (by decide) ?_
    refine p_irem (k := 17) rfl (by decide) ?_
    refine p_if_ne (k := 18) 65 rfl (by decide) (fun hc => ?_) (fun hc => ?_)
    · rw [if_neg hc] at h
      refine p_iload_n (k := 23) (i := 2) rfl rfl rfl ?_
      refine p_msk [false, false, false] (L2 := [none, none, none]) rfl ?_
      exact sX5_climbsTo_L66 h
    · rw [if_pos hc] at h
      refine p_aload_n (k := 19) (i := 0) rfl rfl rfl ?_
      refine p_iload_n (k := 20) (i := 2) rfl rfl rfl ?_
      obtain ⟨v4, S3, hcS3, h⟩ := cl_some h
      refine p_callV (k := 21) [.int v1] [] rfl (tX5_greenest hcS3) lay_X5 rfl lc_X5_greenest ml_RX5_89 mi_X5_greenest mv_X5_greenest (by decide) (by decide) (Nat.le_of_ble_eq_true rfl) rfl ?_
      refine p_goto (k := 22) 66 rfl (by decide) ?_
      refine p_msk [false, false, false] (L2 := [none, none, none]) rfl ?_
      exact sX5_climbsTo_L66 h
  rw [if_neg hx0] at h
  by_cases hx1 : v2 = 3
  · rw [if_pos hx1] at h
    refine p_tableIn (k := 9) (off := 54) 67 rfl (by rw [hx1]; decide) (by rw [hx1]; decide) (by rw [hx1]; decide) (by decide) ?_
    refine p_iload_n (k := 25) (i := 2) rfl rfl rfl ?_
    exact s_iret h (k := 26) rfl rfl
  rw [if_neg hx1] at h
  by_cases hx2 : v2 = 4
  · rw [if_pos hx2] at h
    refine p_tableIn (k := 9) (off := 56) 69 rfl (by rw [hx2]; decide) (by rw [hx2]; decide) (by rw [hx2]; decide) (by decide) ?_
    refine p_iload_n (k := 27) (i := 2) rfl rfl rfl ?_
    refine p_if_le (k := 28) 90 rfl (by decide) (fun hc => ?_) (fun hc => ?_)
    · rw [if_pos hc] at h
      refine p_msk [false, false, true] (L2 := [none, none, some (.int v1)]) rfl ?_
      exact sX5_climbsTo_L90 h
    · rw [if_neg hc] at h
      refine p_aload_n (k := 29) (i := 0) rfl rfl rfl ?_
      refine p_iload_n (k := 30) (i := 1) rfl rfl rfl ?_
      refine p_iconst (k := 31) 3 rfl (by decide) ?_
      obtain ⟨v5, S4, hcS4, h⟩ := cl_some h
      refine p_callV (k := 32) [.int a1, .int 3] [] rfl (tX5_its hcS4) lay_X5 rfl lc_X5_its ml_RX5_57 mi_X5_its mv_X5_its (by decide) (by decide) (Nat.le_of_ble_eq_true rfl) rfl ?_
      refine p_iconst (k := 33) 5 rfl (by decide) ?_
      refine p_irem (k := 34) rfl (by decide) ?_
      refine p_if_ne (k := 35) 90 rfl (by decide) (fun hc => ?_) (fun hc => ?_)
      · rw [if_neg hc] at h
        refine p_msk [false, false, true] (L2 := [none, none, some (.int v1)]) rfl ?_
        exact sX5_climbsTo_L90 h
      · rw [if_pos hc] at h
        refine p_iload_n (k := 36) (i := 2) rfl rfl rfl ?_
        refine p_iconst (k := 37) 1 rfl (by decide) ?_
        refine p_isub (k := 38) rfl ?_
        refine p_goto (k := 39) 91 rfl (by decide) ?_
        refine p_msk [false, false, false] (L2 := [none, none, none]) rfl ?_
        exact sX5_climbsTo_L91 h
  rw [if_neg hx2] at h
  by_cases hx3 : v2 = 5
  · rw [if_pos hx3] at h
    refine p_tableIn (k := 9) (off := 79) 92 rfl (by rw [hx3]; decide) (by rw [hx3]; decide) (by rw [hx3]; decide) (by decide) ?_
    refine p_iload_n (k := 42) (i := 2) rfl rfl rfl ?_
    refine p_iconst (k := 43) 1 rfl (by decide) ?_
    refine p_iadd (k := 44) rfl ?_
    refine p_bipush (k := 45) 11 rfl (by decide) ?_
    obtain ⟨v6, S5, hcS5, h⟩ := cl_some h
    refine p_callS (k := 46) [.int (v1 + 1), .int 11] [] rfl (tX5_least hcS5) lc_X5_least ml_RX5_92 ms_X5_least (by decide) (by decide) (Nat.le_of_ble_eq_true rfl) rfl ?_
    exact s_iret h (k := 47) rfl rfl
  rw [if_neg hx3] at h
  have hz0 := toInt_ne hx0 (z := 2) (by decide)
  have hz1 := toInt_ne hx1 (z := 3) (by decide)
  have hz2 := toInt_ne hx2 (z := 4) (by decide)
  have hz3 := toInt_ne hx3 (z := 5) (by decide)
  refine p_tableOut (k := 9) 101 rfl (by omega) (by decide) ?_
  refine p_aload_n (k := 48) (i := 0) rfl rfl rfl ?_
  refine p_iload_n (k := 49) (i := 2) rfl rfl rfl ?_
  obtain ⟨v7, S6, hcS6, h⟩ := cl_some h
  refine p_callV (k := 50) [.int v1] [] rfl (tX5_greenest hcS6) lay_X5 rfl lc_X5_greenest ml_RX5_89 mi_X5_greenest mv_X5_greenest (by decide) (by decide) (Nat.le_of_ble_eq_true rfl) rfl ?_
  exact s_iret h (k := 51) rfl rfl
theorem tX5_climbsTo {a1 : Int32} {S : St} {r : Int32} {S9 : St} (h : fX5_climbsTo a1 S = some (r, S9)) : MR yX5_climbsTo cX5_climbsTo mX5_climbsTo [.ref 41, .int a1] S (some (.int r), S9) := MR.of (n := 1) okX5_climbsTo rfl rfl (sX5_climbsTo h)
-- of(II)I
def fX5_of_L20 (S : St) : Option (Int32 × St) :=
  cl (fX5_finds (-1000001) S) fun v1 S1 =>
  some (v1, S1)
theorem sX5_of_L20 {r : Int32} {S9 : St}  {S : St} (h : fX5_of_L20 S = some (r, S9)) : PW mX5_of (some (.int r), S9) 20 [some (.ref 41), none, none] [] S := by
  unfold fX5_of_L20 at h
  refine p_aload_n (k := 10) (i := 0) rfl rfl rfl ?_
  refine p_ldc (k := 11) rfl k_RX5_37 ?_
  obtain ⟨v1, S1, hcS1, h⟩ := cl_some h
  refine p_callV (k := 12) [.int (-1000001)] [] rfl (tX5_finds hcS1) lay_X5 rfl lc_X5_finds ml_RX5_39 mi_X5_finds mv_X5_finds (by decide) (by decide) (Nat.le_of_ble_eq_true rfl) rfl ?_
  exact s_iret h (k := 13) rfl rfl
def fX5_of (a1 : Int32) (a2 : Int32) (S : St) : Option (Int32 × St) :=
  cl (fX5_isGoat a1 S) fun v1 S1 =>
  if v1 = 0 then
    fX5_of_L20 S1
  else
    cl (fX5_isIn (Int32.toInt64 a2) 0 9 S1) fun v2 S2 =>
    if v2 = 0 then
      fX5_of_L20 S2
    else
      if a2 = 6 then
        cl (fX5_costs a1 S2) fun v3 S3 =>
        some (v3, S3)
      else
      if a2 = 7 then
        cl (fX5_grazes a1 S2) fun v4 S4 =>
        some (v4, S4)
      else
      if a2 = 8 then
        cl (fX5_climbsTo a1 S2) fun v5 S5 =>
        some (v5, S5)
      else
      if a2 = 9 then
        cl (fX5_quotes a1 S2) fun v6 S6 =>
        some (v6, S6)
      else
      cl (fX5_its a1 a2 S2) fun v7 S7 =>
      some (v7, S7)
theorem sX5_of {a1 : Int32} {a2 : Int32} {S : St} {r : Int32} {S9 : St} (h : fX5_of a1 a2 S = some (r, S9)) : PW mX5_of (some (.int r), S9) 0 [some (.ref 41), some (.int a1), some (.int a2)] [] S := by
  unfold fX5_of at h
  refine p_aload_n (k := 0) (i := 0) rfl rfl rfl ?_
  refine p_iload_n (k := 1) (i := 1) rfl rfl rfl ?_
  obtain ⟨v1, S1, hcS1, h⟩ := cl_some h
  refine p_callV (k := 2) [.int a1] [] rfl (tX5_isGoat hcS1) lay_X5 rfl lc_X5_isGoat ml_RX5_95 mi_X5_isGoat mv_X5_isGoat (by decide) (by decide) (Nat.le_of_ble_eq_true rfl) rfl ?_
  refine p_if_eq (k := 3) 20 rfl (by decide) (fun hc => ?_) (fun hc => ?_)
  · rw [if_pos hc] at h
    refine p_msk [true, false, false] (L2 := [some (.ref 41), none, none]) rfl ?_
    exact sX5_of_L20 h
  · rw [if_neg hc] at h
    refine p_iload_n (k := 4) (i := 2) rfl rfl rfl ?_
    refine p_i2l (k := 5) rfl ?_
    refine p_lconst (k := 6) 0 rfl (by decide) ?_
    refine p_ldc2 (k := 7) rfl k_RX5_98 ?_
    obtain ⟨v2, S2, hcS2, h⟩ := cl_some h
    refine p_callS (k := 8) [.long (Int32.toInt64 a2), .long 0, .long 9] [] rfl (tX5_isIn hcS2) lc_X5_isIn ml_RX5_49 ms_X5_isIn (by decide) (by decide) (Nat.le_of_ble_eq_true rfl) rfl ?_
    refine p_if_ne (k := 9) 27 rfl (by decide) (fun hc => ?_) (fun hc => ?_)
    · rw [if_neg hc] at h
      refine p_iload_n (k := 14) (i := 2) rfl rfl rfl ?_
      by_cases hx0 : a2 = 6
      · rw [if_pos hx0] at h
        refine p_tableIn (k := 15) (off := 32) 60 rfl (by rw [hx0]; decide) (by rw [hx0]; decide) (by rw [hx0]; decide) (by decide) ?_
        refine p_aload_n (k := 16) (i := 0) rfl rfl rfl ?_
        refine p_iload_n (k := 17) (i := 1) rfl rfl rfl ?_
        obtain ⟨v3, S3, hcS3, h⟩ := cl_some h
        refine p_callV (k := 18) [.int a1] [] rfl (tX5_costs hcS3) lay_X5 rfl lc_X5_costs ml_RX5_100 mi_X5_costs mv_X5_costs (by decide) (by decide) (Nat.le_of_ble_eq_true rfl) rfl ?_
        exact s_iret h (k := 19) rfl rfl
      rw [if_neg hx0] at h
      by_cases hx1 : a2 = 7
      · rw [if_pos hx1] at h
        refine p_tableIn (k := 15) (off := 38) 66 rfl (by rw [hx1]; decide) (by rw [hx1]; decide) (by rw [hx1]; decide) (by decide) ?_
        refine p_aload_n (k := 20) (i := 0) rfl rfl rfl ?_
        refine p_iload_n (k := 21) (i := 1) rfl rfl rfl ?_
        obtain ⟨v4, S4, hcS4, h⟩ := cl_some h
        refine p_callV (k := 22) [.int a1] [] rfl (tX5_grazes hcS4) lay_X5 rfl lc_X5_grazes ml_RX5_103 mi_X5_grazes mv_X5_grazes (by decide) (by decide) (Nat.le_of_ble_eq_true rfl) rfl ?_
        exact s_iret h (k := 23) rfl rfl
      rw [if_neg hx1] at h
      by_cases hx2 : a2 = 8
      · rw [if_pos hx2] at h
        refine p_tableIn (k := 15) (off := 44) 72 rfl (by rw [hx2]; decide) (by rw [hx2]; decide) (by rw [hx2]; decide) (by decide) ?_
        refine p_aload_n (k := 24) (i := 0) rfl rfl rfl ?_
        refine p_iload_n (k := 25) (i := 1) rfl rfl rfl ?_
        obtain ⟨v5, S5, hcS5, h⟩ := cl_some h
        refine p_callV (k := 26) [.int a1] [] rfl (tX5_climbsTo hcS5) lay_X5 rfl lc_X5_climbsTo ml_RX5_106 mi_X5_climbsTo mv_X5_climbsTo (by decide) (by decide) (Nat.le_of_ble_eq_true rfl) rfl ?_
        exact s_iret h (k := 27) rfl rfl
      rw [if_neg hx2] at h
      by_cases hx3 : a2 = 9
      · rw [if_pos hx3] at h
        refine p_tableIn (k := 15) (off := 50) 78 rfl (by rw [hx3]; decide) (by rw [hx3]; decide) (by rw [hx3]; decide) (by decide) ?_
        refine p_aload_n (k := 28) (i := 0) rfl rfl rfl ?_
        refine p_iload_n (k := 29) (i := 1) rfl rfl rfl ?_
        obtain ⟨v6, S6, hcS6, h⟩ := cl_some h
        refine p_callV (k := 30) [.int a1] [] rfl (tX5_quotes hcS6) lay_X5 rfl lc_X5_quotes ml_RX5_109 mi_X5_quotes mv_X5_quotes (by decide) (by decide) (Nat.le_of_ble_eq_true rfl) rfl ?_
        exact s_iret h (k := 31) rfl rfl
      rw [if_neg hx3] at h
      have hz0 := toInt_ne hx0 (z := 6) (by decide)
      have hz1 := toInt_ne hx1 (z := 7) (by decide)
      have hz2 := toInt_ne hx2 (z := 8) (by decide)
      have hz3 := toInt_ne hx3 (z := 9) (by decide)
      refine p_tableOut (k := 15) 84 rfl (by omega) (by decide) ?_
      refine p_aload_n (k := 32) (i := 0) rfl rfl rfl ?_
      refine p_iload_n (k := 33) (i := 1) rfl rfl rfl ?_
      refine p_iload_n (k := 34) (i := 2) rfl rfl rfl ?_
      obtain ⟨v7, S7, hcS7, h⟩ := cl_some h
      refine p_callV (k := 35) [.int a1, .int a2] [] rfl (tX5_its hcS7) lay_X5 rfl lc_X5_its ml_RX5_57 mi_X5_its mv_X5_its (by decide) (by decide) (Nat.le_of_ble_eq_true rfl) rfl ?_
      exact s_iret h (k := 36) rfl rfl
    · rw [if_pos hc] at h
      refine p_msk [true, false, false] (L2 := [some (.ref 41), none, none]) rfl ?_
      exact sX5_of_L20 h
theorem tX5_of {a1 : Int32} {a2 : Int32} {S : St} {r : Int32} {S9 : St} (h : fX5_of a1 a2 S = some (r, S9)) : MR yX5_of cX5_of mX5_of [.ref 41, .int a1, .int a2] S (some (.int r), S9) := MR.of (n := 0) okX5_of rfl rfl (sX5_of h)
-- greatestOf(I)I
def fX5_greatestOf_L48 (S : St) : Option (Int32 × St) :=
  some (9999, S)
theorem sX5_greatestOf_L48 {r : Int32} {S9 : St}  {S : St} (h : fX5_greatestOf_L48 S = some (r, S9)) : PW mX5_greatestOf (some (.int r), S9) 48 [none] [] S := by
  unfold fX5_greatestOf_L48 at h
  refine p_sipush (k := 10) 9999 rfl (by decide) ?_
  exact s_iret h (k := 11) rfl rfl
def fX5_greatestOf (a1 : Int32) (S : St) : Option (Int32 × St) :=
  if a1 = 0 then
    some (6, S)
  else
  if a1 = 1 then
    some (11, S)
  else
  if a1 = 2 then
    some (65535, S)
  else
  if a1 = 3 then
    fX5_greatestOf_L48 S
  else
  if a1 = 4 then
    some (99, S)
  else
  fX5_greatestOf_L48 S
theorem sX5_greatestOf {a1 : Int32} {S : St} {r : Int32} {S9 : St} (h : fX5_greatestOf a1 S = some (r, S9)) : PW mX5_greatestOf (some (.int r), S9) 0 [some (.int a1)] [] S := by
  unfold fX5_greatestOf at h
  refine p_iload_n (k := 0) (i := 0) rfl rfl rfl ?_
  by_cases hx0 : a1 = 0
  · rw [if_pos hx0] at h
    refine p_tableIn (k := 1) (off := 35) 36 rfl (by rw [hx0]; decide) (by rw [hx0]; decide) (by rw [hx0]; decide) (by decide) ?_
    refine p_bipush (k := 2) 6 rfl (by decide) ?_
    exact s_iret h (k := 3) rfl rfl
  rw [if_neg hx0] at h
  by_cases hx1 : a1 = 1
  · rw [if_pos hx1] at h
    refine p_tableIn (k := 1) (off := 38) 39 rfl (by rw [hx1]; decide) (by rw [hx1]; decide) (by rw [hx1]; decide) (by decide) ?_
    refine p_bipush (k := 4) 11 rfl (by decide) ?_
    exact s_iret h (k := 5) rfl rfl
  rw [if_neg hx1] at h
  by_cases hx2 : a1 = 2
  · rw [if_pos hx2] at h
    refine p_tableIn (k := 1) (off := 41) 42 rfl (by rw [hx2]; decide) (by rw [hx2]; decide) (by rw [hx2]; decide) (by decide) ?_
    refine p_ldc (k := 6) rfl k_RX5_112 ?_
    exact s_iret h (k := 7) rfl rfl
  rw [if_neg hx2] at h
  by_cases hx3 : a1 = 3
  · rw [if_pos hx3] at h
    refine p_tableIn (k := 1) (off := 47) 48 rfl (by rw [hx3]; decide) (by rw [hx3]; decide) (by rw [hx3]; decide) (by decide) ?_
    refine p_msk [false] (L2 := [none]) rfl ?_
    exact sX5_greatestOf_L48 h
  rw [if_neg hx3] at h
  by_cases hx4 : a1 = 4
  · rw [if_pos hx4] at h
    refine p_tableIn (k := 1) (off := 44) 45 rfl (by rw [hx4]; decide) (by rw [hx4]; decide) (by rw [hx4]; decide) (by decide) ?_
    refine p_bipush (k := 8) 99 rfl (by decide) ?_
    exact s_iret h (k := 9) rfl rfl
  rw [if_neg hx4] at h
  have hz0 := toInt_ne hx0 (z := 0) (by decide)
  have hz1 := toInt_ne hx1 (z := 1) (by decide)
  have hz2 := toInt_ne hx2 (z := 2) (by decide)
  have hz3 := toInt_ne hx3 (z := 3) (by decide)
  have hz4 := toInt_ne hx4 (z := 4) (by decide)
  refine p_tableOut (k := 1) 48 rfl (by omega) (by decide) ?_
  refine p_msk [false] (L2 := [none]) rfl ?_
  exact sX5_greatestOf_L48 h
theorem tX5_greatestOf {a1 : Int32} {S : St} {r : Int32} {S9 : St} (h : fX5_greatestOf a1 S = some (r, S9)) : MR yX5_greatestOf cX5_greatestOf mX5_greatestOf [.int a1] S (some (.int r), S9) := MR.of (n := 0) okX5_greatestOf rfl rfl (sX5_greatestOf h)
-- change(III)I
def fX5_change_L65 (y0 : Int32) (S : St) : Option (Int32 × St) :=
  some (y0, S)
theorem sX5_change_L65 {r : Int32} {S9 : St} {y0 : Int32} {S : St} (h : fX5_change_L65 y0 S = some (r, S9)) : PW mX5_change (some (.int r), S9) 65 [none, none, none, none, none] [.int y0] S := by
  unfold fX5_change_L65 at h
  exact s_iret h (k := 34) rfl rfl
def fX5_change_L39 (x1 : Int32) (x2 : Int32) (x3 : Int32) (y0 : Int32) (S : St) : Option (Int32 × St) :=
  if y0 = 0 then
    cl (fX5_finds (-1000001) S) fun v1 S1 =>
    fX5_change_L65 v1 S1
  else
    cl (fX5_at x1 x2 S) fun v2 S2 =>
    cl (fX5_becomes v2 x3 S2) fun v3 S3 =>
    fX5_change_L65 v3 S3
theorem sX5_change_L39 {r : Int32} {S9 : St} {x1 : Int32} {x2 : Int32} {x3 : Int32} {y0 : Int32} {S : St} (h : fX5_change_L39 x1 x2 x3 y0 S = some (r, S9)) : PW mX5_change (some (.int r), S9) 39 [some (.ref 41), some (.int x1), some (.int x2), some (.int x3), none] [.int y0] S := by
  unfold fX5_change_L39 at h
  refine p_istore (k := 21) [some (.ref 41), some (.int x1), some (.int x2), some (.int x3), some (.int y0)] rfl rfl (by decide) rfl ?_
  refine p_iload (k := 22) rfl rfl ?_
  refine p_if_eq (k := 23) 59 rfl (by decide) (fun hc => ?_) (fun hc => ?_)
  · rw [if_pos hc] at h
    refine p_aload_n (k := 31) (i := 0) rfl rfl rfl ?_
    refine p_ldc (k := 32) rfl k_RX5_37 ?_
    obtain ⟨v1, S1, hcS1, h⟩ := cl_some h
    refine p_callV (k := 33) [.int (-1000001)] [] rfl (tX5_finds hcS1) lay_X5 rfl lc_X5_finds ml_RX5_39 mi_X5_finds mv_X5_finds (by decide) (by decide) (Nat.le_of_ble_eq_true rfl) rfl ?_
    refine p_msk [false, false, false, false, false] (L2 := [none, none, none, none, none]) rfl ?_
    exact sX5_change_L65 h
  · rw [if_neg hc] at h
    refine p_aload_n (k := 24) (i := 0) rfl rfl rfl ?_
    refine p_iload_n (k := 25) (i := 1) rfl rfl rfl ?_
    refine p_iload_n (k := 26) (i := 2) rfl rfl rfl ?_
    obtain ⟨v2, S2, hcS2, h⟩ := cl_some h
    refine p_callS (k := 27) [.int x1, .int x2] [.ref 41] rfl (tX5_at hcS2) lc_X5_at ml_RX5_72 ms_X5_at (by decide) (by decide) (Nat.le_of_ble_eq_true rfl) rfl ?_
    refine p_iload_n (k := 28) (i := 3) rfl rfl rfl ?_
    obtain ⟨v3, S3, hcS3, h⟩ := cl_some h
    refine p_callV (k := 29) [.int v2, .int x3] [] rfl (tX5_becomes hcS3) lay_X5 rfl lc_X5_becomes ml_RX5_53 mi_X5_becomes mv_X5_becomes (by decide) (by decide) (Nat.le_of_ble_eq_true rfl) rfl ?_
    refine p_goto (k := 30) 65 rfl (by decide) ?_
    refine p_msk [false, false, false, false, false] (L2 := [none, none, none, none, none]) rfl ?_
    exact sX5_change_L65 h
def fX5_change_L38 (x1 : Int32) (x2 : Int32) (x3 : Int32) (S : St) : Option (Int32 × St) :=
  fX5_change_L39 x1 x2 x3 0 S
theorem sX5_change_L38 {r : Int32} {S9 : St} {x1 : Int32} {x2 : Int32} {x3 : Int32} {S : St} (h : fX5_change_L38 x1 x2 x3 S = some (r, S9)) : PW mX5_change (some (.int r), S9) 38 [some (.ref 41), some (.int x1), some (.int x2), some (.int x3), none] [] S := by
  unfold fX5_change_L38 at h
  refine p_iconst (k := 20) 0 rfl (by decide) ?_
  refine p_msk [true, true, true, true, false] (L2 := [some (.ref 41), some (.int x1), some (.int x2), some (.int x3), none]) rfl ?_
  exact sX5_change_L39 h
def fX5_change (a1 : Int32) (a2 : Int32) (a3 : Int32) (S : St) : Option (Int32 × St) :=
  cl (fX5_isGoat a1 S) fun v1 S1 =>
  if v1 = 0 then
    fX5_change_L38 a1 a2 a3 S1
  else
    cl (fX5_isIn (Int32.toInt64 a2) 0 5 S1) fun v2 S2 =>
    if v2 = 0 then
      fX5_change_L38 a1 a2 a3 S2
    else
      cl (fX5_greatestOf a2 S2) fun v3 S3 =>
      cl (fX5_isIn (Int32.toInt64 a3) 0 (Int32.toInt64 v3) S3) fun v4 S4 =>
      if v4 = 0 then
        fX5_change_L38 a1 a2 a3 S4
      else
        fX5_change_L39 a1 a2 a3 1 S4
theorem sX5_change {a1 : Int32} {a2 : Int32} {a3 : Int32} {S : St} {r : Int32} {S9 : St} (h : fX5_change a1 a2 a3 S = some (r, S9)) : PW mX5_change (some (.int r), S9) 0 [some (.ref 41), some (.int a1), some (.int a2), some (.int a3), none] [] S := by
  unfold fX5_change at h
  refine p_aload_n (k := 0) (i := 0) rfl rfl rfl ?_
  refine p_iload_n (k := 1) (i := 1) rfl rfl rfl ?_
  obtain ⟨v1, S1, hcS1, h⟩ := cl_some h
  refine p_callV (k := 2) [.int a1] [] rfl (tX5_isGoat hcS1) lay_X5 rfl lc_X5_isGoat ml_RX5_95 mi_X5_isGoat mv_X5_isGoat (by decide) (by decide) (Nat.le_of_ble_eq_true rfl) rfl ?_
  refine p_if_eq (k := 3) 38 rfl (by decide) (fun hc => ?_) (fun hc => ?_)
  · rw [if_pos hc] at h
    refine p_msk [true, true, true, true, false] (L2 := [some (.ref 41), some (.int a1), some (.int a2), some (.int a3), none]) rfl ?_
    exact sX5_change_L38 h
  · rw [if_neg hc] at h
    refine p_iload_n (k := 4) (i := 2) rfl rfl rfl ?_
    refine p_i2l (k := 5) rfl ?_
    refine p_lconst (k := 6) 0 rfl (by decide) ?_
    refine p_ldc2 (k := 7) rfl k_RX5_113 ?_
    obtain ⟨v2, S2, hcS2, h⟩ := cl_some h
    refine p_callS (k := 8) [.long (Int32.toInt64 a2), .long 0, .long 5] [] rfl (tX5_isIn hcS2) lc_X5_isIn ml_RX5_49 ms_X5_isIn (by decide) (by decide) (Nat.le_of_ble_eq_true rfl) rfl ?_
    refine p_if_eq (k := 9) 38 rfl (by decide) (fun hc => ?_) (fun hc => ?_)
    · rw [if_pos hc] at h
      refine p_msk [true, true, true, true, false] (L2 := [some (.ref 41), some (.int a1), some (.int a2), some (.int a3), none]) rfl ?_
      exact sX5_change_L38 h
    · rw [if_neg hc] at h
      refine p_iload_n (k := 10) (i := 3) rfl rfl rfl ?_
      refine p_i2l (k := 11) rfl ?_
      refine p_lconst (k := 12) 0 rfl (by decide) ?_
      refine p_iload_n (k := 13) (i := 2) rfl rfl rfl ?_
      obtain ⟨v3, S3, hcS3, h⟩ := cl_some h
      refine p_callS (k := 14) [.int a2] [.long 0, .long (Int32.toInt64 a3)] rfl (tX5_greatestOf hcS3) lc_X5_greatestOf ml_RX5_115 ms_X5_greatestOf (by decide) (by decide) (Nat.le_of_ble_eq_true rfl) rfl ?_
      refine p_i2l (k := 15) rfl ?_
      obtain ⟨v4, S4, hcS4, h⟩ := cl_some h
      refine p_callS (k := 16) [.long (Int32.toInt64 a3), .long 0, .long (Int32.toInt64 v3)] [] rfl (tX5_isIn hcS4) lc_X5_isIn ml_RX5_49 ms_X5_isIn (by decide) (by decide) (Nat.le_of_ble_eq_true rfl) rfl ?_
      refine p_if_eq (k := 17) 38 rfl (by decide) (fun hc => ?_) (fun hc => ?_)
      · rw [if_pos hc] at h
        refine p_msk [true, true, true, true, false] (L2 := [some (.ref 41), some (.int a1), some (.int a2), some (.int a3), none]) rfl ?_
        exact sX5_change_L38 h
      · rw [if_neg hc] at h
        refine p_iconst (k := 18) 1 rfl (by decide) ?_
        refine p_goto (k := 19) 39 rfl (by decide) ?_
        refine p_msk [true, true, true, true, false] (L2 := [some (.ref 41), some (.int a1), some (.int a2), some (.int a3), none]) rfl ?_
        exact sX5_change_L39 h
theorem tX5_change {a1 : Int32} {a2 : Int32} {a3 : Int32} {S : St} {r : Int32} {S9 : St} (h : fX5_change a1 a2 a3 S = some (r, S9)) : MR yX5_change cX5_change mX5_change [.ref 41, .int a1, .int a2, .int a3] S (some (.int r), S9) := MR.of (n := 1) okX5_change rfl rfl (sX5_change h)
-- birth(I)I
def fX5_birth (a1 : Int32) (S : St) : Option (Int32 × St) :=
  cl (fX5_isGoat a1 S) fun v1 S1 =>
  if v1 = 0 then
    cl (fX5_finds (-1000001) S1) fun v8 S6 =>
    some (v8, S6)
  else
    rd S1 42 75 0 fun v2 =>
    if v2 = 8 then
      cl (fX5_finds (-1000002) S1) fun v7 S5 =>
      some (v7, S5)
    else
      cl (fX5_its a1 2 S1) fun v3 S2 =>
      bnd (v3 &&& 255) fun v4 =>
      cl (fX5_its a1 1 S2) fun v5 S3 =>
      cl (fX5_comes 6 v5 (v4 &&& (v4 - 1)) S3) fun _ S4 =>
      rd S4 42 75 0 fun v6 =>
      some (v6 - 1, S4)
theorem sX5_birth {a1 : Int32} {S : St} {r : Int32} {S9 : St} (h : fX5_birth a1 S = some (r, S9)) : PW mX5_birth (some (.int r), S9) 0 [some (.ref 41), some (.int a1), none] [] S := by
  unfold fX5_birth at h
  refine p_aload_n (k := 0) (i := 0) rfl rfl rfl ?_
  refine p_iload_n (k := 1) (i := 1) rfl rfl rfl ?_
  obtain ⟨v1, S1, hcS1, h⟩ := cl_some h
  refine p_callV (k := 2) [.int a1] [] rfl (tX5_isGoat hcS1) lay_X5 rfl lc_X5_isGoat ml_RX5_95 mi_X5_isGoat mv_X5_isGoat (by decide) (by decide) (Nat.le_of_ble_eq_true rfl) rfl ?_
  refine p_if_ne (k := 3) 15 rfl (by decide) (fun hc => ?_) (fun hc => ?_)
  · rw [if_neg hc] at h
    refine p_aload_n (k := 8) (i := 0) rfl rfl rfl ?_
    refine p_getr (k := 9) rfl lay_X5 rfl fl_RX5_7 ?_
    refine p_iconst (k := 10) 0 rfl (by decide) ?_
    refine s_rd h (k := 11) rfl lay_42 (fun v2 h => ?_)
    refine p_bipush (k := 12) 8 rfl (by decide) ?_
    refine p_icmp_ne (k := 13) 33 rfl (by decide) (fun hc => ?_) (fun hc => ?_)
    · rw [if_neg hc] at h
      refine p_aload_n (k := 18) (i := 0) rfl rfl rfl ?_
      refine p_iload_n (k := 19) (i := 1) rfl rfl rfl ?_
      refine p_iconst (k := 20) 2 rfl (by decide) ?_
      obtain ⟨v3, S2, hcS2, h⟩ := cl_some h
      refine p_callV (k := 21) [.int a1, .int 2] [] rfl (tX5_its hcS2) lay_X5 rfl lc_X5_its ml_RX5_57 mi_X5_its mv_X5_its (by decide) (by decide) (Nat.le_of_ble_eq_true rfl) rfl ?_
      refine p_sipush (k := 22) 255 rfl (by decide) ?_
      refine p_iand (k := 23) rfl ?_
      refine s_bnd h (fun v4 h => ?_)
      refine p_istore_n (k := 24) 2 [some (.ref 41), some (.int a1), some (.int v4)] rfl rfl rfl (by decide) rfl ?_
      refine p_aload_n (k := 25) (i := 0) rfl rfl rfl ?_
      refine p_bipush (k := 26) 6 rfl (by decide) ?_
      refine p_aload_n (k := 27) (i := 0) rfl rfl rfl ?_
      refine p_iload_n (k := 28) (i := 1) rfl rfl rfl ?_
      refine p_iconst (k := 29) 1 rfl (by decide) ?_
      obtain ⟨v5, S3, hcS3, h⟩ := cl_some h
      refine p_callV (k := 30) [.int a1, .int 1] [.int 6, .ref 41] rfl (tX5_its hcS3) lay_X5 rfl lc_X5_its ml_RX5_57 mi_X5_its mv_X5_its (by decide) (by decide) (Nat.le_of_ble_eq_true rfl) rfl ?_
      refine p_iload_n (k := 31) (i := 2) rfl rfl rfl ?_
      refine p_iload_n (k := 32) (i := 2) rfl rfl rfl ?_
      refine p_iconst (k := 33) 1 rfl (by decide) ?_
      refine p_isub (k := 34) rfl ?_
      refine p_iand (k := 35) rfl ?_
      obtain ⟨_, S4, hcS4, h⟩ := cl_some h
      refine p_callV (k := 36) [.int 6, .int v5, .int (v4 &&& (v4 - 1))] [] rfl (tX5_comes hcS4) lay_X5 rfl lc_X5_comes ml_RX5_78 mi_X5_comes mv_X5_comes (by decide) (by decide) (Nat.le_of_ble_eq_true rfl) rfl ?_
      refine p_aload_n (k := 37) (i := 0) rfl rfl rfl ?_
      refine p_getr (k := 38) rfl lay_X5 rfl fl_RX5_7 ?_
      refine p_iconst (k := 39) 0 rfl (by decide) ?_
      refine s_rd h (k := 40) rfl lay_42 (fun v6 h => ?_)
      refine p_iconst (k := 41) 1 rfl (by decide) ?_
      refine p_isub (k := 42) rfl ?_
      exact s_iret h (k := 43) rfl rfl
    · rw [if_pos hc] at h
      refine p_aload_n (k := 14) (i := 0) rfl rfl rfl ?_
      refine p_ldc (k := 15) rfl k_RX5_77 ?_
      obtain ⟨v7, S5, hcS5, h⟩ := cl_some h
      refine p_callV (k := 16) [.int (-1000002)] [] rfl (tX5_finds hcS5) lay_X5 rfl lc_X5_finds ml_RX5_39 mi_X5_finds mv_X5_finds (by decide) (by decide) (Nat.le_of_ble_eq_true rfl) rfl ?_
      exact s_iret h (k := 17) rfl rfl
  · rw [if_pos hc] at h
    refine p_aload_n (k := 4) (i := 0) rfl rfl rfl ?_
    refine p_ldc (k := 5) rfl k_RX5_37 ?_
    obtain ⟨v8, S6, hcS6, h⟩ := cl_some h
    refine p_callV (k := 6) [.int (-1000001)] [] rfl (tX5_finds hcS6) lay_X5 rfl lc_X5_finds ml_RX5_39 mi_X5_finds mv_X5_finds (by decide) (by decide) (Nat.le_of_ble_eq_true rfl) rfl ?_
    exact s_iret h (k := 7) rfl rfl
theorem tX5_birth {a1 : Int32} {S : St} {r : Int32} {S9 : St} (h : fX5_birth a1 S = some (r, S9)) : MR yX5_birth cX5_birth mX5_birth [.ref 41, .int a1] S (some (.int r), S9) := MR.of (n := 1) okX5_birth rfl rfl (sX5_birth h)
-- cheapest(I)I
def fX5_cheapest_L61 (k4 : Int32 → Int32 → Int32 → St → Option (Int32 × St)) (x1 : Int32) (x3 : Int32) (y0 : Int32) (S : St) : Option (Int32 × St) :=
  bnd (x3 + 1) fun v1 =>
  k4 x1 y0 v1 S
theorem sX5_cheapest_L61 {r : Int32} {S9 : St} {k4 : Int32 → Int32 → Int32 → St → Option (Int32 × St)} (hk4 : ∀ x1 x2 x3 S, k4 x1 x2 x3 S = some (r, S9) → PW mX5_cheapest (some (.int r), S9) 4 [some (.ref 41), some (.int x1), some (.int x2), some (.int x3), none] [] S) {x1 : Int32} {x3 : Int32} {y0 : Int32} {S : St} (h : fX5_cheapest_L61 k4 x1 x3 y0 S = some (r, S9)) : PW mX5_cheapest (some (.int r), S9) 61 [some (.ref 41), some (.int x1), none, some (.int x3), none] [.int y0] S := by
  unfold fX5_cheapest_L61 at h
  refine p_istore_n (k := 37) 2 [some (.ref 41), some (.int x1), some (.int y0), some (.int x3), none] rfl rfl rfl (by decide) rfl ?_
  obtain ⟨v1, ev1, h⟩ := bnd_ex h
  refine p_iinc (k := 38) v1 [some (.ref 41), some (.int x1), some (.int y0), some (.int v1), none] rfl rfl (by rw [← ev1]; rfl) rfl (by decide) rfl ?_
  refine p_goto (k := 39) 4 rfl (by decide) ?_
  refine p_msk [true, true, true, true, false] (L2 := [some (.ref 41), some (.int x1), some (.int y0), some (.int v1), none]) rfl ?_
  exact hk4 _ _ _ _ h
def fX5_cheapest_L56 (k4 : Int32 → Int32 → Int32 → St → Option (Int32 × St)) (x1 : Int32) (x3 : Int32) (S : St) : Option (Int32 × St) :=
  fX5_cheapest_L61 k4 x1 x3 x3 S
theorem sX5_cheapest_L56 {r : Int32} {S9 : St} {k4 : Int32 → Int32 → Int32 → St → Option (Int32 × St)} (hk4 : ∀ x1 x2 x3 S, k4 x1 x2 x3 S = some (r, S9) → PW mX5_cheapest (some (.int r), S9) 4 [some (.ref 41), some (.int x1), some (.int x2), some (.int x3), none] [] S) {x1 : Int32} {x3 : Int32} {S : St} (h : fX5_cheapest_L56 k4 x1 x3 S = some (r, S9)) : PW mX5_cheapest (some (.int r), S9) 56 [some (.ref 41), some (.int x1), none, some (.int x3), none] [] S := by
  unfold fX5_cheapest_L56 at h
  refine p_iload_n (k := 34) (i := 3) rfl rfl rfl ?_
  refine p_goto (k := 35) 61 rfl (by decide) ?_
  refine p_msk [true, true, false, true, false] (L2 := [some (.ref 41), some (.int x1), none, some (.int x3), none]) rfl ?_
  exact sX5_cheapest_L61 hk4 h
def fX5_cheapest_L60 (k4 : Int32 → Int32 → Int32 → St → Option (Int32 × St)) (x1 : Int32) (x2 : Int32) (x3 : Int32) (S : St) : Option (Int32 × St) :=
  fX5_cheapest_L61 k4 x1 x3 x2 S
theorem sX5_cheapest_L60 {r : Int32} {S9 : St} {k4 : Int32 → Int32 → Int32 → St → Option (Int32 × St)} (hk4 : ∀ x1 x2 x3 S, k4 x1 x2 x3 S = some (r, S9) → PW mX5_cheapest (some (.int r), S9) 4 [some (.ref 41), some (.int x1), some (.int x2), some (.int x3), none] [] S) {x1 : Int32} {x2 : Int32} {x3 : Int32} {S : St} (h : fX5_cheapest_L60 k4 x1 x2 x3 S = some (r, S9)) : PW mX5_cheapest (some (.int r), S9) 60 [some (.ref 41), some (.int x1), some (.int x2), some (.int x3), none] [] S := by
  unfold fX5_cheapest_L60 at h
  refine p_iload_n (k := 36) (i := 2) rfl rfl rfl ?_
  refine p_msk [true, true, false, true, false] (L2 := [some (.ref 41), some (.int x1), none, some (.int x3), none]) rfl ?_
  exact sX5_cheapest_L61 hk4 h
def fX5_cheapest_L32 (k4 : Int32 → Int32 → Int32 → St → Option (Int32 × St)) (x1 : Int32) (x2 : Int32) (x3 : Int32) (y0 : Int32) (S : St) : Option (Int32 × St) :=
  if y0 = 0 then
    fX5_cheapest_L60 k4 x1 x2 x3 S
  else
    if x2 < 0 then
      fX5_cheapest_L56 k4 x1 x3 S
    else
      cl (fX5_costs x3 S) fun v1 S1 =>
      cl (fX5_costs x2 S1) fun v2 S2 =>
      if v2 ≤ v1 then
        fX5_cheapest_L60 k4 x1 x2 x3 S2
      else
        fX5_cheapest_L56 k4 x1 x3 S2
theorem sX5_cheapest_L32 {r : Int32} {S9 : St} {k4 : Int32 → Int32 → Int32 → St → Option (Int32 × St)} (hk4 : ∀ x1 x2 x3 S, k4 x1 x2 x3 S = some (r, S9) → PW mX5_cheapest (some (.int r), S9) 4 [some (.ref 41), some (.int x1), some (.int x2), some (.int x3), none] [] S) {x1 : Int32} {x2 : Int32} {x3 : Int32} {y0 : Int32} {S : St} (h : fX5_cheapest_L32 k4 x1 x2 x3 y0 S = some (r, S9)) : PW mX5_cheapest (some (.int r), S9) 32 [some (.ref 41), some (.int x1), some (.int x2), some (.int x3), none] [.int y0] S := by
  unfold fX5_cheapest_L32 at h
  refine p_istore (k := 22) [some (.ref 41), some (.int x1), some (.int x2), some (.int x3), some (.int y0)] rfl rfl (by decide) rfl ?_
  refine p_iload (k := 23) rfl rfl ?_
  refine p_if_eq (k := 24) 60 rfl (by decide) (fun hc => ?_) (fun hc => ?_)
  · rw [if_pos hc] at h
    refine p_msk [true, true, true, true, false] (L2 := [some (.ref 41), some (.int x1), some (.int x2), some (.int x3), none]) rfl ?_
    exact sX5_cheapest_L60 hk4 h
  · rw [if_neg hc] at h
    refine p_iload_n (k := 25) (i := 2) rfl rfl rfl ?_
    refine p_if_lt (k := 26) 56 rfl (by decide) (fun hc => ?_) (fun hc => ?_)
    · rw [if_pos hc] at h
      refine p_msk [true, true, false, true, false] (L2 := [some (.ref 41), some (.int x1), none, some (.int x3), none]) rfl ?_
      exact sX5_cheapest_L56 hk4 h
    · rw [if_neg hc] at h
      refine p_aload_n (k := 27) (i := 0) rfl rfl rfl ?_
      refine p_iload_n (k := 28) (i := 3) rfl rfl rfl ?_
      obtain ⟨v1, S1, hcS1, h⟩ := cl_some h
      refine p_callV (k := 29) [.int x3] [] rfl (tX5_costs hcS1) lay_X5 rfl lc_X5_costs ml_RX5_100 mi_X5_costs mv_X5_costs (by decide) (by decide) (Nat.le_of_ble_eq_true rfl) rfl ?_
      refine p_aload_n (k := 30) (i := 0) rfl rfl rfl ?_
      refine p_iload_n (k := 31) (i := 2) rfl rfl rfl ?_
      obtain ⟨v2, S2, hcS2, h⟩ := cl_some h
      refine p_callV (k := 32) [.int x2] [.int v1] rfl (tX5_costs hcS2) lay_X5 rfl lc_X5_costs ml_RX5_100 mi_X5_costs mv_X5_costs (by decide) (by decide) (Nat.le_of_ble_eq_true rfl) rfl ?_
      refine p_icmp_ge (k := 33) 60 rfl (by decide) (fun hc => ?_) (fun hc => ?_)
      · rw [if_pos hc] at h
        refine p_msk [true, true, true, true, false] (L2 := [some (.ref 41), some (.int x1), some (.int x2), some (.int x3), none]) rfl ?_
        exact sX5_cheapest_L60 hk4 h
      · rw [if_neg hc] at h
        refine p_msk [true, true, false, true, false] (L2 := [some (.ref 41), some (.int x1), none, some (.int x3), none]) rfl ?_
        exact sX5_cheapest_L56 hk4 h
def fX5_cheapest_L4 : Nat → Int32 → Int32 → Int32 → St → Option (Int32 × St)
  | 0 => fun _ _ _ _ => none
  | n + 1 => fun x1 x2 x3 S =>
    rd S 42 75 0 fun v1 =>
    if v1 ≤ x3 then
      some (x2, S)
    else
      cl (fX5_quotes x3 S) fun v2 S1 =>
      if ((v2 >>> (x1 &&& 31)) &&& 1) = 1 then
        fX5_cheapest_L32 (fun x1 x2 x3 S => fX5_cheapest_L4 n x1 x2 x3 S) x1 x2 x3 1 S1
      else
        fX5_cheapest_L32 (fun x1 x2 x3 S => fX5_cheapest_L4 n x1 x2 x3 S) x1 x2 x3 0 S1
theorem sX5_cheapest_L4 {r : Int32} {S9 : St} : ∀ (n : Nat) (x1 : Int32) (x2 : Int32) (x3 : Int32) (S : St), fX5_cheapest_L4 n x1 x2 x3 S = some (r, S9) → PW mX5_cheapest (some (.int r), S9) 4 [some (.ref 41), some (.int x1), some (.int x2), some (.int x3), none] [] S := by
  intro n
  induction n with
  | zero => intro x1 x2 x3 S h; cases h
  | succ n ih =>
    intro x1 x2 x3 S h
    unfold fX5_cheapest_L4 at h
    refine p_iload_n (k := 4) (i := 3) rfl rfl rfl ?_
    refine p_aload_n (k := 5) (i := 0) rfl rfl rfl ?_
    refine p_getr (k := 6) rfl lay_X5 rfl fl_RX5_7 ?_
    refine p_iconst (k := 7) 0 rfl (by decide) ?_
    refine s_rd h (k := 8) rfl lay_42 (fun v1 h => ?_)
    refine p_icmp_ge (k := 9) 68 rfl (by decide) (fun hc => ?_) (fun hc => ?_)
    · rw [if_pos hc] at h
      refine p_iload_n (k := 40) (i := 2) rfl rfl rfl ?_
      exact s_iret h (k := 41) rfl rfl
    · rw [if_neg hc] at h
      refine p_aload_n (k := 10) (i := 0) rfl rfl rfl ?_
      refine p_iload_n (k := 11) (i := 3) rfl rfl rfl ?_
      obtain ⟨v2, S1, hcS1, h⟩ := cl_some h
      refine p_callV (k := 12) [.int x3] [] rfl (tX5_quotes hcS1) lay_X5 rfl lc_X5_quotes ml_RX5_109 mi_X5_quotes mv_X5_quotes (by decide) (by decide) (Nat.le_of_ble_eq_true rfl) rfl ?_
      refine p_iload_n (k := 13) (i := 1) rfl rfl rfl ?_
      refine p_ishr (k := 14) rfl ?_
      refine p_iconst (k := 15) 1 rfl (by decide) ?_
      refine p_iand (k := 16) rfl ?_
      refine p_iconst (k := 17) 1 rfl (by decide) ?_
      refine p_icmp_ne (k := 18) 31 rfl (by decide) (fun hc => ?_) (fun hc => ?_)
      · rw [if_neg hc] at h
        refine p_iconst (k := 21) 0 rfl (by decide) ?_
        refine p_msk [true, true, true, true, false] (L2 := [some (.ref 41), some (.int x1), some (.int x2), some (.int x3), none]) rfl ?_
        exact sX5_cheapest_L32 ih h
      · rw [if_pos hc] at h
        refine p_iconst (k := 19) 1 rfl (by decide) ?_
        refine p_goto (k := 20) 32 rfl (by decide) ?_
        refine p_msk [true, true, true, true, false] (L2 := [some (.ref 41), some (.int x1), some (.int x2), some (.int x3), none]) rfl ?_
        exact sX5_cheapest_L32 ih h
def fX5_cheapest (a1 : Int32) (S : St) : Option (Int32 × St) :=
  fX5_cheapest_L4 FU a1 (-1) 0 S
theorem sX5_cheapest {a1 : Int32} {S : St} {r : Int32} {S9 : St} (h : fX5_cheapest a1 S = some (r, S9)) : PW mX5_cheapest (some (.int r), S9) 0 [some (.ref 41), some (.int a1), none, none, none] [] S := by
  unfold fX5_cheapest at h
  refine p_iconst (k := 0) (-1) rfl (by decide) ?_
  refine p_istore_n (k := 1) 2 [some (.ref 41), some (.int a1), some (.int (-1)), none, none] rfl rfl rfl (by decide) rfl ?_
  refine p_iconst (k := 2) 0 rfl (by decide) ?_
  refine p_istore_n (k := 3) 3 [some (.ref 41), some (.int a1), some (.int (-1)), some (.int 0), none] rfl rfl rfl (by decide) rfl ?_
  refine p_msk [true, true, true, true, false] (L2 := [some (.ref 41), some (.int a1), some (.int (-1)), some (.int 0), none]) rfl ?_
  exact sX5_cheapest_L4 _ _ _ _ _ h
theorem tX5_cheapest {a1 : Int32} {S : St} {r : Int32} {S9 : St} (h : fX5_cheapest a1 S = some (r, S9)) : MR yX5_cheapest cX5_cheapest mX5_cheapest [.ref 41, .int a1] S (some (.int r), S9) := MR.of (n := 3) okX5_cheapest rfl rfl (sX5_cheapest h)
-- ask(I)I
def fX5_ask (a1 : Int32) (S : St) : Option (Int32 × St) :=
  cl (fX5_isPage a1 S) fun v1 S1 =>
  if v1 = 0 then
    cl (fX5_finds (-1000001) S1) fun v12 S12 =>
    some (v12, S12)
  else
    cl (fX5_cheapest a1 S1) fun v2 S2 =>
    if 0 ≤ v2 then
      rd S2 42 75 4 fun v3 =>
      cl (fX5_costs v2 S2) fun v4 S3 =>
      if v4 ≤ v3 then
        rd S3 42 75 4 fun v5 =>
        cl (fX5_costs v2 S3) fun v6 S4 =>
        wr S4 42 75 4 (v5 - v6) fun S5 =>
        cl (fX5_at v2 5 S5) fun v7 S6 =>
        cl (fX5_its v2 5 S6) fun v8 S7 =>
        cl (fX5_least 9999 (v8 + 1) S7) fun v9 S8 =>
        wr S8 42 75 v7 v9 fun S9 =>
        some (v2, S9)
      else
        cl (fX5_finds (-1000005) S3) fun v10 S10 =>
        some (v10, S10)
    else
      cl (fX5_finds (-1000004) S2) fun v11 S11 =>
      some (v11, S11)
theorem sX5_ask {a1 : Int32} {S : St} {r : Int32} {S9 : St} (h : fX5_ask a1 S = some (r, S9)) : PW mX5_ask (some (.int r), S9) 0 [some (.ref 41), some (.int a1), none] [] S := by
  unfold fX5_ask at h
  refine p_iload_n (k := 0) (i := 1) rfl rfl rfl ?_
  obtain ⟨v1, S1, hcS1, h⟩ := cl_some h
  refine p_callS (k := 1) [.int a1] [] rfl (tX5_isPage hcS1) lc_X5_isPage ml_RX5_118 ms_X5_isPage (by decide) (by decide) (Nat.le_of_ble_eq_true rfl) rfl ?_
  refine p_if_ne (k := 2) 14 rfl (by decide) (fun hc => ?_) (fun hc => ?_)
  · rw [if_neg hc] at h
    refine p_aload_n (k := 7) (i := 0) rfl rfl rfl ?_
    refine p_iload_n (k := 8) (i := 1) rfl rfl rfl ?_
    obtain ⟨v2, S2, hcS2, h⟩ := cl_some h
    refine p_callV (k := 9) [.int a1] [] rfl (tX5_cheapest hcS2) lay_X5 rfl lc_X5_cheapest ml_RX5_121 mi_X5_cheapest mv_X5_cheapest (by decide) (by decide) (Nat.le_of_ble_eq_true rfl) rfl ?_
    refine p_istore_n (k := 10) 2 [some (.ref 41), some (.int a1), some (.int v2)] rfl rfl rfl (by decide) rfl ?_
    refine p_iload_n (k := 11) (i := 2) rfl rfl rfl ?_
    refine p_if_ge (k := 12) 31 rfl (by decide) (fun hc => ?_) (fun hc => ?_)
    · rw [if_pos hc] at h
      refine p_aload_n (k := 17) (i := 0) rfl rfl rfl ?_
      refine p_getr (k := 18) rfl lay_X5 rfl fl_RX5_7 ?_
      refine p_iconst (k := 19) 4 rfl (by decide) ?_
      refine s_rd h (k := 20) rfl lay_42 (fun v3 h => ?_)
      refine p_aload_n (k := 21) (i := 0) rfl rfl rfl ?_
      refine p_iload_n (k := 22) (i := 2) rfl rfl rfl ?_
      obtain ⟨v4, S3, hcS3, h⟩ := cl_some h
      refine p_callV (k := 23) [.int v2] [.int v3] rfl (tX5_costs hcS3) lay_X5 rfl lc_X5_costs ml_RX5_100 mi_X5_costs mv_X5_costs (by decide) (by decide) (Nat.le_of_ble_eq_true rfl) rfl ?_
      refine p_icmp_ge (k := 24) 52 rfl (by decide) (fun hc => ?_) (fun hc => ?_)
      · rw [if_pos hc] at h
        refine p_aload_n (k := 29) (i := 0) rfl rfl rfl ?_
        refine p_getr (k := 30) rfl lay_X5 rfl fl_RX5_7 ?_
        refine p_iconst (k := 31) 4 rfl (by decide) ?_
        refine p_dup2 (k := 32) rfl rfl rfl ?_
        refine s_rd h (k := 33) rfl lay_42 (fun v5 h => ?_)
        refine p_aload_n (k := 34) (i := 0) rfl rfl rfl ?_
        refine p_iload_n (k := 35) (i := 2) rfl rfl rfl ?_
        obtain ⟨v6, S4, hcS4, h⟩ := cl_some h
        refine p_callV (k := 36) [.int v2] [.int v5, .int 4, .ref 42] rfl (tX5_costs hcS4) lay_X5 rfl lc_X5_costs ml_RX5_100 mi_X5_costs mv_X5_costs (by decide) (by decide) (Nat.le_of_ble_eq_true rfl) rfl ?_
        refine p_isub (k := 37) rfl ?_
        refine s_wr h (k := 38) rfl lay_42 (fun S5 h => ?_)
        refine p_aload_n (k := 39) (i := 0) rfl rfl rfl ?_
        refine p_getr (k := 40) rfl lay_X5 rfl fl_RX5_7 ?_
        refine p_iload_n (k := 41) (i := 2) rfl rfl rfl ?_
        refine p_iconst (k := 42) 5 rfl (by decide) ?_
        obtain ⟨v7, S6, hcS6, h⟩ := cl_some h
        refine p_callS (k := 43) [.int v2, .int 5] [.ref 42] rfl (tX5_at hcS6) lc_X5_at ml_RX5_72 ms_X5_at (by decide) (by decide) (Nat.le_of_ble_eq_true rfl) rfl ?_
        refine p_sipush (k := 44) 9999 rfl (by decide) ?_
        refine p_aload_n (k := 45) (i := 0) rfl rfl rfl ?_
        refine p_iload_n (k := 46) (i := 2) rfl rfl rfl ?_
        refine p_iconst (k := 47) 5 rfl (by decide) ?_
        obtain ⟨v8, S7, hcS7, h⟩ := cl_some h
        refine p_callV (k := 48) [.int v2, .int 5] [.int 9999, .int v7, .ref 42] rfl (tX5_its hcS7) lay_X5 rfl lc_X5_its ml_RX5_57 mi_X5_its mv_X5_its (by decide) (by decide) (Nat.le_of_ble_eq_true rfl) rfl ?_
        refine p_iconst (k := 49) 1 rfl (by decide) ?_
        refine p_iadd (k := 50) rfl ?_
        obtain ⟨v9, S8, hcS8, h⟩ := cl_some h
        refine p_callS (k := 51) [.int 9999, .int (v8 + 1)] [.int v7, .ref 42] rfl (tX5_least hcS8) lc_X5_least ml_RX5_92 ms_X5_least (by decide) (by decide) (Nat.le_of_ble_eq_true rfl) rfl ?_
        refine s_wr h (k := 52) rfl lay_42 (fun S9 h => ?_)
        refine p_iload_n (k := 53) (i := 2) rfl rfl rfl ?_
        exact s_iret h (k := 54) rfl rfl
      · rw [if_neg hc] at h
        refine p_aload_n (k := 25) (i := 0) rfl rfl rfl ?_
        refine p_ldc (k := 26) rfl k_RX5_124 ?_
        obtain ⟨v10, S10, hcS10, h⟩ := cl_some h
        refine p_callV (k := 27) [.int (-1000005)] [] rfl (tX5_finds hcS10) lay_X5 rfl lc_X5_finds ml_RX5_39 mi_X5_finds mv_X5_finds (by decide) (by decide) (Nat.le_of_ble_eq_true rfl) rfl ?_
        exact s_iret h (k := 28) rfl rfl
    · rw [if_neg hc] at h
      refine p_aload_n (k := 13) (i := 0) rfl rfl rfl ?_
      refine p_ldc (k := 14) rfl k_RX5_38 ?_
      obtain ⟨v11, S11, hcS11, h⟩ := cl_some h
      refine p_callV (k := 15) [.int (-1000004)] [] rfl (tX5_finds hcS11) lay_X5 rfl lc_X5_finds ml_RX5_39 mi_X5_finds mv_X5_finds (by decide) (by decide) (Nat.le_of_ble_eq_true rfl) rfl ?_
      exact s_iret h (k := 16) rfl rfl
  · rw [if_pos hc] at h
    refine p_aload_n (k := 3) (i := 0) rfl rfl rfl ?_
    refine p_ldc (k := 4) rfl k_RX5_37 ?_
    obtain ⟨v12, S12, hcS12, h⟩ := cl_some h
    refine p_callV (k := 5) [.int (-1000001)] [] rfl (tX5_finds hcS12) lay_X5 rfl lc_X5_finds ml_RX5_39 mi_X5_finds mv_X5_finds (by decide) (by decide) (Nat.le_of_ble_eq_true rfl) rfl ?_
    exact s_iret h (k := 6) rfl rfl
theorem tX5_ask {a1 : Int32} {S : St} {r : Int32} {S9 : St} (h : fX5_ask a1 S = some (r, S9)) : MR yX5_ask cX5_ask mX5_ask [.ref 41, .int a1] S (some (.int r), S9) := MR.of (n := 1) okX5_ask rfl rfl (sX5_ask h)
-- lives(I)V
def fX5_lives (a1 : Int32) (S : St) : Option (Unit × St) :=
  cl (fX5_at a1 1 S) fun v1 S1 =>
  cl (fX5_climbsTo a1 S1) fun v2 S2 =>
  wr S2 42 75 v1 v2 fun S3 =>
  cl (fX5_its a1 1 S3) fun v3 S4 =>
  bnd (5 + v3) fun v4 =>
  cl (fX5_grazes a1 S4) fun v5 S5 =>
  rd S5 42 75 v4 fun v6 =>
  cl (fX5_least v5 v6 S5) fun v7 S6 =>
  rd S6 42 75 v4 fun v8 =>
  wr S6 42 75 v4 (v8 - v7) fun S7 =>
  cl (fX5_at a1 4 S7) fun v9 S8 =>
  cl (fX5_its a1 4 S8) fun v10 S9 =>
  cl (fX5_least 99 (v10 + v7) S9) fun v11 S10 =>
  cl (fX5_greatest 0 (v11 - 3) S10) fun v12 S11 =>
  wr S11 42 75 v9 v12 fun S12 =>
  some ((), S12)
theorem sX5_lives {a1 : Int32} {S : St} {r : Unit} {S9 : St} (h : fX5_lives a1 S = some (r, S9)) : PW mX5_lives (none, S9) 0 [some (.ref 41), some (.int a1), none, none] [] S := by
  unfold fX5_lives at h
  refine p_aload_n (k := 0) (i := 0) rfl rfl rfl ?_
  refine p_getr (k := 1) rfl lay_X5 rfl fl_RX5_7 ?_
  refine p_iload_n (k := 2) (i := 1) rfl rfl rfl ?_
  refine p_iconst (k := 3) 1 rfl (by decide) ?_
  obtain ⟨v1, S1, hcS1, h⟩ := cl_some h
  refine p_callS (k := 4) [.int a1, .int 1] [.ref 42] rfl (tX5_at hcS1) lc_X5_at ml_RX5_72 ms_X5_at (by decide) (by decide) (Nat.le_of_ble_eq_true rfl) rfl ?_
  refine p_aload_n (k := 5) (i := 0) rfl rfl rfl ?_
  refine p_iload_n (k := 6) (i := 1) rfl rfl rfl ?_
  obtain ⟨v2, S2, hcS2, h⟩ := cl_some h
  refine p_callV (k := 7) [.int a1] [.int v1, .ref 42] rfl (tX5_climbsTo hcS2) lay_X5 rfl lc_X5_climbsTo ml_RX5_106 mi_X5_climbsTo mv_X5_climbsTo (by decide) (by decide) (Nat.le_of_ble_eq_true rfl) rfl ?_
  refine s_wr h (k := 8) rfl lay_42 (fun S3 h => ?_)
  refine p_iconst (k := 9) 5 rfl (by decide) ?_
  refine p_aload_n (k := 10) (i := 0) rfl rfl rfl ?_
  refine p_iload_n (k := 11) (i := 1) rfl rfl rfl ?_
  refine p_iconst (k := 12) 1 rfl (by decide) ?_
  obtain ⟨v3, S4, hcS4, h⟩ := cl_some h
  refine p_callV (k := 13) [.int a1, .int 1] [.int 5] rfl (tX5_its hcS4) lay_X5 rfl lc_X5_its ml_RX5_57 mi_X5_its mv_X5_its (by decide) (by decide) (Nat.le_of_ble_eq_true rfl) rfl ?_
  refine p_iadd (k := 14) rfl ?_
  refine s_bnd h (fun v4 h => ?_)
  refine p_istore_n (k := 15) 2 [some (.ref 41), some (.int a1), some (.int v4), none] rfl rfl rfl (by decide) rfl ?_
  refine p_aload_n (k := 16) (i := 0) rfl rfl rfl ?_
  refine p_iload_n (k := 17) (i := 1) rfl rfl rfl ?_
  obtain ⟨v5, S5, hcS5, h⟩ := cl_some h
  refine p_callV (k := 18) [.int a1] [] rfl (tX5_grazes hcS5) lay_X5 rfl lc_X5_grazes ml_RX5_103 mi_X5_grazes mv_X5_grazes (by decide) (by decide) (Nat.le_of_ble_eq_true rfl) rfl ?_
  refine p_aload_n (k := 19) (i := 0) rfl rfl rfl ?_
  refine p_getr (k := 20) rfl lay_X5 rfl fl_RX5_7 ?_
  refine p_iload_n (k := 21) (i := 2) rfl rfl rfl ?_
  refine s_rd h (k := 22) rfl lay_42 (fun v6 h => ?_)
  obtain ⟨v7, S6, hcS6, h⟩ := cl_some h
  refine p_callS (k := 23) [.int v5, .int v6] [] rfl (tX5_least hcS6) lc_X5_least ml_RX5_92 ms_X5_least (by decide) (by decide) (Nat.le_of_ble_eq_true rfl) rfl ?_
  refine p_istore_n (k := 24) 3 [some (.ref 41), some (.int a1), some (.int v4), some (.int v7)] rfl rfl rfl (by decide) rfl ?_
  refine p_aload_n (k := 25) (i := 0) rfl rfl rfl ?_
  refine p_getr (k := 26) rfl lay_X5 rfl fl_RX5_7 ?_
  refine p_iload_n (k := 27) (i := 2) rfl rfl rfl ?_
  refine p_dup2 (k := 28) rfl rfl rfl ?_
  refine s_rd h (k := 29) rfl lay_42 (fun v8 h => ?_)
  refine p_iload_n (k := 30) (i := 3) rfl rfl rfl ?_
  refine p_isub (k := 31) rfl ?_
  refine s_wr h (k := 32) rfl lay_42 (fun S7 h => ?_)
  refine p_aload_n (k := 33) (i := 0) rfl rfl rfl ?_
  refine p_getr (k := 34) rfl lay_X5 rfl fl_RX5_7 ?_
  refine p_iload_n (k := 35) (i := 1) rfl rfl rfl ?_
  refine p_iconst (k := 36) 4 rfl (by decide) ?_
  obtain ⟨v9, S8, hcS8, h⟩ := cl_some h
  refine p_callS (k := 37) [.int a1, .int 4] [.ref 42] rfl (tX5_at hcS8) lc_X5_at ml_RX5_72 ms_X5_at (by decide) (by decide) (Nat.le_of_ble_eq_true rfl) rfl ?_
  refine p_iconst (k := 38) 0 rfl (by decide) ?_
  refine p_bipush (k := 39) 99 rfl (by decide) ?_
  refine p_aload_n (k := 40) (i := 0) rfl rfl rfl ?_
  refine p_iload_n (k := 41) (i := 1) rfl rfl rfl ?_
  refine p_iconst (k := 42) 4 rfl (by decide) ?_
  obtain ⟨v10, S9, hcS9, h⟩ := cl_some h
  refine p_callV (k := 43) [.int a1, .int 4] [.int 99, .int 0, .int v9, .ref 42] rfl (tX5_its hcS9) lay_X5 rfl lc_X5_its ml_RX5_57 mi_X5_its mv_X5_its (by decide) (by decide) (Nat.le_of_ble_eq_true rfl) rfl ?_
  refine p_iload_n (k := 44) (i := 3) rfl rfl rfl ?_
  refine p_iadd (k := 45) rfl ?_
  obtain ⟨v11, S10, hcS10, h⟩ := cl_some h
  refine p_callS (k := 46) [.int 99, .int (v10 + v7)] [.int 0, .int v9, .ref 42] rfl (tX5_least hcS10) lc_X5_least ml_RX5_92 ms_X5_least (by decide) (by decide) (Nat.le_of_ble_eq_true rfl) rfl ?_
  refine p_iconst (k := 47) 3 rfl (by decide) ?_
  refine p_isub (k := 48) rfl ?_
  obtain ⟨v12, S11, hcS11, h⟩ := cl_some h
  refine p_callS (k := 49) [.int 0, .int (v11 - 3)] [.int v9, .ref 42] rfl (tX5_greatest hcS11) lc_X5_greatest ml_RX5_125 ms_X5_greatest (by decide) (by decide) (Nat.le_of_ble_eq_true rfl) rfl ?_
  refine s_wr h (k := 50) rfl lay_42 (fun S12 h => ?_)
  exact s_vret h (k := 51) rfl rfl
theorem tX5_lives {a1 : Int32} {S : St} {r : Unit} {S9 : St} (h : fX5_lives a1 S = some (r, S9)) : MR yX5_lives cX5_lives mX5_lives [.ref 41, .int a1] S (none, S9) := MR.of (n := 2) okX5_lives rfl rfl (sX5_lives h)
-- lowestOf(I)I
def fX5_lowestOf (a1 : Int32) (S : St) : Option (Int32 × St) :=
  some (a1 &&& (-a1), S)
theorem sX5_lowestOf {a1 : Int32} {S : St} {r : Int32} {S9 : St} (h : fX5_lowestOf a1 S = some (r, S9)) : PW mX5_lowestOf (some (.int r), S9) 0 [some (.int a1)] [] S := by
  unfold fX5_lowestOf at h
  refine p_iload_n (k := 0) (i := 0) rfl rfl rfl ?_
  refine p_iload_n (k := 1) (i := 0) rfl rfl rfl ?_
  refine p_ineg (k := 2) rfl ?_
  refine p_iand (k := 3) rfl ?_
  exact s_iret h (k := 4) rfl rfl
theorem tX5_lowestOf {a1 : Int32} {S : St} {r : Int32} {S9 : St} (h : fX5_lowestOf a1 S = some (r, S9)) : MR yX5_lowestOf cX5_lowestOf mX5_lowestOf [.int a1] S (some (.int r), S9) := MR.of (n := 0) okX5_lowestOf rfl rfl (sX5_lowestOf h)
-- highestOf(I)I
def fX5_highestOf_L4 : Nat → Int32 → Int32 → St → Option (Int32 × St)
  | 0 => fun _ _ _ => none
  | n + 1 => fun x1 x2 S =>
    if x2 = 0 then
      some (x1, S)
    else
      cl (fX5_lowestOf x2 S) fun v1 S1 =>
      bnd (x2 &&& (x2 - 1)) fun v2 =>
      fX5_highestOf_L4 n v1 v2 S1
theorem sX5_highestOf_L4 {r : Int32} {S9 : St} : ∀ (n : Nat) (x1 : Int32) (x2 : Int32) (S : St), fX5_highestOf_L4 n x1 x2 S = some (r, S9) → PW mX5_highestOf (some (.int r), S9) 4 [none, some (.int x1), some (.int x2)] [] S := by
  intro n
  induction n with
  | zero => intro x1 x2 S h; cases h
  | succ n ih =>
    intro x1 x2 S h
    unfold fX5_highestOf_L4 at h
    refine p_iload_n (k := 4) (i := 2) rfl rfl rfl ?_
    refine p_if_eq (k := 5) 22 rfl (by decide) (fun hc => ?_) (fun hc => ?_)
    · rw [if_pos hc] at h
      refine p_iload_n (k := 16) (i := 1) rfl rfl rfl ?_
      exact s_iret h (k := 17) rfl rfl
    · rw [if_neg hc] at h
      refine p_iload_n (k := 6) (i := 2) rfl rfl rfl ?_
      obtain ⟨v1, S1, hcS1, h⟩ := cl_some h
      refine p_callS (k := 7) [.int x2] [] rfl (tX5_lowestOf hcS1) lc_X5_lowestOf ml_RX5_128 ms_X5_lowestOf (by decide) (by decide) (Nat.le_of_ble_eq_true rfl) rfl ?_
      refine p_istore_n (k := 8) 1 [none, some (.int v1), some (.int x2)] rfl rfl rfl (by decide) rfl ?_
      refine p_iload_n (k := 9) (i := 2) rfl rfl rfl ?_
      refine p_iload_n (k := 10) (i := 2) rfl rfl rfl ?_
      refine p_iconst (k := 11) 1 rfl (by decide) ?_
      refine p_isub (k := 12) rfl ?_
      refine p_iand (k := 13) rfl ?_
      refine s_bnd h (fun v2 h => ?_)
      refine p_istore_n (k := 14) 2 [none, some (.int v1), some (.int v2)] rfl rfl rfl (by decide) rfl ?_
      refine p_goto (k := 15) 4 rfl (by decide) ?_
      refine p_msk [false, true, true] (L2 := [none, some (.int v1), some (.int v2)]) rfl ?_
      exact ih _ _ _ h
def fX5_highestOf (a1 : Int32) (S : St) : Option (Int32 × St) :=
  fX5_highestOf_L4 FU 0 a1 S
theorem sX5_highestOf {a1 : Int32} {S : St} {r : Int32} {S9 : St} (h : fX5_highestOf a1 S = some (r, S9)) : PW mX5_highestOf (some (.int r), S9) 0 [some (.int a1), none, none] [] S := by
  unfold fX5_highestOf at h
  refine p_iconst (k := 0) 0 rfl (by decide) ?_
  refine p_istore_n (k := 1) 1 [some (.int a1), some (.int 0), none] rfl rfl rfl (by decide) rfl ?_
  refine p_iload_n (k := 2) (i := 0) rfl rfl rfl ?_
  refine p_istore_n (k := 3) 2 [some (.int a1), some (.int 0), some (.int a1)] rfl rfl rfl (by decide) rfl ?_
  refine p_msk [false, true, true] (L2 := [none, some (.int 0), some (.int a1)]) rfl ?_
  exact sX5_highestOf_L4 _ _ _ _ h
theorem tX5_highestOf {a1 : Int32} {S : St} {r : Int32} {S9 : St} (h : fX5_highestOf a1 S = some (r, S9)) : MR yX5_highestOf cX5_highestOf mX5_highestOf [.int a1] S (some (.int r), S9) := MR.of (n := 2) okX5_highestOf rfl rfl (sX5_highestOf h)
-- learnsOne(II)V
def fX5_learnsOne_L95 (x1 : Int32) (S : St) : Option (Unit × St) :=
  cl (fX5_at x1 3 S) fun v1 S1 =>
  cl (fX5_its x1 3 S1) fun v2 S2 =>
  cl (fX5_least 9999 (v2 + 1) S2) fun v3 S3 =>
  wr S3 42 75 v1 v3 fun S4 =>
  some ((), S4)
theorem sX5_learnsOne_L95 {r : Unit} {S9 : St} {x1 : Int32} {S : St} (h : fX5_learnsOne_L95 x1 S = some (r, S9)) : PW mX5_learnsOne (none, S9) 95 [some (.ref 41), some (.int x1), none, none] [] S := by
  unfold fX5_learnsOne_L95 at h
  refine p_aload_n (k := 64) (i := 0) rfl rfl rfl ?_
  refine p_getr (k := 65) rfl lay_X5 rfl fl_RX5_7 ?_
  refine p_iload_n (k := 66) (i := 1) rfl rfl rfl ?_
  refine p_iconst (k := 67) 3 rfl (by decide) ?_
  obtain ⟨v1, S1, hcS1, h⟩ := cl_some h
  refine p_callS (k := 68) [.int x1, .int 3] [.ref 42] rfl (tX5_at hcS1) lc_X5_at ml_RX5_72 ms_X5_at (by decide) (by decide) (Nat.le_of_ble_eq_true rfl) rfl ?_
  refine p_sipush (k := 69) 9999 rfl (by decide) ?_
  refine p_aload_n (k := 70) (i := 0) rfl rfl rfl ?_
  refine p_iload_n (k := 71) (i := 1) rfl rfl rfl ?_
  refine p_iconst (k := 72) 3 rfl (by decide) ?_
  obtain ⟨v2, S2, hcS2, h⟩ := cl_some h
  refine p_callV (k := 73) [.int x1, .int 3] [.int 9999, .int v1, .ref 42] rfl (tX5_its hcS2) lay_X5 rfl lc_X5_its ml_RX5_57 mi_X5_its mv_X5_its (by decide) (by decide) (Nat.le_of_ble_eq_true rfl) rfl ?_
  refine p_iconst (k := 74) 1 rfl (by decide) ?_
  refine p_iadd (k := 75) rfl ?_
  obtain ⟨v3, S3, hcS3, h⟩ := cl_some h
  refine p_callS (k := 76) [.int 9999, .int (v2 + 1)] [.int v1, .ref 42] rfl (tX5_least hcS3) lc_X5_least ml_RX5_92 ms_X5_least (by decide) (by decide) (Nat.le_of_ble_eq_true rfl) rfl ?_
  refine s_wr h (k := 77) rfl lay_42 (fun S4 h => ?_)
  exact s_vret h (k := 78) rfl rfl
def fX5_learnsOne_L62 (x1 : Int32) (S : St) : Option (Unit × St) :=
  cl (fX5_its x1 4 S) fun v1 S1 =>
  if v1 = 0 then
    cl (fX5_at x1 2 S1) fun v2 S2 =>
    rd S2 42 75 v2 fun v3 =>
    cl (fX5_its x1 2 S2) fun v4 S3 =>
    cl (fX5_highestOf v4 S3) fun v5 S4 =>
    wr S4 42 75 v2 (v3 &&& (v5 ^^^ (-1))) fun S5 =>
    fX5_learnsOne_L95 x1 S5
  else
    fX5_learnsOne_L95 x1 S1
theorem sX5_learnsOne_L62 {r : Unit} {S9 : St} {x1 : Int32} {S : St} (h : fX5_learnsOne_L62 x1 S = some (r, S9)) : PW mX5_learnsOne (none, S9) 62 [some (.ref 41), some (.int x1), none, none] [] S := by
  unfold fX5_learnsOne_L62 at h
  refine p_aload_n (k := 43) (i := 0) rfl rfl rfl ?_
  refine p_iload_n (k := 44) (i := 1) rfl rfl rfl ?_
  refine p_iconst (k := 45) 4 rfl (by decide) ?_
  obtain ⟨v1, S1, hcS1, h⟩ := cl_some h
  refine p_callV (k := 46) [.int x1, .int 4] [] rfl (tX5_its hcS1) lay_X5 rfl lc_X5_its ml_RX5_57 mi_X5_its mv_X5_its (by decide) (by decide) (Nat.le_of_ble_eq_true rfl) rfl ?_
  refine p_if_ne (k := 47) 95 rfl (by decide) (fun hc => ?_) (fun hc => ?_)
  · rw [if_neg hc] at h
    refine p_msk [true, true, false, false] (L2 := [some (.ref 41), some (.int x1), none, none]) rfl ?_
    exact sX5_learnsOne_L95 h
  · rw [if_pos hc] at h
    refine p_aload_n (k := 48) (i := 0) rfl rfl rfl ?_
    refine p_getr (k := 49) rfl lay_X5 rfl fl_RX5_7 ?_
    refine p_iload_n (k := 50) (i := 1) rfl rfl rfl ?_
    refine p_iconst (k := 51) 2 rfl (by decide) ?_
    obtain ⟨v2, S2, hcS2, h⟩ := cl_some h
    refine p_callS (k := 52) [.int x1, .int 2] [.ref 42] rfl (tX5_at hcS2) lc_X5_at ml_RX5_72 ms_X5_at (by decide) (by decide) (Nat.le_of_ble_eq_true rfl) rfl ?_
    refine p_dup2 (k := 53) rfl rfl rfl ?_
    refine s_rd h (k := 54) rfl lay_42 (fun v3 h => ?_)
    refine p_aload_n (k := 55) (i := 0) rfl rfl rfl ?_
    refine p_iload_n (k := 56) (i := 1) rfl rfl rfl ?_
    refine p_iconst (k := 57) 2 rfl (by decide) ?_
    obtain ⟨v4, S3, hcS3, h⟩ := cl_some h
    refine p_callV (k := 58) [.int x1, .int 2] [.int v3, .int v2, .ref 42] rfl (tX5_its hcS3) lay_X5 rfl lc_X5_its ml_RX5_57 mi_X5_its mv_X5_its (by decide) (by decide) (Nat.le_of_ble_eq_true rfl) rfl ?_
    obtain ⟨v5, S4, hcS4, h⟩ := cl_some h
    refine p_callS (k := 59) [.int v4] [.int v3, .int v2, .ref 42] rfl (tX5_highestOf hcS4) lc_X5_highestOf ml_RX5_131 ms_X5_highestOf (by decide) (by decide) (Nat.le_of_ble_eq_true rfl) rfl ?_
    refine p_iconst (k := 60) (-1) rfl (by decide) ?_
    refine p_ixor (k := 61) rfl ?_
    refine p_iand (k := 62) rfl ?_
    refine s_wr h (k := 63) rfl lay_42 (fun S5 h => ?_)
    refine p_msk [true, true, false, false] (L2 := [some (.ref 41), some (.int x1), none, none]) rfl ?_
    exact sX5_learnsOne_L95 h
def fX5_learnsOne (a1 : Int32) (a2 : Int32) (S : St) : Option (Unit × St) :=
  cl (fX5_its a1 1 S) fun v1 S1 =>
  cl (fX5_there v1 S1) fun v2 S2 =>
  bnd ((v2 &&& ((1 <<< (a1 &&& 31)) ^^^ (-1))) &&& (a2 ^^^ (-1))) fun v3 =>
  cl (fX5_its a1 4 S2) fun v4 S3 =>
  if v4 < 20 then
    fX5_learnsOne_L62 a1 S3
  else
    cl (fX5_at a1 2 S3) fun v5 S4 =>
    rd S4 42 75 v5 fun v6 =>
    cl (fX5_known v3 S4) fun v7 S5 =>
    cl (fX5_its a1 2 S5) fun v8 S6 =>
    cl (fX5_lowestOf (v7 &&& (v8 ^^^ (-1))) S6) fun v9 S7 =>
    wr S7 42 75 v5 (v6 ||| v9) fun S8 =>
    fX5_learnsOne_L62 a1 S8
theorem sX5_learnsOne {a1 : Int32} {a2 : Int32} {S : St} {r : Unit} {S9 : St} (h : fX5_learnsOne a1 a2 S = some (r, S9)) : PW mX5_learnsOne (none, S9) 0 [some (.ref 41), some (.int a1), some (.int a2), none] [] S := by
  unfold fX5_learnsOne at h
  refine p_aload_n (k := 0) (i := 0) rfl rfl rfl ?_
  refine p_aload_n (k := 1) (i := 0) rfl rfl rfl ?_
  refine p_iload_n (k := 2) (i := 1) rfl rfl rfl ?_
  refine p_iconst (k := 3) 1 rfl (by decide) ?_
  obtain ⟨v1, S1, hcS1, h⟩ := cl_some h
  refine p_callV (k := 4) [.int a1, .int 1] [.ref 41] rfl (tX5_its hcS1) lay_X5 rfl lc_X5_its ml_RX5_57 mi_X5_its mv_X5_its (by decide) (by decide) (Nat.le_of_ble_eq_true rfl) rfl ?_
  obtain ⟨v2, S2, hcS2, h⟩ := cl_some h
  refine p_callV (k := 5) [.int v1] [] rfl (tX5_there hcS2) lay_X5 rfl lc_X5_there ml_RX5_65 mi_X5_there mv_X5_there (by decide) (by decide) (Nat.le_of_ble_eq_true rfl) rfl ?_
  refine p_iconst (k := 6) 1 rfl (by decide) ?_
  refine p_iload_n (k := 7) (i := 1) rfl rfl rfl ?_
  refine p_ishl (k := 8) rfl ?_
  refine p_iconst (k := 9) (-1) rfl (by decide) ?_
  refine p_ixor (k := 10) rfl ?_
  refine p_iand (k := 11) rfl ?_
  refine p_iload_n (k := 12) (i := 2) rfl rfl rfl ?_
  refine p_iconst (k := 13) (-1) rfl (by decide) ?_
  refine p_ixor (k := 14) rfl ?_
  refine p_iand (k := 15) rfl ?_
  refine s_bnd h (fun v3 h => ?_)
  refine p_istore_n (k := 16) 3 [some (.ref 41), some (.int a1), some (.int a2), some (.int v3)] rfl rfl rfl (by decide) rfl ?_
  refine p_aload_n (k := 17) (i := 0) rfl rfl rfl ?_
  refine p_iload_n (k := 18) (i := 1) rfl rfl rfl ?_
  refine p_iconst (k := 19) 4 rfl (by decide) ?_
  obtain ⟨v4, S3, hcS3, h⟩ := cl_some h
  refine p_callV (k := 20) [.int a1, .int 4] [] rfl (tX5_its hcS3) lay_X5 rfl lc_X5_its ml_RX5_57 mi_X5_its mv_X5_its (by decide) (by decide) (Nat.le_of_ble_eq_true rfl) rfl ?_
  refine p_bipush (k := 21) 20 rfl (by decide) ?_
  refine p_icmp_lt (k := 22) 62 rfl (by decide) (fun hc => ?_) (fun hc => ?_)
  · rw [if_pos hc] at h
    refine p_msk [true, true, false, false] (L2 := [some (.ref 41), some (.int a1), none, none]) rfl ?_
    exact sX5_learnsOne_L62 h
  · rw [if_neg hc] at h
    refine p_aload_n (k := 23) (i := 0) rfl rfl rfl ?_
    refine p_getr (k := 24) rfl lay_X5 rfl fl_RX5_7 ?_
    refine p_iload_n (k := 25) (i := 1) rfl rfl rfl ?_
    refine p_iconst (k := 26) 2 rfl (by decide) ?_
    obtain ⟨v5, S4, hcS4, h⟩ := cl_some h
    refine p_callS (k := 27) [.int a1, .int 2] [.ref 42] rfl (tX5_at hcS4) lc_X5_at ml_RX5_72 ms_X5_at (by decide) (by decide) (Nat.le_of_ble_eq_true rfl) rfl ?_
    refine p_dup2 (k := 28) rfl rfl rfl ?_
    refine s_rd h (k := 29) rfl lay_42 (fun v6 h => ?_)
    refine p_aload_n (k := 30) (i := 0) rfl rfl rfl ?_
    refine p_iload_n (k := 31) (i := 3) rfl rfl rfl ?_
    obtain ⟨v7, S5, hcS5, h⟩ := cl_some h
    refine p_callV (k := 32) [.int v3] [.int v6, .int v5, .ref 42] rfl (tX5_known hcS5) lay_X5 rfl lc_X5_known ml_RX5_60 mi_X5_known mv_X5_known (by decide) (by decide) (Nat.le_of_ble_eq_true rfl) rfl ?_
    refine p_aload_n (k := 33) (i := 0) rfl rfl rfl ?_
    refine p_iload_n (k := 34) (i := 1) rfl rfl rfl ?_
    refine p_iconst (k := 35) 2 rfl (by decide) ?_
    obtain ⟨v8, S6, hcS6, h⟩ := cl_some h
    refine p_callV (k := 36) [.int a1, .int 2] [.int v7, .int v6, .int v5, .ref 42] rfl (tX5_its hcS6) lay_X5 rfl lc_X5_its ml_RX5_57 mi_X5_its mv_X5_its (by decide) (by decide) (Nat.le_of_ble_eq_true rfl) rfl ?_
    refine p_iconst (k := 37) (-1) rfl (by decide) ?_
    refine p_ixor (k := 38) rfl ?_
    refine p_iand (k := 39) rfl ?_
    obtain ⟨v9, S7, hcS7, h⟩ := cl_some h
    refine p_callS (k := 40) [.int (v7 &&& (v8 ^^^ (-1)))] [.int v6, .int v5, .ref 42] rfl (tX5_lowestOf hcS7) lc_X5_lowestOf ml_RX5_128 ms_X5_lowestOf (by decide) (by decide) (Nat.le_of_ble_eq_true rfl) rfl ?_
    refine p_ior (k := 41) rfl ?_
    refine s_wr h (k := 42) rfl lay_42 (fun S8 h => ?_)
    refine p_msk [true, true, false, false] (L2 := [some (.ref 41), some (.int a1), none, none]) rfl ?_
    exact sX5_learnsOne_L62 h
theorem tX5_learnsOne {a1 : Int32} {a2 : Int32} {S : St} {r : Unit} {S9 : St} (h : fX5_learnsOne a1 a2 S = some (r, S9)) : MR yX5_learnsOne cX5_learnsOne mX5_learnsOne [.ref 41, .int a1, .int a2] S (none, S9) := MR.of (n := 1) okX5_learnsOne rfl rfl (sX5_learnsOne h)
-- dayBut(I)V
def fX5_dayBut_L25 (k2 : Int32 → Int32 → St → Option (Unit × St)) (x1 : Int32) (x2 : Int32) (S : St) : Option (Unit × St) :=
  bnd (x2 + 1) fun v1 =>
  k2 x1 v1 S
theorem sX5_dayBut_L25 {r : Unit} {S9 : St} {k2 : Int32 → Int32 → St → Option (Unit × St)} (hk2 : ∀ x1 x2 S, k2 x1 x2 S = some (r, S9) → PW mX5_dayBut (none, S9) 2 [some (.ref 41), some (.int x1), some (.int x2)] [] S) {x1 : Int32} {x2 : Int32} {S : St} (h : fX5_dayBut_L25 k2 x1 x2 S = some (r, S9)) : PW mX5_dayBut (none, S9) 25 [some (.ref 41), some (.int x1), some (.int x2)] [] S := by
  unfold fX5_dayBut_L25 at h
  obtain ⟨v1, ev1, h⟩ := bnd_ex h
  refine p_iinc (k := 17) v1 [some (.ref 41), some (.int x1), some (.int v1)] rfl rfl (by rw [← ev1]; rfl) rfl (by decide) rfl ?_
  refine p_goto (k := 18) 2 rfl (by decide) ?_
  refine p_msk [true, true, true] (L2 := [some (.ref 41), some (.int x1), some (.int v1)]) rfl ?_
  exact hk2 _ _ _ h
def fX5_dayBut_L57 (k33 : Int32 → Int32 → St → Option (Unit × St)) (x1 : Int32) (x2 : Int32) (S : St) : Option (Unit × St) :=
  bnd (x2 + 1) fun v1 =>
  k33 x1 v1 S
theorem sX5_dayBut_L57 {r : Unit} {S9 : St} {k33 : Int32 → Int32 → St → Option (Unit × St)} (hk33 : ∀ x1 x2 S, k33 x1 x2 S = some (r, S9) → PW mX5_dayBut (none, S9) 33 [some (.ref 41), some (.int x1), some (.int x2)] [] S) {x1 : Int32} {x2 : Int32} {S : St} (h : fX5_dayBut_L57 k33 x1 x2 S = some (r, S9)) : PW mX5_dayBut (none, S9) 57 [some (.ref 41), some (.int x1), some (.int x2)] [] S := by
  unfold fX5_dayBut_L57 at h
  obtain ⟨v1, ev1, h⟩ := bnd_ex h
  refine p_iinc (k := 37) v1 [some (.ref 41), some (.int x1), some (.int v1)] rfl rfl (by rw [← ev1]; rfl) rfl (by decide) rfl ?_
  refine p_goto (k := 38) 33 rfl (by decide) ?_
  refine p_msk [true, true, true] (L2 := [some (.ref 41), some (.int x1), some (.int v1)]) rfl ?_
  exact hk33 _ _ _ h
def fX5_dayBut_L65 : Nat → Int32 → St → Option (Unit × St)
  | 0 => fun _ _ => none
  | n + 1 => fun x2 S =>
    if 12 ≤ x2 then
      rd S 42 75 1 fun v1 =>
      wr S 42 75 1 (v1 + 1) fun S1 =>
      some ((), S1)
    else
      rd S 42 75 (5 + x2) fun v2 =>
      rd S 42 75 3 fun v3 =>
      cl (fX5_least 99 (v2 + v3) S) fun v4 S2 =>
      wr S2 42 75 (5 + x2) v4 fun S3 =>
      bnd (x2 + 1) fun v5 =>
      fX5_dayBut_L65 n v5 S3
theorem sX5_dayBut_L65 {r : Unit} {S9 : St} : ∀ (n : Nat) (x2 : Int32) (S : St), fX5_dayBut_L65 n x2 S = some (r, S9) → PW mX5_dayBut (none, S9) 65 [some (.ref 41), none, some (.int x2)] [] S := by
  intro n
  induction n with
  | zero => intro x2 S h; cases h
  | succ n ih =>
    intro x2 S h
    unfold fX5_dayBut_L65 at h
    refine p_iload_n (k := 41) (i := 2) rfl rfl rfl ?_
    refine p_bipush (k := 42) 12 rfl (by decide) ?_
    refine p_icmp_ge (k := 43) 105 rfl (by decide) (fun hc => ?_) (fun hc => ?_)
    · rw [if_pos hc] at h
      refine p_aload_n (k := 65) (i := 0) rfl rfl rfl ?_
      refine p_getr (k := 66) rfl lay_X5 rfl fl_RX5_7 ?_
      refine p_iconst (k := 67) 1 rfl (by decide) ?_
      refine p_dup2 (k := 68) rfl rfl rfl ?_
      refine s_rd h (k := 69) rfl lay_42 (fun v1 h => ?_)
      refine p_iconst (k := 70) 1 rfl (by decide) ?_
      refine p_iadd (k := 71) rfl ?_
      refine s_wr h (k := 72) rfl lay_42 (fun S1 h => ?_)
      exact s_vret h (k := 73) rfl rfl
    · rw [if_neg hc] at h
      refine p_aload_n (k := 44) (i := 0) rfl rfl rfl ?_
      refine p_getr (k := 45) rfl lay_X5 rfl fl_RX5_7 ?_
      refine p_iconst (k := 46) 5 rfl (by decide) ?_
      refine p_iload_n (k := 47) (i := 2) rfl rfl rfl ?_
      refine p_iadd (k := 48) rfl ?_
      refine p_bipush (k := 49) 99 rfl (by decide) ?_
      refine p_aload_n (k := 50) (i := 0) rfl rfl rfl ?_
      refine p_getr (k := 51) rfl lay_X5 rfl fl_RX5_7 ?_
      refine p_iconst (k := 52) 5 rfl (by decide) ?_
      refine p_iload_n (k := 53) (i := 2) rfl rfl rfl ?_
      refine p_iadd (k := 54) rfl ?_
      refine s_rd h (k := 55) rfl lay_42 (fun v2 h => ?_)
      refine p_aload_n (k := 56) (i := 0) rfl rfl rfl ?_
      refine p_getr (k := 57) rfl lay_X5 rfl fl_RX5_7 ?_
      refine p_iconst (k := 58) 3 rfl (by decide) ?_
      refine s_rd h (k := 59) rfl lay_42 (fun v3 h => ?_)
      refine p_iadd (k := 60) rfl ?_
      obtain ⟨v4, S2, hcS2, h⟩ := cl_some h
      refine p_callS (k := 61) [.int 99, .int (v2 + v3)] [.int (5 + x2), .ref 42] rfl (tX5_least hcS2) lc_X5_least ml_RX5_92 ms_X5_least (by decide) (by decide) (Nat.le_of_ble_eq_true rfl) rfl ?_
      refine s_wr h (k := 62) rfl lay_42 (fun S3 h => ?_)
      obtain ⟨v5, ev5, h⟩ := bnd_ex h
      refine p_iinc (k := 63) v5 [some (.ref 41), none, some (.int v5)] rfl rfl (by rw [← ev5]; rfl) rfl (by decide) rfl ?_
      refine p_goto (k := 64) 65 rfl (by decide) ?_
      refine p_msk [true, false, true] (L2 := [some (.ref 41), none, some (.int v5)]) rfl ?_
      exact ih _ _ h
def fX5_dayBut_L33 : Nat → Int32 → Int32 → St → Option (Unit × St)
  | 0 => fun _ _ _ => none
  | n + 1 => fun x1 x2 S =>
    rd S 42 75 0 fun v1 =>
    if v1 ≤ x2 then
      fX5_dayBut_L65 FU 0 S
    else
      if ((x1 >>> (x2 &&& 31)) &&& 1) = 0 then
        cl (fX5_learnsOne x2 x1 S) fun _ S1 =>
        fX5_dayBut_L57 (fun x1 x2 S => fX5_dayBut_L33 n x1 x2 S) x1 x2 S1
      else
        fX5_dayBut_L57 (fun x1 x2 S => fX5_dayBut_L33 n x1 x2 S) x1 x2 S
theorem sX5_dayBut_L33 {r : Unit} {S9 : St} : ∀ (n : Nat) (x1 : Int32) (x2 : Int32) (S : St), fX5_dayBut_L33 n x1 x2 S = some (r, S9) → PW mX5_dayBut (none, S9) 33 [some (.ref 41), some (.int x1), some (.int x2)] [] S := by
  intro n
  induction n with
  | zero => intro x1 x2 S h; cases h
  | succ n ih =>
    intro x1 x2 S h
    unfold fX5_dayBut_L33 at h
    refine p_iload_n (k := 21) (i := 2) rfl rfl rfl ?_
    refine p_aload_n (k := 22) (i := 0) rfl rfl rfl ?_
    refine p_getr (k := 23) rfl lay_X5 rfl fl_RX5_7 ?_
    refine p_iconst (k := 24) 0 rfl (by decide) ?_
    refine s_rd h (k := 25) rfl lay_42 (fun v1 h => ?_)
    refine p_icmp_ge (k := 26) 63 rfl (by decide) (fun hc => ?_) (fun hc => ?_)
    · rw [if_pos hc] at h
      refine p_iconst (k := 39) 0 rfl (by decide) ?_
      refine p_istore_n (k := 40) 2 [some (.ref 41), some (.int x1), some (.int 0)] rfl rfl rfl (by decide) rfl ?_
      refine p_msk [true, false, true] (L2 := [some (.ref 41), none, some (.int 0)]) rfl ?_
      exact sX5_dayBut_L65 _ _ _ h
    · rw [if_neg hc] at h
      refine p_iload_n (k := 27) (i := 1) rfl rfl rfl ?_
      refine p_iload_n (k := 28) (i := 2) rfl rfl rfl ?_
      refine p_ishr (k := 29) rfl ?_
      refine p_iconst (k := 30) 1 rfl (by decide) ?_
      refine p_iand (k := 31) rfl ?_
      refine p_if_ne (k := 32) 57 rfl (by decide) (fun hc => ?_) (fun hc => ?_)
      · rw [if_neg hc] at h
        refine p_msk [true, true, true] (L2 := [some (.ref 41), some (.int x1), some (.int x2)]) rfl ?_
        exact sX5_dayBut_L57 ih h
      · rw [if_pos hc] at h
        refine p_aload_n (k := 33) (i := 0) rfl rfl rfl ?_
        refine p_iload_n (k := 34) (i := 2) rfl rfl rfl ?_
        refine p_iload_n (k := 35) (i := 1) rfl rfl rfl ?_
        obtain ⟨_, S1, hcS1, h⟩ := cl_some h
        refine p_callV (k := 36) [.int x2, .int x1] [] rfl (tX5_learnsOne hcS1) lay_X5 rfl lc_X5_learnsOne ml_RX5_138 mi_X5_learnsOne mv_X5_learnsOne (by decide) (by decide) (Nat.le_of_ble_eq_true rfl) rfl ?_
        refine p_msk [true, true, true] (L2 := [some (.ref 41), some (.int x1), some (.int x2)]) rfl ?_
        exact sX5_dayBut_L57 ih h
def fX5_dayBut_L2 : Nat → Int32 → Int32 → St → Option (Unit × St)
  | 0 => fun _ _ _ => none
  | n + 1 => fun x1 x2 S =>
    rd S 42 75 0 fun v1 =>
    if v1 ≤ x2 then
      fX5_dayBut_L33 FU x1 0 S
    else
      if ((x1 >>> (x2 &&& 31)) &&& 1) = 0 then
        cl (fX5_lives x2 S) fun _ S1 =>
        fX5_dayBut_L25 (fun x1 x2 S => fX5_dayBut_L2 n x1 x2 S) x1 x2 S1
      else
        fX5_dayBut_L25 (fun x1 x2 S => fX5_dayBut_L2 n x1 x2 S) x1 x2 S
theorem sX5_dayBut_L2 {r : Unit} {S9 : St} : ∀ (n : Nat) (x1 : Int32) (x2 : Int32) (S : St), fX5_dayBut_L2 n x1 x2 S = some (r, S9) → PW mX5_dayBut (none, S9) 2 [some (.ref 41), some (.int x1), some (.int x2)] [] S := by
  intro n
  induction n with
  | zero => intro x1 x2 S h; cases h
  | succ n ih =>
    intro x1 x2 S h
    unfold fX5_dayBut_L2 at h
    refine p_iload_n (k := 2) (i := 2) rfl rfl rfl ?_
    refine p_aload_n (k := 3) (i := 0) rfl rfl rfl ?_
    refine p_getr (k := 4) rfl lay_X5 rfl fl_RX5_7 ?_
    refine p_iconst (k := 5) 0 rfl (by decide) ?_
    refine s_rd h (k := 6) rfl lay_42 (fun v1 h => ?_)
    refine p_icmp_ge (k := 7) 31 rfl (by decide) (fun hc => ?_) (fun hc => ?_)
    · rw [if_pos hc] at h
      refine p_iconst (k := 19) 0 rfl (by decide) ?_
      refine p_istore_n (k := 20) 2 [some (.ref 41), some (.int x1), some (.int 0)] rfl rfl rfl (by decide) rfl ?_
      refine p_msk [true, true, true] (L2 := [some (.ref 41), some (.int x1), some (.int 0)]) rfl ?_
      exact sX5_dayBut_L33 _ _ _ _ h
    · rw [if_neg hc] at h
      refine p_iload_n (k := 8) (i := 1) rfl rfl rfl ?_
      refine p_iload_n (k := 9) (i := 2) rfl rfl rfl ?_
      refine p_ishr (k := 10) rfl ?_
      refine p_iconst (k := 11) 1 rfl (by decide) ?_
      refine p_iand (k := 12) rfl ?_
      refine p_if_ne (k := 13) 25 rfl (by decide) (fun hc => ?_) (fun hc => ?_)
      · rw [if_neg hc] at h
        refine p_msk [true, true, true] (L2 := [some (.ref 41), some (.int x1), some (.int x2)]) rfl ?_
        exact sX5_dayBut_L25 ih h
      · rw [if_pos hc] at h
        refine p_aload_n (k := 14) (i := 0) rfl rfl rfl ?_
        refine p_iload_n (k := 15) (i := 2) rfl rfl rfl ?_
        obtain ⟨_, S1, hcS1, h⟩ := cl_some h
        refine p_callV (k := 16) [.int x2] [] rfl (tX5_lives hcS1) lay_X5 rfl lc_X5_lives ml_RX5_134 mi_X5_lives mv_X5_lives (by decide) (by decide) (Nat.le_of_ble_eq_true rfl) rfl ?_
        refine p_msk [true, true, true] (L2 := [some (.ref 41), some (.int x1), some (.int x2)]) rfl ?_
        exact sX5_dayBut_L25 ih h
def fX5_dayBut (a1 : Int32) (S : St) : Option (Unit × St) :=
  fX5_dayBut_L2 FU a1 0 S
theorem sX5_dayBut {a1 : Int32} {S : St} {r : Unit} {S9 : St} (h : fX5_dayBut a1 S = some (r, S9)) : PW mX5_dayBut (none, S9) 0 [some (.ref 41), some (.int a1), none] [] S := by
  unfold fX5_dayBut at h
  refine p_iconst (k := 0) 0 rfl (by decide) ?_
  refine p_istore_n (k := 1) 2 [some (.ref 41), some (.int a1), some (.int 0)] rfl rfl rfl (by decide) rfl ?_
  refine p_msk [true, true, true] (L2 := [some (.ref 41), some (.int a1), some (.int 0)]) rfl ?_
  exact sX5_dayBut_L2 _ _ _ _ h
theorem tX5_dayBut {a1 : Int32} {S : St} {r : Unit} {S9 : St} (h : fX5_dayBut a1 S = some (r, S9)) : MR yX5_dayBut cX5_dayBut mX5_dayBut [.ref 41, .int a1] S (none, S9) := MR.of (n := 1) okX5_dayBut rfl rfl (sX5_dayBut h)
-- goes(I)V
def fX5_goes_L2 : Nat → Int32 → Int32 → St → Option (Unit × St)
  | 0 => fun _ _ _ => none
  | n + 1 => fun x1 x2 S =>
    if x1 ≤ x2 then
      some ((), S)
    else
      cl (fX5_dayBut 0 S) fun _ S1 =>
      bnd (x2 + 1) fun v1 =>
      fX5_goes_L2 n x1 v1 S1
theorem sX5_goes_L2 {r : Unit} {S9 : St} : ∀ (n : Nat) (x1 : Int32) (x2 : Int32) (S : St), fX5_goes_L2 n x1 x2 S = some (r, S9) → PW mX5_goes (none, S9) 2 [some (.ref 41), some (.int x1), some (.int x2)] [] S := by
  intro n
  induction n with
  | zero => intro x1 x2 S h; cases h
  | succ n ih =>
    intro x1 x2 S h
    unfold fX5_goes_L2 at h
    refine p_iload_n (k := 2) (i := 2) rfl rfl rfl ?_
    refine p_iload_n (k := 3) (i := 1) rfl rfl rfl ?_
    refine p_icmp_ge (k := 4) 18 rfl (by decide) (fun hc => ?_) (fun hc => ?_)
    · rw [if_pos hc] at h
      exact s_vret h (k := 10) rfl rfl
    · rw [if_neg hc] at h
      refine p_aload_n (k := 5) (i := 0) rfl rfl rfl ?_
      refine p_iconst (k := 6) 0 rfl (by decide) ?_
      obtain ⟨_, S1, hcS1, h⟩ := cl_some h
      refine p_callV (k := 7) [.int 0] [] rfl (tX5_dayBut hcS1) lay_X5 rfl lc_X5_dayBut ml_RX5_142 mi_X5_dayBut mv_X5_dayBut (by decide) (by decide) (Nat.le_of_ble_eq_true rfl) rfl ?_
      obtain ⟨v1, ev1, h⟩ := bnd_ex h
      refine p_iinc (k := 8) v1 [some (.ref 41), some (.int x1), some (.int v1)] rfl rfl (by rw [← ev1]; rfl) rfl (by decide) rfl ?_
      refine p_goto (k := 9) 2 rfl (by decide) ?_
      refine p_msk [true, true, true] (L2 := [some (.ref 41), some (.int x1), some (.int v1)]) rfl ?_
      exact ih _ _ _ h
def fX5_goes (a1 : Int32) (S : St) : Option (Unit × St) :=
  fX5_goes_L2 FU a1 0 S
theorem sX5_goes {a1 : Int32} {S : St} {r : Unit} {S9 : St} (h : fX5_goes a1 S = some (r, S9)) : PW mX5_goes (none, S9) 0 [some (.ref 41), some (.int a1), none] [] S := by
  unfold fX5_goes at h
  refine p_iconst (k := 0) 0 rfl (by decide) ?_
  refine p_istore_n (k := 1) 2 [some (.ref 41), some (.int a1), some (.int 0)] rfl rfl rfl (by decide) rfl ?_
  refine p_msk [true, true, true] (L2 := [some (.ref 41), some (.int a1), some (.int 0)]) rfl ?_
  exact sX5_goes_L2 _ _ _ _ h
theorem tX5_goes {a1 : Int32} {S : St} {r : Unit} {S9 : St} (h : fX5_goes a1 S = some (r, S9)) : MR yX5_goes cX5_goes mX5_goes [.ref 41, .int a1] S (none, S9) := MR.of (n := 1) okX5_goes rfl rfl (sX5_goes h)
-- go(I)I
def fX5_go (a1 : Int32) (S : St) : Option (Int32 × St) :=
  cl (fX5_isIn (Int32.toInt64 a1) 1 60 S) fun v1 S1 =>
  if v1 = 0 then
    cl (fX5_finds (-1000001) S1) fun v5 S5 =>
    some (v5, S5)
  else
    rd S1 42 75 1 fun v2 =>
    if (v2 + a1) ≤ 99999 then
      cl (fX5_goes a1 S1) fun _ S2 =>
      cl (fX5_knownAll S2) fun v3 S3 =>
      some (v3, S3)
    else
      cl (fX5_finds (-1000005) S1) fun v4 S4 =>
      some (v4, S4)
theorem sX5_go {a1 : Int32} {S : St} {r : Int32} {S9 : St} (h : fX5_go a1 S = some (r, S9)) : PW mX5_go (some (.int r), S9) 0 [some (.ref 41), some (.int a1)] [] S := by
  unfold fX5_go at h
  refine p_iload_n (k := 0) (i := 1) rfl rfl rfl ?_
  refine p_i2l (k := 1) rfl ?_
  refine p_lconst (k := 2) 1 rfl (by decide) ?_
  refine p_ldc2 (k := 3) rfl k_RX5_145 ?_
  obtain ⟨v1, S1, hcS1, h⟩ := cl_some h
  refine p_callS (k := 4) [.long (Int32.toInt64 a1), .long 1, .long 60] [] rfl (tX5_isIn hcS1) lc_X5_isIn ml_RX5_49 ms_X5_isIn (by decide) (by decide) (Nat.le_of_ble_eq_true rfl) rfl ?_
  refine p_if_ne (k := 5) 19 rfl (by decide) (fun hc => ?_) (fun hc => ?_)
  · rw [if_neg hc] at h
    refine p_aload_n (k := 10) (i := 0) rfl rfl rfl ?_
    refine p_getr (k := 11) rfl lay_X5 rfl fl_RX5_7 ?_
    refine p_iconst (k := 12) 1 rfl (by decide) ?_
    refine s_rd h (k := 13) rfl lay_42 (fun v2 h => ?_)
    refine p_iload_n (k := 14) (i := 1) rfl rfl rfl ?_
    refine p_iadd (k := 15) rfl ?_
    refine p_ldc (k := 16) rfl k_RX5_147 ?_
    refine p_icmp_le (k := 17) 39 rfl (by decide) (fun hc => ?_) (fun hc => ?_)
    · rw [if_pos hc] at h
      refine p_aload_n (k := 22) (i := 0) rfl rfl rfl ?_
      refine p_iload_n (k := 23) (i := 1) rfl rfl rfl ?_
      obtain ⟨_, S2, hcS2, h⟩ := cl_some h
      refine p_callV (k := 24) [.int a1] [] rfl (tX5_goes hcS2) lay_X5 rfl lc_X5_goes ml_RX5_148 mi_X5_goes mv_X5_goes (by decide) (by decide) (Nat.le_of_ble_eq_true rfl) rfl ?_
      refine p_aload_n (k := 25) (i := 0) rfl rfl rfl ?_
      obtain ⟨v3, S3, hcS3, h⟩ := cl_some h
      refine p_callV (k := 26) [] [] rfl (tX5_knownAll hcS3) lay_X5 rfl lc_X5_knownAll ml_RX5_151 mi_X5_knownAll mv_X5_knownAll (by decide) (by decide) (Nat.le_of_ble_eq_true rfl) rfl ?_
      exact s_iret h (k := 27) rfl rfl
    · rw [if_neg hc] at h
      refine p_aload_n (k := 18) (i := 0) rfl rfl rfl ?_
      refine p_ldc (k := 19) rfl k_RX5_124 ?_
      obtain ⟨v4, S4, hcS4, h⟩ := cl_some h
      refine p_callV (k := 20) [.int (-1000005)] [] rfl (tX5_finds hcS4) lay_X5 rfl lc_X5_finds ml_RX5_39 mi_X5_finds mv_X5_finds (by decide) (by decide) (Nat.le_of_ble_eq_true rfl) rfl ?_
      exact s_iret h (k := 21) rfl rfl
  · rw [if_pos hc] at h
    refine p_aload_n (k := 6) (i := 0) rfl rfl rfl ?_
    refine p_ldc (k := 7) rfl k_RX5_37 ?_
    obtain ⟨v5, S5, hcS5, h⟩ := cl_some h
    refine p_callV (k := 8) [.int (-1000001)] [] rfl (tX5_finds hcS5) lay_X5 rfl lc_X5_finds ml_RX5_39 mi_X5_finds mv_X5_finds (by decide) (by decide) (Nat.le_of_ble_eq_true rfl) rfl ?_
    exact s_iret h (k := 9) rfl rfl
theorem tX5_go {a1 : Int32} {S : St} {r : Int32} {S9 : St} (h : fX5_go a1 S = some (r, S9)) : MR yX5_go cX5_go mX5_go [.ref 41, .int a1] S (some (.int r), S9) := MR.of (n := 0) okX5_go rfl rfl (sX5_go h)
-- grassAll()I
def fX5_grassAll_L4 : Nat → Int32 → Int32 → St → Option (Int32 × St)
  | 0 => fun _ _ _ => none
  | n + 1 => fun x1 x2 S =>
    if 12 ≤ x2 then
      some (x1, S)
    else
      rd S 42 75 (5 + x2) fun v1 =>
      bnd (x1 + v1) fun v2 =>
      bnd (x2 + 1) fun v3 =>
      fX5_grassAll_L4 n v2 v3 S
theorem sX5_grassAll_L4 {r : Int32} {S9 : St} : ∀ (n : Nat) (x1 : Int32) (x2 : Int32) (S : St), fX5_grassAll_L4 n x1 x2 S = some (r, S9) → PW mX5_grassAll (some (.int r), S9) 4 [some (.ref 41), some (.int x1), some (.int x2)] [] S := by
  intro n
  induction n with
  | zero => intro x1 x2 S h; cases h
  | succ n ih =>
    intro x1 x2 S h
    unfold fX5_grassAll_L4 at h
    refine p_iload_n (k := 4) (i := 2) rfl rfl rfl ?_
    refine p_bipush (k := 5) 12 rfl (by decide) ?_
    refine p_icmp_ge (k := 6) 27 rfl (by decide) (fun hc => ?_) (fun hc => ?_)
    · rw [if_pos hc] at h
      refine p_iload_n (k := 18) (i := 1) rfl rfl rfl ?_
      exact s_iret h (k := 19) rfl rfl
    · rw [if_neg hc] at h
      refine p_iload_n (k := 7) (i := 1) rfl rfl rfl ?_
      refine p_aload_n (k := 8) (i := 0) rfl rfl rfl ?_
      refine p_getr (k := 9) rfl lay_X5 rfl fl_RX5_7 ?_
      refine p_iconst (k := 10) 5 rfl (by decide) ?_
      refine p_iload_n (k := 11) (i := 2) rfl rfl rfl ?_
      refine p_iadd (k := 12) rfl ?_
      refine s_rd h (k := 13) rfl lay_42 (fun v1 h => ?_)
      refine p_iadd (k := 14) rfl ?_
      refine s_bnd h (fun v2 h => ?_)
      refine p_istore_n (k := 15) 1 [some (.ref 41), some (.int v2), some (.int x2)] rfl rfl rfl (by decide) rfl ?_
      obtain ⟨v3, ev3, h⟩ := bnd_ex h
      refine p_iinc (k := 16) v3 [some (.ref 41), some (.int v2), some (.int v3)] rfl rfl (by rw [← ev3]; rfl) rfl (by decide) rfl ?_
      refine p_goto (k := 17) 4 rfl (by decide) ?_
      refine p_msk [true, true, true] (L2 := [some (.ref 41), some (.int v2), some (.int v3)]) rfl ?_
      exact ih _ _ _ h
def fX5_grassAll (S : St) : Option (Int32 × St) :=
  fX5_grassAll_L4 FU 0 0 S
theorem sX5_grassAll {S : St} {r : Int32} {S9 : St} (h : fX5_grassAll S = some (r, S9)) : PW mX5_grassAll (some (.int r), S9) 0 [some (.ref 41), none, none] [] S := by
  unfold fX5_grassAll at h
  refine p_iconst (k := 0) 0 rfl (by decide) ?_
  refine p_istore_n (k := 1) 1 [some (.ref 41), some (.int 0), none] rfl rfl rfl (by decide) rfl ?_
  refine p_iconst (k := 2) 0 rfl (by decide) ?_
  refine p_istore_n (k := 3) 2 [some (.ref 41), some (.int 0), some (.int 0)] rfl rfl rfl (by decide) rfl ?_
  refine p_msk [true, true, true] (L2 := [some (.ref 41), some (.int 0), some (.int 0)]) rfl ?_
  exact sX5_grassAll_L4 _ _ _ _ h
theorem tX5_grassAll {S : St} {r : Int32} {S9 : St} (h : fX5_grassAll S = some (r, S9)) : MR yX5_grassAll cX5_grassAll mX5_grassAll [.ref 41] S (some (.int r), S9) := MR.of (n := 2) okX5_grassAll rfl rfl (sX5_grassAll h)
-- livedOn()I
def fX5_livedOn_L4 : Nat → Int32 → Int32 → St → Option (Int32 × St)
  | 0 => fun _ _ _ => none
  | n + 1 => fun x1 x2 S =>
    rd S 42 75 0 fun v1 =>
    if v1 ≤ x2 then
      some (x1, S)
    else
      cl (fX5_its x2 1 S) fun v2 S1 =>
      bnd (x1 ||| (1 <<< (v2 &&& 31))) fun v3 =>
      bnd (x2 + 1) fun v4 =>
      fX5_livedOn_L4 n v3 v4 S1
theorem sX5_livedOn_L4 {r : Int32} {S9 : St} : ∀ (n : Nat) (x1 : Int32) (x2 : Int32) (S : St), fX5_livedOn_L4 n x1 x2 S = some (r, S9) → PW mX5_livedOn (some (.int r), S9) 4 [some (.ref 41), some (.int x1), some (.int x2)] [] S := by
  intro n
  induction n with
  | zero => intro x1 x2 S h; cases h
  | succ n ih =>
    intro x1 x2 S h
    unfold fX5_livedOn_L4 at h
    refine p_iload_n (k := 4) (i := 2) rfl rfl rfl ?_
    refine p_aload_n (k := 5) (i := 0) rfl rfl rfl ?_
    refine p_getr (k := 6) rfl lay_X5 rfl fl_RX5_7 ?_
    refine p_iconst (k := 7) 0 rfl (by decide) ?_
    refine s_rd h (k := 8) rfl lay_42 (fun v1 h => ?_)
    refine p_icmp_ge (k := 9) 31 rfl (by decide) (fun hc => ?_) (fun hc => ?_)
    · rw [if_pos hc] at h
      refine p_iload_n (k := 21) (i := 1) rfl rfl rfl ?_
      exact s_iret h (k := 22) rfl rfl
    · rw [if_neg hc] at h
      refine p_iload_n (k := 10) (i := 1) rfl rfl rfl ?_
      refine p_iconst (k := 11) 1 rfl (by decide) ?_
      refine p_aload_n (k := 12) (i := 0) rfl rfl rfl ?_
      refine p_iload_n (k := 13) (i := 2) rfl rfl rfl ?_
      refine p_iconst (k := 14) 1 rfl (by decide) ?_
      obtain ⟨v2, S1, hcS1, h⟩ := cl_some h
      refine p_callV (k := 15) [.int x2, .int 1] [.int 1, .int x1] rfl (tX5_its hcS1) lay_X5 rfl lc_X5_its ml_RX5_57 mi_X5_its mv_X5_its (by decide) (by decide) (Nat.le_of_ble_eq_true rfl) rfl ?_
      refine p_ishl (k := 16) rfl ?_
      refine p_ior (k := 17) rfl ?_
      refine s_bnd h (fun v3 h => ?_)
      refine p_istore_n (k := 18) 1 [some (.ref 41), some (.int v3), some (.int x2)] rfl rfl rfl (by decide) rfl ?_
      obtain ⟨v4, ev4, h⟩ := bnd_ex h
      refine p_iinc (k := 19) v4 [some (.ref 41), some (.int v3), some (.int v4)] rfl rfl (by rw [← ev4]; rfl) rfl (by decide) rfl ?_
      refine p_goto (k := 20) 4 rfl (by decide) ?_
      refine p_msk [true, true, true] (L2 := [some (.ref 41), some (.int v3), some (.int v4)]) rfl ?_
      exact ih _ _ _ h
def fX5_livedOn (S : St) : Option (Int32 × St) :=
  fX5_livedOn_L4 FU 0 0 S
theorem sX5_livedOn {S : St} {r : Int32} {S9 : St} (h : fX5_livedOn S = some (r, S9)) : PW mX5_livedOn (some (.int r), S9) 0 [some (.ref 41), none, none] [] S := by
  unfold fX5_livedOn at h
  refine p_iconst (k := 0) 0 rfl (by decide) ?_
  refine p_istore_n (k := 1) 1 [some (.ref 41), some (.int 0), none] rfl rfl rfl (by decide) rfl ?_
  refine p_iconst (k := 2) 0 rfl (by decide) ?_
  refine p_istore_n (k := 3) 2 [some (.ref 41), some (.int 0), some (.int 0)] rfl rfl rfl (by decide) rfl ?_
  refine p_msk [true, true, true] (L2 := [some (.ref 41), some (.int 0), some (.int 0)]) rfl ?_
  exact sX5_livedOn_L4 _ _ _ _ h
theorem tX5_livedOn {S : St} {r : Int32} {S9 : St} (h : fX5_livedOn S = some (r, S9)) : MR yX5_livedOn cX5_livedOn mX5_livedOn [.ref 41] S (some (.int r), S9) := MR.of (n := 2) okX5_livedOn rfl rfl (sX5_livedOn h)
-- wisest()I
def fX5_wisest_L53 (k17 : Int32 → Int32 → St → Option (Int32 × St)) (x2 : Int32) (y0 : Int32) (S : St) : Option (Int32 × St) :=
  bnd (x2 + 1) fun v1 =>
  k17 y0 v1 S
theorem sX5_wisest_L53 {r : Int32} {S9 : St} {k17 : Int32 → Int32 → St → Option (Int32 × St)} (hk17 : ∀ x1 x2 S, k17 x1 x2 S = some (r, S9) → PW mX5_wisest (some (.int r), S9) 17 [some (.ref 41), some (.int x1), some (.int x2)] [] S) {x2 : Int32} {y0 : Int32} {S : St} (h : fX5_wisest_L53 k17 x2 y0 S = some (r, S9)) : PW mX5_wisest (some (.int r), S9) 53 [some (.ref 41), none, some (.int x2)] [.int y0] S := by
  unfold fX5_wisest_L53 at h
  refine p_istore_n (k := 31) 1 [some (.ref 41), some (.int y0), some (.int x2)] rfl rfl rfl (by decide) rfl ?_
  obtain ⟨v1, ev1, h⟩ := bnd_ex h
  refine p_iinc (k := 32) v1 [some (.ref 41), some (.int y0), some (.int v1)] rfl rfl (by rw [← ev1]; rfl) rfl (by decide) rfl ?_
  refine p_goto (k := 33) 17 rfl (by decide) ?_
  refine p_msk [true, true, true] (L2 := [some (.ref 41), some (.int y0), some (.int v1)]) rfl ?_
  exact hk17 _ _ _ h
def fX5_wisest_L17 : Nat → Int32 → Int32 → St → Option (Int32 × St)
  | 0 => fun _ _ _ => none
  | n + 1 => fun x1 x2 S =>
    rd S 42 75 0 fun v1 =>
    if v1 ≤ x2 then
      some (x1, S)
    else
      cl (fX5_its x2 2 S) fun v2 S1 =>
      cl (fX5_many v2 S1) fun v3 S2 =>
      cl (fX5_its x1 2 S2) fun v4 S3 =>
      cl (fX5_many v4 S3) fun v5 S4 =>
      if v3 ≤ v5 then
        fX5_wisest_L53 (fun x1 x2 S => fX5_wisest_L17 n x1 x2 S) x2 x1 S4
      else
        fX5_wisest_L53 (fun x1 x2 S => fX5_wisest_L17 n x1 x2 S) x2 x2 S4
theorem sX5_wisest_L17 {r : Int32} {S9 : St} : ∀ (n : Nat) (x1 : Int32) (x2 : Int32) (S : St), fX5_wisest_L17 n x1 x2 S = some (r, S9) → PW mX5_wisest (some (.int r), S9) 17 [some (.ref 41), some (.int x1), some (.int x2)] [] S := by
  intro n
  induction n with
  | zero => intro x1 x2 S h; cases h
  | succ n ih =>
    intro x1 x2 S h
    unfold fX5_wisest_L17 at h
    refine p_iload_n (k := 11) (i := 2) rfl rfl rfl ?_
    refine p_aload_n (k := 12) (i := 0) rfl rfl rfl ?_
    refine p_getr (k := 13) rfl lay_X5 rfl fl_RX5_7 ?_
    refine p_iconst (k := 14) 0 rfl (by decide) ?_
    refine s_rd h (k := 15) rfl lay_42 (fun v1 h => ?_)
    refine p_icmp_ge (k := 16) 60 rfl (by decide) (fun hc => ?_) (fun hc => ?_)
    · rw [if_pos hc] at h
      refine p_iload_n (k := 34) (i := 1) rfl rfl rfl ?_
      exact s_iret h (k := 35) rfl rfl
    · rw [if_neg hc] at h
      refine p_aload_n (k := 17) (i := 0) rfl rfl rfl ?_
      refine p_iload_n (k := 18) (i := 2) rfl rfl rfl ?_
      refine p_iconst (k := 19) 2 rfl (by decide) ?_
      obtain ⟨v2, S1, hcS1, h⟩ := cl_some h
      refine p_callV (k := 20) [.int x2, .int 2] [] rfl (tX5_its hcS1) lay_X5 rfl lc_X5_its ml_RX5_57 mi_X5_its mv_X5_its (by decide) (by decide) (Nat.le_of_ble_eq_true rfl) rfl ?_
      obtain ⟨v3, S2, hcS2, h⟩ := cl_some h
      refine p_callS (k := 21) [.int v2] [] rfl (tX5_many hcS2) lc_X5_many ml_RX5_86 ms_X5_many (by decide) (by decide) (Nat.le_of_ble_eq_true rfl) rfl ?_
      refine p_aload_n (k := 22) (i := 0) rfl rfl rfl ?_
      refine p_iload_n (k := 23) (i := 1) rfl rfl rfl ?_
      refine p_iconst (k := 24) 2 rfl (by decide) ?_
      obtain ⟨v4, S3, hcS3, h⟩ := cl_some h
      refine p_callV (k := 25) [.int x1, .int 2] [.int v3] rfl (tX5_its hcS3) lay_X5 rfl lc_X5_its ml_RX5_57 mi_X5_its mv_X5_its (by decide) (by decide) (Nat.le_of_ble_eq_true rfl) rfl ?_
      obtain ⟨v5, S4, hcS4, h⟩ := cl_some h
      refine p_callS (k := 26) [.int v4] [.int v3] rfl (tX5_many hcS4) lc_X5_many ml_RX5_86 ms_X5_many (by decide) (by decide) (Nat.le_of_ble_eq_true rfl) rfl ?_
      refine p_icmp_le (k := 27) 52 rfl (by decide) (fun hc => ?_) (fun hc => ?_)
      · rw [if_pos hc] at h
        refine p_iload_n (k := 30) (i := 1) rfl rfl rfl ?_
        refine p_msk [true, false, true] (L2 := [some (.ref 41), none, some (.int x2)]) rfl ?_
        exact sX5_wisest_L53 ih h
      · rw [if_neg hc] at h
        refine p_iload_n (k := 28) (i := 2) rfl rfl rfl ?_
        refine p_goto (k := 29) 53 rfl (by decide) ?_
        refine p_msk [true, false, true] (L2 := [some (.ref 41), none, some (.int x2)]) rfl ?_
        exact sX5_wisest_L53 ih h
def fX5_wisest_L14 (y0 : Int32) (S : St) : Option (Int32 × St) :=
  fX5_wisest_L17 FU y0 1 S
theorem sX5_wisest_L14 {r : Int32} {S9 : St} {y0 : Int32} {S : St} (h : fX5_wisest_L14 y0 S = some (r, S9)) : PW mX5_wisest (some (.int r), S9) 14 [some (.ref 41), none, none] [.int y0] S := by
  unfold fX5_wisest_L14 at h
  refine p_istore_n (k := 8) 1 [some (.ref 41), some (.int y0), none] rfl rfl rfl (by decide) rfl ?_
  refine p_iconst (k := 9) 1 rfl (by decide) ?_
  refine p_istore_n (k := 10) 2 [some (.ref 41), some (.int y0), some (.int 1)] rfl rfl rfl (by decide) rfl ?_
  refine p_msk [true, true, true] (L2 := [some (.ref 41), some (.int y0), some (.int 1)]) rfl ?_
  exact sX5_wisest_L17 _ _ _ _ h
def fX5_wisest (S : St) : Option (Int32 × St) :=
  rd S 42 75 0 fun v1 =>
  if v1 = 0 then
    fX5_wisest_L14 (-1) S
  else
    fX5_wisest_L14 0 S
theorem sX5_wisest {S : St} {r : Int32} {S9 : St} (h : fX5_wisest S = some (r, S9)) : PW mX5_wisest (some (.int r), S9) 0 [some (.ref 41), none, none] [] S := by
  unfold fX5_wisest at h
  refine p_aload_n (k := 0) (i := 0) rfl rfl rfl ?_
  refine p_getr (k := 1) rfl lay_X5 rfl fl_RX5_7 ?_
  refine p_iconst (k := 2) 0 rfl (by decide) ?_
  refine s_rd h (k := 3) rfl lay_42 (fun v1 h => ?_)
  refine p_if_ne (k := 4) 13 rfl (by decide) (fun hc => ?_) (fun hc => ?_)
  · rw [if_neg hc] at h
    refine p_iconst (k := 7) 0 rfl (by decide) ?_
    refine p_msk [true, false, false] (L2 := [some (.ref 41), none, none]) rfl ?_
    exact sX5_wisest_L14 h
  · rw [if_pos hc] at h
    refine p_iconst (k := 5) (-1) rfl (by decide) ?_
    refine p_goto (k := 6) 14 rfl (by decide) ?_
    refine p_msk [true, false, false] (L2 := [some (.ref 41), none, none]) rfl ?_
    exact sX5_wisest_L14 h
theorem tX5_wisest {S : St} {r : Int32} {S9 : St} (h : fX5_wisest S = some (r, S9)) : MR yX5_wisest cX5_wisest mX5_wisest [.ref 41] S (some (.int r), S9) := MR.of (n := 2) okX5_wisest rfl rfl (sX5_wisest h)
-- now(I)I
def fX5_now_L73 : Nat → Int32 → Int32 → St → Option (Int32 × St)
  | 0 => fun _ _ _ => none
  | n + 1 => fun x2 x3 S =>
    rd S 42 75 0 fun v1 =>
    if v1 ≤ x3 then
      some (x2, S)
    else
      cl (fX5_its x3 4 S) fun v2 S1 =>
      bnd (x2 + v2) fun v3 =>
      bnd (x3 + 1) fun v4 =>
      fX5_now_L73 n v3 v4 S1
theorem sX5_now_L73 {r : Int32} {S9 : St} : ∀ (n : Nat) (x2 : Int32) (x3 : Int32) (S : St), fX5_now_L73 n x2 x3 S = some (r, S9) → PW mX5_now (some (.int r), S9) 73 [some (.ref 41), none, some (.int x2), some (.int x3)] [] S := by
  intro n
  induction n with
  | zero => intro x2 x3 S h; cases h
  | succ n ih =>
    intro x2 x3 S h
    unfold fX5_now_L73 at h
    refine p_iload_n (k := 24) (i := 3) rfl rfl rfl ?_
    refine p_aload_n (k := 25) (i := 0) rfl rfl rfl ?_
    refine p_getr (k := 26) rfl lay_X5 rfl fl_RX5_7 ?_
    refine p_iconst (k := 27) 0 rfl (by decide) ?_
    refine s_rd h (k := 28) rfl lay_42 (fun v1 h => ?_)
    refine p_icmp_ge (k := 29) 98 rfl (by decide) (fun hc => ?_) (fun hc => ?_)
    · rw [if_pos hc] at h
      refine p_iload_n (k := 39) (i := 2) rfl rfl rfl ?_
      exact s_iret h (k := 40) rfl rfl
    · rw [if_neg hc] at h
      refine p_iload_n (k := 30) (i := 2) rfl rfl rfl ?_
      refine p_aload_n (k := 31) (i := 0) rfl rfl rfl ?_
      refine p_iload_n (k := 32) (i := 3) rfl rfl rfl ?_
      refine p_iconst (k := 33) 4 rfl (by decide) ?_
      obtain ⟨v2, S1, hcS1, h⟩ := cl_some h
      refine p_callV (k := 34) [.int x3, .int 4] [.int x2] rfl (tX5_its hcS1) lay_X5 rfl lc_X5_its ml_RX5_57 mi_X5_its mv_X5_its (by decide) (by decide) (Nat.le_of_ble_eq_true rfl) rfl ?_
      refine p_iadd (k := 35) rfl ?_
      refine s_bnd h (fun v3 h => ?_)
      refine p_istore_n (k := 36) 2 [some (.ref 41), none, some (.int v3), some (.int x3)] rfl rfl rfl (by decide) rfl ?_
      obtain ⟨v4, ev4, h⟩ := bnd_ex h
      refine p_iinc (k := 37) v4 [some (.ref 41), none, some (.int v3), some (.int v4)] rfl rfl (by rw [← ev4]; rfl) rfl (by decide) rfl ?_
      refine p_goto (k := 38) 73 rfl (by decide) ?_
      refine p_msk [true, false, true, true] (L2 := [some (.ref 41), none, some (.int v3), some (.int v4)]) rfl ?_
      exact ih _ _ _ h
def fX5_now (a1 : Int32) (S : St) : Option (Int32 × St) :=
  if a1 = 0 then
    rd S 42 75 1 fun v1 =>
    some (v1, S)
  else
  if a1 = 1 then
    cl (fX5_knownAll S) fun v2 S1 =>
    some (v2, S1)
  else
  if a1 = 2 then
    cl (fX5_knownAll S) fun v3 S2 =>
    some (65535 &&& (v3 ^^^ (-1)), S2)
  else
  if a1 = 3 then
    cl (fX5_grassAll S) fun v4 S3 =>
    some (v4, S3)
  else
  if a1 = 4 then
    fX5_now_L73 FU 0 0 S
  else
  if a1 = 5 then
    cl (fX5_livedOn S) fun v5 S4 =>
    some (v5, S4)
  else
  if a1 = 6 then
    cl (fX5_wisest S) fun v6 S5 =>
    some (v6, S5)
  else
  cl (fX5_finds (-1000001) S) fun v7 S6 =>
  some (v7, S6)
theorem sX5_now {a1 : Int32} {S : St} {r : Int32} {S9 : St} (h : fX5_now a1 S = some (r, S9)) : PW mX5_now (some (.int r), S9) 0 [some (.ref 41), some (.int a1), none, none] [] S := by
  unfold fX5_now at h
  refine p_iconst (k := 0) 0 rfl (by decide) ?_
  refine p_istore_n (k := 1) 2 [some (.ref 41), some (.int a1), some (.int 0), none] rfl rfl rfl (by decide) rfl ?_
  refine p_iload_n (k := 2) (i := 1) rfl rfl rfl ?_
  by_cases hx0 : a1 = 0
  · rw [if_pos hx0] at h
    refine p_tableIn (k := 3) (off := 41) 44 rfl (by rw [hx0]; decide) (by rw [hx0]; decide) (by rw [hx0]; decide) (by decide) ?_
    refine p_aload_n (k := 4) (i := 0) rfl rfl rfl ?_
    refine p_getr (k := 5) rfl lay_X5 rfl fl_RX5_7 ?_
    refine p_iconst (k := 6) 1 rfl (by decide) ?_
    refine s_rd h (k := 7) rfl lay_42 (fun v1 h => ?_)
    exact s_iret h (k := 8) rfl rfl
  rw [if_neg hx0] at h
  by_cases hx1 : a1 = 1
  · rw [if_pos hx1] at h
    refine p_tableIn (k := 3) (off := 48) 51 rfl (by rw [hx1]; decide) (by rw [hx1]; decide) (by rw [hx1]; decide) (by decide) ?_
    refine p_aload_n (k := 9) (i := 0) rfl rfl rfl ?_
    obtain ⟨v2, S1, hcS1, h⟩ := cl_some h
    refine p_callV (k := 10) [] [] rfl (tX5_knownAll hcS1) lay_X5 rfl lc_X5_knownAll ml_RX5_151 mi_X5_knownAll mv_X5_knownAll (by decide) (by decide) (Nat.le_of_ble_eq_true rfl) rfl ?_
    exact s_iret h (k := 11) rfl rfl
  rw [if_neg hx1] at h
  by_cases hx2 : a1 = 2
  · rw [if_pos hx2] at h
    refine p_tableIn (k := 3) (off := 53) 56 rfl (by rw [hx2]; decide) (by rw [hx2]; decide) (by rw [hx2]; decide) (by decide) ?_
    refine p_ldc (k := 12) rfl k_RX5_112 ?_
    refine p_aload_n (k := 13) (i := 0) rfl rfl rfl ?_
    obtain ⟨v3, S2, hcS2, h⟩ := cl_some h
    refine p_callV (k := 14) [] [.int 65535] rfl (tX5_knownAll hcS2) lay_X5 rfl lc_X5_knownAll ml_RX5_151 mi_X5_knownAll mv_X5_knownAll (by decide) (by decide) (Nat.le_of_ble_eq_true rfl) rfl ?_
    refine p_iconst (k := 15) (-1) rfl (by decide) ?_
    refine p_ixor (k := 16) rfl ?_
    refine p_iand (k := 17) rfl ?_
    exact s_iret h (k := 18) rfl rfl
  rw [if_neg hx2] at h
  by_cases hx3 : a1 = 3
  · rw [if_pos hx3] at h
    refine p_tableIn (k := 3) (off := 63) 66 rfl (by rw [hx3]; decide) (by rw [hx3]; decide) (by rw [hx3]; decide) (by decide) ?_
    refine p_aload_n (k := 19) (i := 0) rfl rfl rfl ?_
    obtain ⟨v4, S3, hcS3, h⟩ := cl_some h
    refine p_callV (k := 20) [] [] rfl (tX5_grassAll hcS3) lay_X5 rfl lc_X5_grassAll ml_RX5_155 mi_X5_grassAll mv_X5_grassAll (by decide) (by decide) (Nat.le_of_ble_eq_true rfl) rfl ?_
    exact s_iret h (k := 21) rfl rfl
  rw [if_neg hx3] at h
  by_cases hx4 : a1 = 4
  · rw [if_pos hx4] at h
    refine p_tableIn (k := 3) (off := 68) 71 rfl (by rw [hx4]; decide) (by rw [hx4]; decide) (by rw [hx4]; decide) (by decide) ?_
    refine p_iconst (k := 22) 0 rfl (by decide) ?_
    refine p_istore_n (k := 23) 3 [some (.ref 41), some (.int a1), some (.int 0), some (.int 0)] rfl rfl rfl (by decide) rfl ?_
    refine p_msk [true, false, true, true] (L2 := [some (.ref 41), none, some (.int 0), some (.int 0)]) rfl ?_
    exact sX5_now_L73 _ _ _ _ h
  rw [if_neg hx4] at h
  by_cases hx5 : a1 = 5
  · rw [if_pos hx5] at h
    refine p_tableIn (k := 3) (off := 97) 100 rfl (by rw [hx5]; decide) (by rw [hx5]; decide) (by rw [hx5]; decide) (by decide) ?_
    refine p_aload_n (k := 41) (i := 0) rfl rfl rfl ?_
    obtain ⟨v5, S4, hcS4, h⟩ := cl_some h
    refine p_callV (k := 42) [] [] rfl (tX5_livedOn hcS4) lay_X5 rfl lc_X5_livedOn ml_RX5_158 mi_X5_livedOn mv_X5_livedOn (by decide) (by decide) (Nat.le_of_ble_eq_true rfl) rfl ?_
    exact s_iret h (k := 43) rfl rfl
  rw [if_neg hx5] at h
  by_cases hx6 : a1 = 6
  · rw [if_pos hx6] at h
    refine p_tableIn (k := 3) (off := 102) 105 rfl (by rw [hx6]; decide) (by rw [hx6]; decide) (by rw [hx6]; decide) (by decide) ?_
    refine p_aload_n (k := 44) (i := 0) rfl rfl rfl ?_
    obtain ⟨v6, S5, hcS5, h⟩ := cl_some h
    refine p_callV (k := 45) [] [] rfl (tX5_wisest hcS5) lay_X5 rfl lc_X5_wisest ml_RX5_161 mi_X5_wisest mv_X5_wisest (by decide) (by decide) (Nat.le_of_ble_eq_true rfl) rfl ?_
    exact s_iret h (k := 46) rfl rfl
  rw [if_neg hx6] at h
  have hz0 := toInt_ne hx0 (z := 0) (by decide)
  have hz1 := toInt_ne hx1 (z := 1) (by decide)
  have hz2 := toInt_ne hx2 (z := 2) (by decide)
  have hz3 := toInt_ne hx3 (z := 3) (by decide)
  have hz4 := toInt_ne hx4 (z := 4) (by decide)
  have hz5 := toInt_ne hx5 (z := 5) (by decide)
  have hz6 := toInt_ne hx6 (z := 6) (by decide)
  refine p_tableOut (k := 3) 110 rfl (by omega) (by decide) ?_
  refine p_aload_n (k := 47) (i := 0) rfl rfl rfl ?_
  refine p_ldc (k := 48) rfl k_RX5_37 ?_
  obtain ⟨v7, S6, hcS6, h⟩ := cl_some h
  refine p_callV (k := 49) [.int (-1000001)] [] rfl (tX5_finds hcS6) lay_X5 rfl lc_X5_finds ml_RX5_39 mi_X5_finds mv_X5_finds (by decide) (by decide) (Nat.le_of_ble_eq_true rfl) rfl ?_
  exact s_iret h (k := 50) rfl rfl
theorem tX5_now {a1 : Int32} {S : St} {r : Int32} {S9 : St} (h : fX5_now a1 S = some (r, S9)) : MR yX5_now cX5_now mX5_now [.ref 41, .int a1] S (some (.int r), S9) := MR.of (n := 2) okX5_now rfl rfl (sX5_now h)
-- who(I)I
def fX5_who_L50 (k18 : Int32 → Int32 → Int32 → St → Option (Int32 × St)) (x1 : Int32) (x3 : Int32) (y0 : Int32) (y1 : Int32) (S : St) : Option (Int32 × St) :=
  bnd (y0 ||| y1) fun v1 =>
  bnd (x3 + 1) fun v2 =>
  k18 x1 v1 v2 S
theorem sX5_who_L50 {r : Int32} {S9 : St} {k18 : Int32 → Int32 → Int32 → St → Option (Int32 × St)} (hk18 : ∀ x1 x2 x3 S, k18 x1 x2 x3 S = some (r, S9) → PW mX5_who (some (.int r), S9) 18 [some (.ref 41), some (.int x1), some (.int x2), some (.int x3)] [] S) {x1 : Int32} {x3 : Int32} {y0 : Int32} {y1 : Int32} {S : St} (h : fX5_who_L50 k18 x1 x3 y0 y1 S = some (r, S9)) : PW mX5_who (some (.int r), S9) 50 [some (.ref 41), some (.int x1), none, some (.int x3)] [.int y1, .int y0] S := by
  unfold fX5_who_L50 at h
  refine p_ior (k := 33) rfl ?_
  refine s_bnd h (fun v1 h => ?_)
  refine p_istore_n (k := 34) 2 [some (.ref 41), some (.int x1), some (.int v1), some (.int x3)] rfl rfl rfl (by decide) rfl ?_
  obtain ⟨v2, ev2, h⟩ := bnd_ex h
  refine p_iinc (k := 35) v2 [some (.ref 41), some (.int x1), some (.int v1), some (.int v2)] rfl rfl (by rw [← ev2]; rfl) rfl (by decide) rfl ?_
  refine p_goto (k := 36) 18 rfl (by decide) ?_
  refine p_msk [true, true, true, true] (L2 := [some (.ref 41), some (.int x1), some (.int v1), some (.int v2)]) rfl ?_
  exact hk18 _ _ _ _ h
def fX5_who_L18 : Nat → Int32 → Int32 → Int32 → St → Option (Int32 × St)
  | 0 => fun _ _ _ _ => none
  | n + 1 => fun x1 x2 x3 S =>
    rd S 42 75 0 fun v1 =>
    if v1 ≤ x3 then
      some (x2, S)
    else
      cl (fX5_its x3 2 S) fun v2 S1 =>
      if ((v2 >>> (x1 &&& 31)) &&& 1) = 1 then
        fX5_who_L50 (fun x1 x2 x3 S => fX5_who_L18 n x1 x2 x3 S) x1 x3 x2 (1 <<< (x3 &&& 31)) S1
      else
        fX5_who_L50 (fun x1 x2 x3 S => fX5_who_L18 n x1 x2 x3 S) x1 x3 x2 0 S1
theorem sX5_who_L18 {r : Int32} {S9 : St} : ∀ (n : Nat) (x1 : Int32) (x2 : Int32) (x3 : Int32) (S : St), fX5_who_L18 n x1 x2 x3 S = some (r, S9) → PW mX5_who (some (.int r), S9) 18 [some (.ref 41), some (.int x1), some (.int x2), some (.int x3)] [] S := by
  intro n
  induction n with
  | zero => intro x1 x2 x3 S h; cases h
  | succ n ih =>
    intro x1 x2 x3 S h
    unfold fX5_who_L18 at h
    refine p_iload_n (k := 11) (i := 3) rfl rfl rfl ?_
    refine p_aload_n (k := 12) (i := 0) rfl rfl rfl ?_
    refine p_getr (k := 13) rfl lay_X5 rfl fl_RX5_7 ?_
    refine p_iconst (k := 14) 0 rfl (by decide) ?_
    refine s_rd h (k := 15) rfl lay_42 (fun v1 h => ?_)
    refine p_icmp_ge (k := 16) 58 rfl (by decide) (fun hc => ?_) (fun hc => ?_)
    · rw [if_pos hc] at h
      refine p_iload_n (k := 37) (i := 2) rfl rfl rfl ?_
      exact s_iret h (k := 38) rfl rfl
    · rw [if_neg hc] at h
      refine p_iload_n (k := 17) (i := 2) rfl rfl rfl ?_
      refine p_aload_n (k := 18) (i := 0) rfl rfl rfl ?_
      refine p_iload_n (k := 19) (i := 3) rfl rfl rfl ?_
      refine p_iconst (k := 20) 2 rfl (by decide) ?_
      obtain ⟨v2, S1, hcS1, h⟩ := cl_some h
      refine p_callV (k := 21) [.int x3, .int 2] [.int x2] rfl (tX5_its hcS1) lay_X5 rfl lc_X5_its ml_RX5_57 mi_X5_its mv_X5_its (by decide) (by decide) (Nat.le_of_ble_eq_true rfl) rfl ?_
      refine p_iload_n (k := 22) (i := 1) rfl rfl rfl ?_
      refine p_ishr (k := 23) rfl ?_
      refine p_iconst (k := 24) 1 rfl (by decide) ?_
      refine p_iand (k := 25) rfl ?_
      refine p_iconst (k := 26) 1 rfl (by decide) ?_
      refine p_icmp_ne (k := 27) 49 rfl (by decide) (fun hc => ?_) (fun hc => ?_)
      · rw [if_neg hc] at h
        refine p_iconst (k := 32) 0 rfl (by decide) ?_
        refine p_msk [true, true, false, true] (L2 := [some (.ref 41), some (.int x1), none, some (.int x3)]) rfl ?_
        exact sX5_who_L50 ih h
      · rw [if_pos hc] at h
        refine p_iconst (k := 28) 1 rfl (by decide) ?_
        refine p_iload_n (k := 29) (i := 3) rfl rfl rfl ?_
        refine p_ishl (k := 30) rfl ?_
        refine p_goto (k := 31) 50 rfl (by decide) ?_
        refine p_msk [true, true, false, true] (L2 := [some (.ref 41), some (.int x1), none, some (.int x3)]) rfl ?_
        exact sX5_who_L50 ih h
def fX5_who (a1 : Int32) (S : St) : Option (Int32 × St) :=
  cl (fX5_isPage a1 S) fun v1 S1 =>
  if v1 = 0 then
    cl (fX5_finds (-1000001) S1) fun v2 S2 =>
    some (v2, S2)
  else
    fX5_who_L18 FU a1 0 0 S1
theorem sX5_who {a1 : Int32} {S : St} {r : Int32} {S9 : St} (h : fX5_who a1 S = some (r, S9)) : PW mX5_who (some (.int r), S9) 0 [some (.ref 41), some (.int a1), none, none] [] S := by
  unfold fX5_who at h
  refine p_iload_n (k := 0) (i := 1) rfl rfl rfl ?_
  obtain ⟨v1, S1, hcS1, h⟩ := cl_some h
  refine p_callS (k := 1) [.int a1] [] rfl (tX5_isPage hcS1) lc_X5_isPage ml_RX5_118 ms_X5_isPage (by decide) (by decide) (Nat.le_of_ble_eq_true rfl) rfl ?_
  refine p_if_ne (k := 2) 14 rfl (by decide) (fun hc => ?_) (fun hc => ?_)
  · rw [if_neg hc] at h
    refine p_iconst (k := 7) 0 rfl (by decide) ?_
    refine p_istore_n (k := 8) 2 [some (.ref 41), some (.int a1), some (.int 0), none] rfl rfl rfl (by decide) rfl ?_
    refine p_iconst (k := 9) 0 rfl (by decide) ?_
    refine p_istore_n (k := 10) 3 [some (.ref 41), some (.int a1), some (.int 0), some (.int 0)] rfl rfl rfl (by decide) rfl ?_
    refine p_msk [true, true, true, true] (L2 := [some (.ref 41), some (.int a1), some (.int 0), some (.int 0)]) rfl ?_
    exact sX5_who_L18 _ _ _ _ _ h
  · rw [if_pos hc] at h
    refine p_aload_n (k := 3) (i := 0) rfl rfl rfl ?_
    refine p_ldc (k := 4) rfl k_RX5_37 ?_
    obtain ⟨v2, S2, hcS2, h⟩ := cl_some h
    refine p_callV (k := 5) [.int (-1000001)] [] rfl (tX5_finds hcS2) lay_X5 rfl lc_X5_finds ml_RX5_39 mi_X5_finds mv_X5_finds (by decide) (by decide) (Nat.le_of_ble_eq_true rfl) rfl ?_
    exact s_iret h (k := 6) rfl rfl
theorem tX5_who {a1 : Int32} {S : St} {r : Int32} {S9 : St} (h : fX5_who a1 S = some (r, S9)) : MR yX5_who cX5_who mX5_who [.ref 41, .int a1] S (some (.int r), S9) := MR.of (n := 2) okX5_who rfl rfl (sX5_who h)
-- then(III)I
def fX5_then (a1 : Int32) (a2 : Int32) (a3 : Int32) (S : St) : Option (Int32 × St) :=
  cl (fX5_copyRow 42 45 S) fun _ S1 =>
  cl (fX5_goes a3 S1) fun _ S2 =>
  cl (fX5_its a1 a2 S2) fun v1 S3 =>
  cl (fX5_copyRow 45 42 S3) fun _ S4 =>
  some (v1, S4)
theorem sX5_then {a1 : Int32} {a2 : Int32} {a3 : Int32} {S : St} {r : Int32} {S9 : St} (h : fX5_then a1 a2 a3 S = some (r, S9)) : PW mX5_then (some (.int r), S9) 0 [some (.ref 41), some (.int a1), some (.int a2), some (.int a3), none] [] S := by
  unfold fX5_then at h
  refine p_aload_n (k := 0) (i := 0) rfl rfl rfl ?_
  refine p_getr (k := 1) rfl lay_X5 rfl fl_RX5_7 ?_
  refine p_aload_n (k := 2) (i := 0) rfl rfl rfl ?_
  refine p_getr (k := 3) rfl lay_X5 rfl fl_RX5_19 ?_
  obtain ⟨_, S1, hcS1, h⟩ := cl_some h
  refine p_callS (k := 4) [.ref 42, .ref 45] [] rfl (tX5_copyRow lay_42 lay_45 hcS1) lc_X5_copyRow ml_RX5_164 ms_X5_copyRow (by decide) (by decide) (Nat.le_of_ble_eq_true rfl) rfl ?_
  refine p_aload_n (k := 5) (i := 0) rfl rfl rfl ?_
  refine p_iload_n (k := 6) (i := 3) rfl rfl rfl ?_
  obtain ⟨_, S2, hcS2, h⟩ := cl_some h
  refine p_callV (k := 7) [.int a3] [] rfl (tX5_goes hcS2) lay_X5 rfl lc_X5_goes ml_RX5_148 mi_X5_goes mv_X5_goes (by decide) (by decide) (Nat.le_of_ble_eq_true rfl) rfl ?_
  refine p_aload_n (k := 8) (i := 0) rfl rfl rfl ?_
  refine p_iload_n (k := 9) (i := 1) rfl rfl rfl ?_
  refine p_iload_n (k := 10) (i := 2) rfl rfl rfl ?_
  obtain ⟨v1, S3, hcS3, h⟩ := cl_some h
  refine p_callV (k := 11) [.int a1, .int a2] [] rfl (tX5_its hcS3) lay_X5 rfl lc_X5_its ml_RX5_57 mi_X5_its mv_X5_its (by decide) (by decide) (Nat.le_of_ble_eq_true rfl) rfl ?_
  refine p_istore (k := 12) [some (.ref 41), some (.int a1), some (.int a2), some (.int a3), some (.int v1)] rfl rfl (by decide) rfl ?_
  refine p_aload_n (k := 13) (i := 0) rfl rfl rfl ?_
  refine p_getr (k := 14) rfl lay_X5 rfl fl_RX5_19 ?_
  refine p_aload_n (k := 15) (i := 0) rfl rfl rfl ?_
  refine p_getr (k := 16) rfl lay_X5 rfl fl_RX5_7 ?_
  obtain ⟨_, S4, hcS4, h⟩ := cl_some h
  refine p_callS (k := 17) [.ref 45, .ref 42] [] rfl (tX5_copyRow lay_45 lay_42 hcS4) lc_X5_copyRow ml_RX5_164 ms_X5_copyRow (by decide) (by decide) (Nat.le_of_ble_eq_true rfl) rfl ?_
  refine p_iload (k := 18) rfl rfl ?_
  exact s_iret h (k := 19) rfl rfl
theorem tX5_then {a1 : Int32} {a2 : Int32} {a3 : Int32} {S : St} {r : Int32} {S9 : St} (h : fX5_then a1 a2 a3 S = some (r, S9)) : MR yX5_then cX5_then mX5_then [.ref 41, .int a1, .int a2, .int a3] S (some (.int r), S9) := MR.of (n := 1) okX5_then rfl rfl (sX5_then h)
-- ahead(III)I
def fX5_ahead_L48 (y0 : Int32) (S : St) : Option (Int32 × St) :=
  some (y0, S)
theorem sX5_ahead_L48 {r : Int32} {S9 : St} {y0 : Int32} {S : St} (h : fX5_ahead_L48 y0 S = some (r, S9)) : PW mX5_ahead (some (.int r), S9) 48 [none, none, none, none] [.int y0] S := by
  unfold fX5_ahead_L48 at h
  exact s_iret h (k := 25) rfl rfl
def fX5_ahead_L42 (S : St) : Option (Int32 × St) :=
  cl (fX5_finds (-1000001) S) fun v1 S1 =>
  fX5_ahead_L48 v1 S1
theorem sX5_ahead_L42 {r : Int32} {S9 : St}  {S : St} (h : fX5_ahead_L42 S = some (r, S9)) : PW mX5_ahead (some (.int r), S9) 42 [some (.ref 41), none, none, none] [] S := by
  unfold fX5_ahead_L42 at h
  refine p_aload_n (k := 22) (i := 0) rfl rfl rfl ?_
  refine p_ldc (k := 23) rfl k_RX5_37 ?_
  obtain ⟨v1, S1, hcS1, h⟩ := cl_some h
  refine p_callV (k := 24) [.int (-1000001)] [] rfl (tX5_finds hcS1) lay_X5 rfl lc_X5_finds ml_RX5_39 mi_X5_finds mv_X5_finds (by decide) (by decide) (Nat.le_of_ble_eq_true rfl) rfl ?_
  refine p_msk [false, false, false, false] (L2 := [none, none, none, none]) rfl ?_
  exact sX5_ahead_L48 h
def fX5_ahead (a1 : Int32) (a2 : Int32) (a3 : Int32) (S : St) : Option (Int32 × St) :=
  cl (fX5_isGoat a1 S) fun v1 S1 =>
  if v1 = 0 then
    fX5_ahead_L42 S1
  else
    cl (fX5_isIn (Int32.toInt64 a2) 1 4 S1) fun v2 S2 =>
    if v2 = 0 then
      fX5_ahead_L42 S2
    else
      cl (fX5_isIn (Int32.toInt64 a3) 0 100 S2) fun v3 S3 =>
      if v3 = 0 then
        fX5_ahead_L42 S3
      else
        cl (fX5_then a1 a2 a3 S3) fun v4 S4 =>
        fX5_ahead_L48 v4 S4
theorem sX5_ahead {a1 : Int32} {a2 : Int32} {a3 : Int32} {S : St} {r : Int32} {S9 : St} (h : fX5_ahead a1 a2 a3 S = some (r, S9)) : PW mX5_ahead (some (.int r), S9) 0 [some (.ref 41), some (.int a1), some (.int a2), some (.int a3)] [] S := by
  unfold fX5_ahead at h
  refine p_aload_n (k := 0) (i := 0) rfl rfl rfl ?_
  refine p_iload_n (k := 1) (i := 1) rfl rfl rfl ?_
  obtain ⟨v1, S1, hcS1, h⟩ := cl_some h
  refine p_callV (k := 2) [.int a1] [] rfl (tX5_isGoat hcS1) lay_X5 rfl lc_X5_isGoat ml_RX5_95 mi_X5_isGoat mv_X5_isGoat (by decide) (by decide) (Nat.le_of_ble_eq_true rfl) rfl ?_
  refine p_if_eq (k := 3) 42 rfl (by decide) (fun hc => ?_) (fun hc => ?_)
  · rw [if_pos hc] at h
    refine p_msk [true, false, false, false] (L2 := [some (.ref 41), none, none, none]) rfl ?_
    exact sX5_ahead_L42 h
  · rw [if_neg hc] at h
    refine p_iload_n (k := 4) (i := 2) rfl rfl rfl ?_
    refine p_i2l (k := 5) rfl ?_
    refine p_lconst (k := 6) 1 rfl (by decide) ?_
    refine p_ldc2 (k := 7) rfl k_RX5_168 ?_
    obtain ⟨v2, S2, hcS2, h⟩ := cl_some h
    refine p_callS (k := 8) [.long (Int32.toInt64 a2), .long 1, .long 4] [] rfl (tX5_isIn hcS2) lc_X5_isIn ml_RX5_49 ms_X5_isIn (by decide) (by decide) (Nat.le_of_ble_eq_true rfl) rfl ?_
    refine p_if_eq (k := 9) 42 rfl (by decide) (fun hc => ?_) (fun hc => ?_)
    · rw [if_pos hc] at h
      refine p_msk [true, false, false, false] (L2 := [some (.ref 41), none, none, none]) rfl ?_
      exact sX5_ahead_L42 h
    · rw [if_neg hc] at h
      refine p_iload_n (k := 10) (i := 3) rfl rfl rfl ?_
      refine p_i2l (k := 11) rfl ?_
      refine p_lconst (k := 12) 0 rfl (by decide) ?_
      refine p_ldc2 (k := 13) rfl k_RX5_170 ?_
      obtain ⟨v3, S3, hcS3, h⟩ := cl_some h
      refine p_callS (k := 14) [.long (Int32.toInt64 a3), .long 0, .long 100] [] rfl (tX5_isIn hcS3) lc_X5_isIn ml_RX5_49 ms_X5_isIn (by decide) (by decide) (Nat.le_of_ble_eq_true rfl) rfl ?_
      refine p_if_eq (k := 15) 42 rfl (by decide) (fun hc => ?_) (fun hc => ?_)
      · rw [if_pos hc] at h
        refine p_msk [true, false, false, false] (L2 := [some (.ref 41), none, none, none]) rfl ?_
        exact sX5_ahead_L42 h
      · rw [if_neg hc] at h
        refine p_aload_n (k := 16) (i := 0) rfl rfl rfl ?_
        refine p_iload_n (k := 17) (i := 1) rfl rfl rfl ?_
        refine p_iload_n (k := 18) (i := 2) rfl rfl rfl ?_
        refine p_iload_n (k := 19) (i := 3) rfl rfl rfl ?_
        obtain ⟨v4, S4, hcS4, h⟩ := cl_some h
        refine p_callV (k := 20) [.int a1, .int a2, .int a3] [] rfl (tX5_then hcS4) lay_X5 rfl lc_X5_then ml_RX5_172 mi_X5_then mv_X5_then (by decide) (by decide) (Nat.le_of_ble_eq_true rfl) rfl ?_
        refine p_goto (k := 21) 48 rfl (by decide) ?_
        refine p_msk [false, false, false, false] (L2 := [none, none, none, none]) rfl ?_
        exact sX5_ahead_L48 h
theorem tX5_ahead {a1 : Int32} {a2 : Int32} {a3 : Int32} {S : St} {r : Int32} {S9 : St} (h : fX5_ahead a1 a2 a3 S = some (r, S9)) : MR yX5_ahead cX5_ahead mX5_ahead [.ref 41, .int a1, .int a2, .int a3] S (some (.int r), S9) := MR.of (n := 0) okX5_ahead rfl rfl (sX5_ahead h)
-- learns(II)I
def fX5_learns_L15 (S : St) : Option (Int32 × St) :=
  cl (fX5_finds (-1000001) S) fun v1 S1 =>
  some (v1, S1)
theorem sX5_learns_L15 {r : Int32} {S9 : St}  {S : St} (h : fX5_learns_L15 S = some (r, S9)) : PW mX5_learns (some (.int r), S9) 15 [some (.ref 41), none, none, none] [] S := by
  unfold fX5_learns_L15 at h
  refine p_aload_n (k := 7) (i := 0) rfl rfl rfl ?_
  refine p_ldc (k := 8) rfl k_RX5_37 ?_
  obtain ⟨v1, S1, hcS1, h⟩ := cl_some h
  refine p_callV (k := 9) [.int (-1000001)] [] rfl (tX5_finds hcS1) lay_X5 rfl lc_X5_finds ml_RX5_39 mi_X5_finds mv_X5_finds (by decide) (by decide) (Nat.le_of_ble_eq_true rfl) rfl ?_
  exact s_iret h (k := 10) rfl rfl
def fX5_learns_L92 (y0 : Int32) (S : St) : Option (Int32 × St) :=
  some (y0, S)
theorem sX5_learns_L92 {r : Int32} {S9 : St} {y0 : Int32} {S : St} (h : fX5_learns_L92 y0 S = some (r, S9)) : PW mX5_learns (some (.int r), S9) 92 [none, none, none, none] [.int y0] S := by
  unfold fX5_learns_L92 at h
  exact s_iret h (k := 48) rfl rfl
def fX5_learns_L65 (x3 : Int32) (S : St) : Option (Int32 × St) :=
  cl (fX5_copyRow 45 42 S) fun _ S1 =>
  if 100 < x3 then
    cl (fX5_finds (-1000004) S1) fun v1 S2 =>
    fX5_learns_L92 v1 S2
  else
    fX5_learns_L92 x3 S1
theorem sX5_learns_L65 {r : Int32} {S9 : St} {x3 : Int32} {S : St} (h : fX5_learns_L65 x3 S = some (r, S9)) : PW mX5_learns (some (.int r), S9) 65 [some (.ref 41), none, none, some (.int x3)] [] S := by
  unfold fX5_learns_L65 at h
  refine p_aload_n (k := 35) (i := 0) rfl rfl rfl ?_
  refine p_getr (k := 36) rfl lay_X5 rfl fl_RX5_19 ?_
  refine p_aload_n (k := 37) (i := 0) rfl rfl rfl ?_
  refine p_getr (k := 38) rfl lay_X5 rfl fl_RX5_7 ?_
  obtain ⟨_, S1, hcS1, h⟩ := cl_some h
  refine p_callS (k := 39) [.ref 45, .ref 42] [] rfl (tX5_copyRow lay_45 lay_42 hcS1) lc_X5_copyRow ml_RX5_164 ms_X5_copyRow (by decide) (by decide) (Nat.le_of_ble_eq_true rfl) rfl ?_
  refine p_iload_n (k := 40) (i := 3) rfl rfl rfl ?_
  refine p_bipush (k := 41) 100 rfl (by decide) ?_
  refine p_icmp_gt (k := 42) 86 rfl (by decide) (fun hc => ?_) (fun hc => ?_)
  · rw [if_pos hc] at h
    refine p_aload_n (k := 45) (i := 0) rfl rfl rfl ?_
    refine p_ldc (k := 46) rfl k_RX5_38 ?_
    obtain ⟨v1, S2, hcS2, h⟩ := cl_some h
    refine p_callV (k := 47) [.int (-1000004)] [] rfl (tX5_finds hcS2) lay_X5 rfl lc_X5_finds ml_RX5_39 mi_X5_finds mv_X5_finds (by decide) (by decide) (Nat.le_of_ble_eq_true rfl) rfl ?_
    refine p_msk [false, false, false, false] (L2 := [none, none, none, none]) rfl ?_
    exact sX5_learns_L92 h
  · rw [if_neg hc] at h
    refine p_iload_n (k := 43) (i := 3) rfl rfl rfl ?_
    refine p_goto (k := 44) 92 rfl (by decide) ?_
    refine p_msk [false, false, false, false] (L2 := [none, none, none, none]) rfl ?_
    exact sX5_learns_L92 h
def fX5_learns_L35 : Nat → Int32 → Int32 → Int32 → St → Option (Int32 × St)
  | 0 => fun _ _ _ _ => none
  | n + 1 => fun x1 x2 x3 S =>
    if 100 < x3 then
      fX5_learns_L65 x3 S
    else
      cl (fX5_its x1 2 S) fun v1 S1 =>
      if ((v1 >>> (x2 &&& 31)) &&& 1) = 0 then
        cl (fX5_dayBut 0 S1) fun _ S2 =>
        bnd (x3 + 1) fun v2 =>
        fX5_learns_L35 n x1 x2 v2 S2
      else
        fX5_learns_L65 x3 S1
theorem sX5_learns_L35 {r : Int32} {S9 : St} : ∀ (n : Nat) (x1 : Int32) (x2 : Int32) (x3 : Int32) (S : St), fX5_learns_L35 n x1 x2 x3 S = some (r, S9) → PW mX5_learns (some (.int r), S9) 35 [some (.ref 41), some (.int x1), some (.int x2), some (.int x3)] [] S := by
  intro n
  induction n with
  | zero => intro x1 x2 x3 S h; cases h
  | succ n ih =>
    intro x1 x2 x3 S h
    unfold fX5_learns_L35 at h
    refine p_iload_n (k := 18) (i := 3) rfl rfl rfl ?_
    refine p_bipush (k := 19) 100 rfl (by decide) ?_
    refine p_icmp_gt (k := 20) 65 rfl (by decide) (fun hc => ?_) (fun hc => ?_)
    · rw [if_pos hc] at h
      refine p_msk [true, false, false, true] (L2 := [some (.ref 41), none, none, some (.int x3)]) rfl ?_
      exact sX5_learns_L65 h
    · rw [if_neg hc] at h
      refine p_aload_n (k := 21) (i := 0) rfl rfl rfl ?_
      refine p_iload_n (k := 22) (i := 1) rfl rfl rfl ?_
      refine p_iconst (k := 23) 2 rfl (by decide) ?_
      obtain ⟨v1, S1, hcS1, h⟩ := cl_some h
      refine p_callV (k := 24) [.int x1, .int 2] [] rfl (tX5_its hcS1) lay_X5 rfl lc_X5_its ml_RX5_57 mi_X5_its mv_X5_its (by decide) (by decide) (Nat.le_of_ble_eq_true rfl) rfl ?_
      refine p_iload_n (k := 25) (i := 2) rfl rfl rfl ?_
      refine p_ishr (k := 26) rfl ?_
      refine p_iconst (k := 27) 1 rfl (by decide) ?_
      refine p_iand (k := 28) rfl ?_
      refine p_if_ne (k := 29) 65 rfl (by decide) (fun hc => ?_) (fun hc => ?_)
      · rw [if_neg hc] at h
        refine p_msk [true, false, false, true] (L2 := [some (.ref 41), none, none, some (.int x3)]) rfl ?_
        exact sX5_learns_L65 h
      · rw [if_pos hc] at h
        refine p_aload_n (k := 30) (i := 0) rfl rfl rfl ?_
        refine p_iconst (k := 31) 0 rfl (by decide) ?_
        obtain ⟨_, S2, hcS2, h⟩ := cl_some h
        refine p_callV (k := 32) [.int 0] [] rfl (tX5_dayBut hcS2) lay_X5 rfl lc_X5_dayBut ml_RX5_142 mi_X5_dayBut mv_X5_dayBut (by decide) (by decide) (Nat.le_of_ble_eq_true rfl) rfl ?_
        obtain ⟨v2, ev2, h⟩ := bnd_ex h
        refine p_iinc (k := 33) v2 [some (.ref 41), some (.int x1), some (.int x2), some (.int v2)] rfl rfl (by rw [← ev2]; rfl) rfl (by decide) rfl ?_
        refine p_goto (k := 34) 35 rfl (by decide) ?_
        refine p_msk [true, true, true, true] (L2 := [some (.ref 41), some (.int x1), some (.int x2), some (.int v2)]) rfl ?_
        exact ih _ _ _ _ h
def fX5_learns (a1 : Int32) (a2 : Int32) (S : St) : Option (Int32 × St) :=
  cl (fX5_isGoat a1 S) fun v1 S1 =>
  if v1 = 0 then
    fX5_learns_L15 S1
  else
    cl (fX5_isPage a2 S1) fun v2 S2 =>
    if v2 = 0 then
      fX5_learns_L15 S2
    else
      cl (fX5_copyRow 42 45 S2) fun _ S3 =>
      fX5_learns_L35 FU a1 a2 0 S3
theorem sX5_learns {a1 : Int32} {a2 : Int32} {S : St} {r : Int32} {S9 : St} (h : fX5_learns a1 a2 S = some (r, S9)) : PW mX5_learns (some (.int r), S9) 0 [some (.ref 41), some (.int a1), some (.int a2), none] [] S := by
  unfold fX5_learns at h
  refine p_aload_n (k := 0) (i := 0) rfl rfl rfl ?_
  refine p_iload_n (k := 1) (i := 1) rfl rfl rfl ?_
  obtain ⟨v1, S1, hcS1, h⟩ := cl_some h
  refine p_callV (k := 2) [.int a1] [] rfl (tX5_isGoat hcS1) lay_X5 rfl lc_X5_isGoat ml_RX5_95 mi_X5_isGoat mv_X5_isGoat (by decide) (by decide) (Nat.le_of_ble_eq_true rfl) rfl ?_
  refine p_if_eq (k := 3) 15 rfl (by decide) (fun hc => ?_) (fun hc => ?_)
  · rw [if_pos hc] at h
    refine p_msk [true, false, false, false] (L2 := [some (.ref 41), none, none, none]) rfl ?_
    exact sX5_learns_L15 h
  · rw [if_neg hc] at h
    refine p_iload_n (k := 4) (i := 2) rfl rfl rfl ?_
    obtain ⟨v2, S2, hcS2, h⟩ := cl_some h
    refine p_callS (k := 5) [.int a2] [] rfl (tX5_isPage hcS2) lc_X5_isPage ml_RX5_118 ms_X5_isPage (by decide) (by decide) (Nat.le_of_ble_eq_true rfl) rfl ?_
    refine p_if_ne (k := 6) 22 rfl (by decide) (fun hc => ?_) (fun hc => ?_)
    · rw [if_neg hc] at h
      refine p_aload_n (k := 11) (i := 0) rfl rfl rfl ?_
      refine p_getr (k := 12) rfl lay_X5 rfl fl_RX5_7 ?_
      refine p_aload_n (k := 13) (i := 0) rfl rfl rfl ?_
      refine p_getr (k := 14) rfl lay_X5 rfl fl_RX5_19 ?_
      obtain ⟨_, S3, hcS3, h⟩ := cl_some h
      refine p_callS (k := 15) [.ref 42, .ref 45] [] rfl (tX5_copyRow lay_42 lay_45 hcS3) lc_X5_copyRow ml_RX5_164 ms_X5_copyRow (by decide) (by decide) (Nat.le_of_ble_eq_true rfl) rfl ?_
      refine p_iconst (k := 16) 0 rfl (by decide) ?_
      refine p_istore_n (k := 17) 3 [some (.ref 41), some (.int a1), some (.int a2), some (.int 0)] rfl rfl rfl (by decide) rfl ?_
      refine p_msk [true, true, true, true] (L2 := [some (.ref 41), some (.int a1), some (.int a2), some (.int 0)]) rfl ?_
      exact sX5_learns_L35 _ _ _ _ _ h
    · rw [if_pos hc] at h
      refine p_msk [true, false, false, false] (L2 := [some (.ref 41), none, none, none]) rfl ?_
      exact sX5_learns_L15 h
theorem tX5_learns {a1 : Int32} {a2 : Int32} {S : St} {r : Int32} {S9 : St} (h : fX5_learns a1 a2 S = some (r, S9)) : MR yX5_learns cX5_learns mX5_learns [.ref 41, .int a1, .int a2] S (some (.int r), S9) := MR.of (n := 1) okX5_learns rfl rfl (sX5_learns h)
-- lost(I)I
def fX5_lost_L83 (y0 : Int32) (S : St) : Option (Int32 × St) :=
  some (y0, S)
theorem sX5_lost_L83 {r : Int32} {S9 : St} {y0 : Int32} {S : St} (h : fX5_lost_L83 y0 S = some (r, S9)) : PW mX5_lost (some (.int r), S9) 83 [none, none, none] [.int y0] S := by
  unfold fX5_lost_L83 at h
  exact s_iret h (k := 43) rfl rfl
def fX5_lost_L56 (x2 : Int32) (S : St) : Option (Int32 × St) :=
  cl (fX5_copyRow 45 42 S) fun _ S1 =>
  if 100 < x2 then
    cl (fX5_finds (-1000004) S1) fun v1 S2 =>
    fX5_lost_L83 v1 S2
  else
    fX5_lost_L83 x2 S1
theorem sX5_lost_L56 {r : Int32} {S9 : St} {x2 : Int32} {S : St} (h : fX5_lost_L56 x2 S = some (r, S9)) : PW mX5_lost (some (.int r), S9) 56 [some (.ref 41), none, some (.int x2)] [] S := by
  unfold fX5_lost_L56 at h
  refine p_aload_n (k := 30) (i := 0) rfl rfl rfl ?_
  refine p_getr (k := 31) rfl lay_X5 rfl fl_RX5_19 ?_
  refine p_aload_n (k := 32) (i := 0) rfl rfl rfl ?_
  refine p_getr (k := 33) rfl lay_X5 rfl fl_RX5_7 ?_
  obtain ⟨_, S1, hcS1, h⟩ := cl_some h
  refine p_callS (k := 34) [.ref 45, .ref 42] [] rfl (tX5_copyRow lay_45 lay_42 hcS1) lc_X5_copyRow ml_RX5_164 ms_X5_copyRow (by decide) (by decide) (Nat.le_of_ble_eq_true rfl) rfl ?_
  refine p_iload_n (k := 35) (i := 2) rfl rfl rfl ?_
  refine p_bipush (k := 36) 100 rfl (by decide) ?_
  refine p_icmp_gt (k := 37) 77 rfl (by decide) (fun hc => ?_) (fun hc => ?_)
  · rw [if_pos hc] at h
    refine p_aload_n (k := 40) (i := 0) rfl rfl rfl ?_
    refine p_ldc (k := 41) rfl k_RX5_38 ?_
    obtain ⟨v1, S2, hcS2, h⟩ := cl_some h
    refine p_callV (k := 42) [.int (-1000004)] [] rfl (tX5_finds hcS2) lay_X5 rfl lc_X5_finds ml_RX5_39 mi_X5_finds mv_X5_finds (by decide) (by decide) (Nat.le_of_ble_eq_true rfl) rfl ?_
    refine p_msk [false, false, false] (L2 := [none, none, none]) rfl ?_
    exact sX5_lost_L83 h
  · rw [if_neg hc] at h
    refine p_iload_n (k := 38) (i := 2) rfl rfl rfl ?_
    refine p_goto (k := 39) 83 rfl (by decide) ?_
    refine p_msk [false, false, false] (L2 := [none, none, none]) rfl ?_
    exact sX5_lost_L83 h
def fX5_lost_L27 : Nat → Int32 → Int32 → St → Option (Int32 × St)
  | 0 => fun _ _ _ => none
  | n + 1 => fun x1 x2 S =>
    if 100 < x2 then
      fX5_lost_L56 x2 S
    else
      cl (fX5_knownAll S) fun v1 S1 =>
      if ((v1 >>> (x1 &&& 31)) &&& 1) = 1 then
        cl (fX5_dayBut 0 S1) fun _ S2 =>
        bnd (x2 + 1) fun v2 =>
        fX5_lost_L27 n x1 v2 S2
      else
        fX5_lost_L56 x2 S1
theorem sX5_lost_L27 {r : Int32} {S9 : St} : ∀ (n : Nat) (x1 : Int32) (x2 : Int32) (S : St), fX5_lost_L27 n x1 x2 S = some (r, S9) → PW mX5_lost (some (.int r), S9) 27 [some (.ref 41), some (.int x1), some (.int x2)] [] S := by
  intro n
  induction n with
  | zero => intro x1 x2 S h; cases h
  | succ n ih =>
    intro x1 x2 S h
    unfold fX5_lost_L27 at h
    refine p_iload_n (k := 14) (i := 2) rfl rfl rfl ?_
    refine p_bipush (k := 15) 100 rfl (by decide) ?_
    refine p_icmp_gt (k := 16) 56 rfl (by decide) (fun hc => ?_) (fun hc => ?_)
    · rw [if_pos hc] at h
      refine p_msk [true, false, true] (L2 := [some (.ref 41), none, some (.int x2)]) rfl ?_
      exact sX5_lost_L56 h
    · rw [if_neg hc] at h
      refine p_aload_n (k := 17) (i := 0) rfl rfl rfl ?_
      obtain ⟨v1, S1, hcS1, h⟩ := cl_some h
      refine p_callV (k := 18) [] [] rfl (tX5_knownAll hcS1) lay_X5 rfl lc_X5_knownAll ml_RX5_151 mi_X5_knownAll mv_X5_knownAll (by decide) (by decide) (Nat.le_of_ble_eq_true rfl) rfl ?_
      refine p_iload_n (k := 19) (i := 1) rfl rfl rfl ?_
      refine p_ishr (k := 20) rfl ?_
      refine p_iconst (k := 21) 1 rfl (by decide) ?_
      refine p_iand (k := 22) rfl ?_
      refine p_iconst (k := 23) 1 rfl (by decide) ?_
      refine p_icmp_ne (k := 24) 56 rfl (by decide) (fun hc => ?_) (fun hc => ?_)
      · rw [if_neg hc] at h
        refine p_msk [true, false, true] (L2 := [some (.ref 41), none, some (.int x2)]) rfl ?_
        exact sX5_lost_L56 h
      · rw [if_pos hc] at h
        refine p_aload_n (k := 25) (i := 0) rfl rfl rfl ?_
        refine p_iconst (k := 26) 0 rfl (by decide) ?_
        obtain ⟨_, S2, hcS2, h⟩ := cl_some h
        refine p_callV (k := 27) [.int 0] [] rfl (tX5_dayBut hcS2) lay_X5 rfl lc_X5_dayBut ml_RX5_142 mi_X5_dayBut mv_X5_dayBut (by decide) (by decide) (Nat.le_of_ble_eq_true rfl) rfl ?_
        obtain ⟨v2, ev2, h⟩ := bnd_ex h
        refine p_iinc (k := 28) v2 [some (.ref 41), some (.int x1), some (.int v2)] rfl rfl (by rw [← ev2]; rfl) rfl (by decide) rfl ?_
        refine p_goto (k := 29) 27 rfl (by decide) ?_
        refine p_msk [true, true, true] (L2 := [some (.ref 41), some (.int x1), some (.int v2)]) rfl ?_
        exact ih _ _ _ h
def fX5_lost (a1 : Int32) (S : St) : Option (Int32 × St) :=
  cl (fX5_isPage a1 S) fun v1 S1 =>
  if v1 = 0 then
    cl (fX5_finds (-1000001) S1) fun v2 S3 =>
    some (v2, S3)
  else
    cl (fX5_copyRow 42 45 S1) fun _ S2 =>
    fX5_lost_L27 FU a1 0 S2
theorem sX5_lost {a1 : Int32} {S : St} {r : Int32} {S9 : St} (h : fX5_lost a1 S = some (r, S9)) : PW mX5_lost (some (.int r), S9) 0 [some (.ref 41), some (.int a1), none] [] S := by
  unfold fX5_lost at h
  refine p_iload_n (k := 0) (i := 1) rfl rfl rfl ?_
  obtain ⟨v1, S1, hcS1, h⟩ := cl_some h
  refine p_callS (k := 1) [.int a1] [] rfl (tX5_isPage hcS1) lc_X5_isPage ml_RX5_118 ms_X5_isPage (by decide) (by decide) (Nat.le_of_ble_eq_true rfl) rfl ?_
  refine p_if_ne (k := 2) 14 rfl (by decide) (fun hc => ?_) (fun hc => ?_)
  · rw [if_neg hc] at h
    refine p_aload_n (k := 7) (i := 0) rfl rfl rfl ?_
    refine p_getr (k := 8) rfl lay_X5 rfl fl_RX5_7 ?_
    refine p_aload_n (k := 9) (i := 0) rfl rfl rfl ?_
    refine p_getr (k := 10) rfl lay_X5 rfl fl_RX5_19 ?_
    obtain ⟨_, S2, hcS2, h⟩ := cl_some h
    refine p_callS (k := 11) [.ref 42, .ref 45] [] rfl (tX5_copyRow lay_42 lay_45 hcS2) lc_X5_copyRow ml_RX5_164 ms_X5_copyRow (by decide) (by decide) (Nat.le_of_ble_eq_true rfl) rfl ?_
    refine p_iconst (k := 12) 0 rfl (by decide) ?_
    refine p_istore_n (k := 13) 2 [some (.ref 41), some (.int a1), some (.int 0)] rfl rfl rfl (by decide) rfl ?_
    refine p_msk [true, true, true] (L2 := [some (.ref 41), some (.int a1), some (.int 0)]) rfl ?_
    exact sX5_lost_L27 _ _ _ _ h
  · rw [if_pos hc] at h
    refine p_aload_n (k := 3) (i := 0) rfl rfl rfl ?_
    refine p_ldc (k := 4) rfl k_RX5_37 ?_
    obtain ⟨v2, S3, hcS3, h⟩ := cl_some h
    refine p_callV (k := 5) [.int (-1000001)] [] rfl (tX5_finds hcS3) lay_X5 rfl lc_X5_finds ml_RX5_39 mi_X5_finds mv_X5_finds (by decide) (by decide) (Nat.le_of_ble_eq_true rfl) rfl ?_
    exact s_iret h (k := 6) rfl rfl
theorem tX5_lost {a1 : Int32} {S : St} {r : Int32} {S9 : St} (h : fX5_lost a1 S = some (r, S9)) : MR yX5_lost cX5_lost mX5_lost [.ref 41, .int a1] S (some (.int r), S9) := MR.of (n := 1) okX5_lost rfl rfl (sX5_lost h)
-- meet(II)I
def fX5_meet_L21 (S : St) : Option (Int32 × St) :=
  cl (fX5_finds (-1000001) S) fun v1 S1 =>
  some (v1, S1)
theorem sX5_meet_L21 {r : Int32} {S9 : St}  {S : St} (h : fX5_meet_L21 S = some (r, S9)) : PW mX5_meet (some (.int r), S9) 21 [some (.ref 41), none, none, none] [] S := by
  unfold fX5_meet_L21 at h
  refine p_aload_n (k := 11) (i := 0) rfl rfl rfl ?_
  refine p_ldc (k := 12) rfl k_RX5_37 ?_
  obtain ⟨v1, S1, hcS1, h⟩ := cl_some h
  refine p_callV (k := 13) [.int (-1000001)] [] rfl (tX5_finds hcS1) lay_X5 rfl lc_X5_finds ml_RX5_39 mi_X5_finds mv_X5_finds (by decide) (by decide) (Nat.le_of_ble_eq_true rfl) rfl ?_
  exact s_iret h (k := 14) rfl rfl
def fX5_meet_L100 (y0 : Int32) (S : St) : Option (Int32 × St) :=
  some (y0, S)
theorem sX5_meet_L100 {r : Int32} {S9 : St} {y0 : Int32} {S : St} (h : fX5_meet_L100 y0 S = some (r, S9)) : PW mX5_meet (some (.int r), S9) 100 [none, none, none, none] [.int y0] S := by
  unfold fX5_meet_L100 at h
  exact s_iret h (k := 52) rfl rfl
def fX5_meet_L73 (x3 : Int32) (S : St) : Option (Int32 × St) :=
  cl (fX5_copyRow 45 42 S) fun _ S1 =>
  if 100 < x3 then
    cl (fX5_finds (-1000004) S1) fun v1 S2 =>
    fX5_meet_L100 v1 S2
  else
    fX5_meet_L100 x3 S1
theorem sX5_meet_L73 {r : Int32} {S9 : St} {x3 : Int32} {S : St} (h : fX5_meet_L73 x3 S = some (r, S9)) : PW mX5_meet (some (.int r), S9) 73 [some (.ref 41), none, none, some (.int x3)] [] S := by
  unfold fX5_meet_L73 at h
  refine p_aload_n (k := 39) (i := 0) rfl rfl rfl ?_
  refine p_getr (k := 40) rfl lay_X5 rfl fl_RX5_19 ?_
  refine p_aload_n (k := 41) (i := 0) rfl rfl rfl ?_
  refine p_getr (k := 42) rfl lay_X5 rfl fl_RX5_7 ?_
  obtain ⟨_, S1, hcS1, h⟩ := cl_some h
  refine p_callS (k := 43) [.ref 45, .ref 42] [] rfl (tX5_copyRow lay_45 lay_42 hcS1) lc_X5_copyRow ml_RX5_164 ms_X5_copyRow (by decide) (by decide) (Nat.le_of_ble_eq_true rfl) rfl ?_
  refine p_iload_n (k := 44) (i := 3) rfl rfl rfl ?_
  refine p_bipush (k := 45) 100 rfl (by decide) ?_
  refine p_icmp_gt (k := 46) 94 rfl (by decide) (fun hc => ?_) (fun hc => ?_)
  · rw [if_pos hc] at h
    refine p_aload_n (k := 49) (i := 0) rfl rfl rfl ?_
    refine p_ldc (k := 50) rfl k_RX5_38 ?_
    obtain ⟨v1, S2, hcS2, h⟩ := cl_some h
    refine p_callV (k := 51) [.int (-1000004)] [] rfl (tX5_finds hcS2) lay_X5 rfl lc_X5_finds ml_RX5_39 mi_X5_finds mv_X5_finds (by decide) (by decide) (Nat.le_of_ble_eq_true rfl) rfl ?_
    refine p_msk [false, false, false, false] (L2 := [none, none, none, none]) rfl ?_
    exact sX5_meet_L100 h
  · rw [if_neg hc] at h
    refine p_iload_n (k := 47) (i := 3) rfl rfl rfl ?_
    refine p_goto (k := 48) 100 rfl (by decide) ?_
    refine p_msk [false, false, false, false] (L2 := [none, none, none, none]) rfl ?_
    exact sX5_meet_L100 h
def fX5_meet_L41 : Nat → Int32 → Int32 → Int32 → St → Option (Int32 × St)
  | 0 => fun _ _ _ _ => none
  | n + 1 => fun x1 x2 x3 S =>
    if 100 < x3 then
      fX5_meet_L73 x3 S
    else
      cl (fX5_its x1 1 S) fun v1 S1 =>
      cl (fX5_its x2 1 S1) fun v2 S2 =>
      if v1 = v2 then
        fX5_meet_L73 x3 S2
      else
        cl (fX5_dayBut 0 S2) fun _ S3 =>
        bnd (x3 + 1) fun v3 =>
        fX5_meet_L41 n x1 x2 v3 S3
theorem sX5_meet_L41 {r : Int32} {S9 : St} : ∀ (n : Nat) (x1 : Int32) (x2 : Int32) (x3 : Int32) (S : St), fX5_meet_L41 n x1 x2 x3 S = some (r, S9) → PW mX5_meet (some (.int r), S9) 41 [some (.ref 41), some (.int x1), some (.int x2), some (.int x3)] [] S := by
  intro n
  induction n with
  | zero => intro x1 x2 x3 S h; cases h
  | succ n ih =>
    intro x1 x2 x3 S h
    unfold fX5_meet_L41 at h
    refine p_iload_n (k := 22) (i := 3) rfl rfl rfl ?_
    refine p_bipush (k := 23) 100 rfl (by decide) ?_
    refine p_icmp_gt (k := 24) 73 rfl (by decide) (fun hc => ?_) (fun hc => ?_)
    · rw [if_pos hc] at h
      refine p_msk [true, false, false, true] (L2 := [some (.ref 41), none, none, some (.int x3)]) rfl ?_
      exact sX5_meet_L73 h
    · rw [if_neg hc] at h
      refine p_aload_n (k := 25) (i := 0) rfl rfl rfl ?_
      refine p_iload_n (k := 26) (i := 1) rfl rfl rfl ?_
      refine p_iconst (k := 27) 1 rfl (by decide) ?_
      obtain ⟨v1, S1, hcS1, h⟩ := cl_some h
      refine p_callV (k := 28) [.int x1, .int 1] [] rfl (tX5_its hcS1) lay_X5 rfl lc_X5_its ml_RX5_57 mi_X5_its mv_X5_its (by decide) (by decide) (Nat.le_of_ble_eq_true rfl) rfl ?_
      refine p_aload_n (k := 29) (i := 0) rfl rfl rfl ?_
      refine p_iload_n (k := 30) (i := 2) rfl rfl rfl ?_
      refine p_iconst (k := 31) 1 rfl (by decide) ?_
      obtain ⟨v2, S2, hcS2, h⟩ := cl_some h
      refine p_callV (k := 32) [.int x2, .int 1] [.int v1] rfl (tX5_its hcS2) lay_X5 rfl lc_X5_its ml_RX5_57 mi_X5_its mv_X5_its (by decide) (by decide) (Nat.le_of_ble_eq_true rfl) rfl ?_
      refine p_icmp_eq (k := 33) 73 rfl (by decide) (fun hc => ?_) (fun hc => ?_)
      · rw [if_pos hc] at h
        refine p_msk [true, false, false, true] (L2 := [some (.ref 41), none, none, some (.int x3)]) rfl ?_
        exact sX5_meet_L73 h
      · rw [if_neg hc] at h
        refine p_aload_n (k := 34) (i := 0) rfl rfl rfl ?_
        refine p_iconst (k := 35) 0 rfl (by decide) ?_
        obtain ⟨_, S3, hcS3, h⟩ := cl_some h
        refine p_callV (k := 36) [.int 0] [] rfl (tX5_dayBut hcS3) lay_X5 rfl lc_X5_dayBut ml_RX5_142 mi_X5_dayBut mv_X5_dayBut (by decide) (by decide) (Nat.le_of_ble_eq_true rfl) rfl ?_
        obtain ⟨v3, ev3, h⟩ := bnd_ex h
        refine p_iinc (k := 37) v3 [some (.ref 41), some (.int x1), some (.int x2), some (.int v3)] rfl rfl (by rw [← ev3]; rfl) rfl (by decide) rfl ?_
        refine p_goto (k := 38) 41 rfl (by decide) ?_
        refine p_msk [true, true, true, true] (L2 := [some (.ref 41), some (.int x1), some (.int x2), some (.int v3)]) rfl ?_
        exact ih _ _ _ _ h
def fX5_meet (a1 : Int32) (a2 : Int32) (S : St) : Option (Int32 × St) :=
  cl (fX5_isGoat a1 S) fun v1 S1 =>
  if v1 = 0 then
    fX5_meet_L21 S1
  else
    cl (fX5_isGoat a2 S1) fun v2 S2 =>
    if v2 = 0 then
      fX5_meet_L21 S2
    else
      if a1 = a2 then
        fX5_meet_L21 S2
      else
        cl (fX5_copyRow 42 45 S2) fun _ S3 =>
        fX5_meet_L41 FU a1 a2 0 S3
theorem sX5_meet {a1 : Int32} {a2 : Int32} {S : St} {r : Int32} {S9 : St} (h : fX5_meet a1 a2 S = some (r, S9)) : PW mX5_meet (some (.int r), S9) 0 [some (.ref 41), some (.int a1), some (.int a2), none] [] S := by
  unfold fX5_meet at h
  refine p_aload_n (k := 0) (i := 0) rfl rfl rfl ?_
  refine p_iload_n (k := 1) (i := 1) rfl rfl rfl ?_
  obtain ⟨v1, S1, hcS1, h⟩ := cl_some h
  refine p_callV (k := 2) [.int a1] [] rfl (tX5_isGoat hcS1) lay_X5 rfl lc_X5_isGoat ml_RX5_95 mi_X5_isGoat mv_X5_isGoat (by decide) (by decide) (Nat.le_of_ble_eq_true rfl) rfl ?_
  refine p_if_eq (k := 3) 21 rfl (by decide) (fun hc => ?_) (fun hc => ?_)
  · rw [if_pos hc] at h
    refine p_msk [true, false, false, false] (L2 := [some (.ref 41), none, none, none]) rfl ?_
    exact sX5_meet_L21 h
  · rw [if_neg hc] at h
    refine p_aload_n (k := 4) (i := 0) rfl rfl rfl ?_
    refine p_iload_n (k := 5) (i := 2) rfl rfl rfl ?_
    obtain ⟨v2, S2, hcS2, h⟩ := cl_some h
    refine p_callV (k := 6) [.int a2] [] rfl (tX5_isGoat hcS2) lay_X5 rfl lc_X5_isGoat ml_RX5_95 mi_X5_isGoat mv_X5_isGoat (by decide) (by decide) (Nat.le_of_ble_eq_true rfl) rfl ?_
    refine p_if_eq (k := 7) 21 rfl (by decide) (fun hc => ?_) (fun hc => ?_)
    · rw [if_pos hc] at h
      refine p_msk [true, false, false, false] (L2 := [some (.ref 41), none, none, none]) rfl ?_
      exact sX5_meet_L21 h
    · rw [if_neg hc] at h
      refine p_iload_n (k := 8) (i := 1) rfl rfl rfl ?_
      refine p_iload_n (k := 9) (i := 2) rfl rfl rfl ?_
      refine p_icmp_ne (k := 10) 28 rfl (by decide) (fun hc => ?_) (fun hc => ?_)
      · rw [if_neg hc] at h
        refine p_aload_n (k := 15) (i := 0) rfl rfl rfl ?_
        refine p_getr (k := 16) rfl lay_X5 rfl fl_RX5_7 ?_
        refine p_aload_n (k := 17) (i := 0) rfl rfl rfl ?_
        refine p_getr (k := 18) rfl lay_X5 rfl fl_RX5_19 ?_
        obtain ⟨_, S3, hcS3, h⟩ := cl_some h
        refine p_callS (k := 19) [.ref 42, .ref 45] [] rfl (tX5_copyRow lay_42 lay_45 hcS3) lc_X5_copyRow ml_RX5_164 ms_X5_copyRow (by decide) (by decide) (Nat.le_of_ble_eq_true rfl) rfl ?_
        refine p_iconst (k := 20) 0 rfl (by decide) ?_
        refine p_istore_n (k := 21) 3 [some (.ref 41), some (.int a1), some (.int a2), some (.int 0)] rfl rfl rfl (by decide) rfl ?_
        refine p_msk [true, true, true, true] (L2 := [some (.ref 41), some (.int a1), some (.int a2), some (.int 0)]) rfl ?_
        exact sX5_meet_L41 _ _ _ _ _ h
      · rw [if_pos hc] at h
        refine p_msk [true, false, false, false] (L2 := [some (.ref 41), none, none, none]) rfl ?_
        exact sX5_meet_L21 h
theorem tX5_meet {a1 : Int32} {a2 : Int32} {S : St} {r : Int32} {S9 : St} (h : fX5_meet a1 a2 S = some (r, S9)) : MR yX5_meet cX5_meet mX5_meet [.ref 41, .int a1, .int a2] S (some (.int r), S9) := MR.of (n := 1) okX5_meet rfl rfl (sX5_meet h)
-- reach(II)I
def fX5_reach_L15 (S : St) : Option (Int32 × St) :=
  cl (fX5_finds (-1000001) S) fun v1 S1 =>
  some (v1, S1)
theorem sX5_reach_L15 {r : Int32} {S9 : St}  {S : St} (h : fX5_reach_L15 S = some (r, S9)) : PW mX5_reach (some (.int r), S9) 15 [some (.ref 41), none, none, none] [] S := by
  unfold fX5_reach_L15 at h
  refine p_aload_n (k := 7) (i := 0) rfl rfl rfl ?_
  refine p_ldc (k := 8) rfl k_RX5_37 ?_
  obtain ⟨v1, S1, hcS1, h⟩ := cl_some h
  refine p_callV (k := 9) [.int (-1000001)] [] rfl (tX5_finds hcS1) lay_X5 rfl lc_X5_finds ml_RX5_39 mi_X5_finds mv_X5_finds (by decide) (by decide) (Nat.le_of_ble_eq_true rfl) rfl ?_
  exact s_iret h (k := 10) rfl rfl
def fX5_reach_L89 (y0 : Int32) (S : St) : Option (Int32 × St) :=
  some (y0, S)
theorem sX5_reach_L89 {r : Int32} {S9 : St} {y0 : Int32} {S : St} (h : fX5_reach_L89 y0 S = some (r, S9)) : PW mX5_reach (some (.int r), S9) 89 [none, none, none, none] [.int y0] S := by
  unfold fX5_reach_L89 at h
  exact s_iret h (k := 45) rfl rfl
def fX5_reach_L62 (x3 : Int32) (S : St) : Option (Int32 × St) :=
  cl (fX5_copyRow 45 42 S) fun _ S1 =>
  if 100 < x3 then
    cl (fX5_finds (-1000004) S1) fun v1 S2 =>
    fX5_reach_L89 v1 S2
  else
    fX5_reach_L89 x3 S1
theorem sX5_reach_L62 {r : Int32} {S9 : St} {x3 : Int32} {S : St} (h : fX5_reach_L62 x3 S = some (r, S9)) : PW mX5_reach (some (.int r), S9) 62 [some (.ref 41), none, none, some (.int x3)] [] S := by
  unfold fX5_reach_L62 at h
  refine p_aload_n (k := 32) (i := 0) rfl rfl rfl ?_
  refine p_getr (k := 33) rfl lay_X5 rfl fl_RX5_19 ?_
  refine p_aload_n (k := 34) (i := 0) rfl rfl rfl ?_
  refine p_getr (k := 35) rfl lay_X5 rfl fl_RX5_7 ?_
  obtain ⟨_, S1, hcS1, h⟩ := cl_some h
  refine p_callS (k := 36) [.ref 45, .ref 42] [] rfl (tX5_copyRow lay_45 lay_42 hcS1) lc_X5_copyRow ml_RX5_164 ms_X5_copyRow (by decide) (by decide) (Nat.le_of_ble_eq_true rfl) rfl ?_
  refine p_iload_n (k := 37) (i := 3) rfl rfl rfl ?_
  refine p_bipush (k := 38) 100 rfl (by decide) ?_
  refine p_icmp_gt (k := 39) 83 rfl (by decide) (fun hc => ?_) (fun hc => ?_)
  · rw [if_pos hc] at h
    refine p_aload_n (k := 42) (i := 0) rfl rfl rfl ?_
    refine p_ldc (k := 43) rfl k_RX5_38 ?_
    obtain ⟨v1, S2, hcS2, h⟩ := cl_some h
    refine p_callV (k := 44) [.int (-1000004)] [] rfl (tX5_finds hcS2) lay_X5 rfl lc_X5_finds ml_RX5_39 mi_X5_finds mv_X5_finds (by decide) (by decide) (Nat.le_of_ble_eq_true rfl) rfl ?_
    refine p_msk [false, false, false, false] (L2 := [none, none, none, none]) rfl ?_
    exact sX5_reach_L89 h
  · rw [if_neg hc] at h
    refine p_iload_n (k := 40) (i := 3) rfl rfl rfl ?_
    refine p_goto (k := 41) 89 rfl (by decide) ?_
    refine p_msk [false, false, false, false] (L2 := [none, none, none, none]) rfl ?_
    exact sX5_reach_L89 h
def fX5_reach_L35 : Nat → Int32 → Int32 → Int32 → St → Option (Int32 × St)
  | 0 => fun _ _ _ _ => none
  | n + 1 => fun x1 x2 x3 S =>
    if 100 < x3 then
      fX5_reach_L62 x3 S
    else
      cl (fX5_its x1 1 S) fun v1 S1 =>
      if v1 = x2 then
        fX5_reach_L62 x3 S1
      else
        cl (fX5_dayBut 0 S1) fun _ S2 =>
        bnd (x3 + 1) fun v2 =>
        fX5_reach_L35 n x1 x2 v2 S2
theorem sX5_reach_L35 {r : Int32} {S9 : St} : ∀ (n : Nat) (x1 : Int32) (x2 : Int32) (x3 : Int32) (S : St), fX5_reach_L35 n x1 x2 x3 S = some (r, S9) → PW mX5_reach (some (.int r), S9) 35 [some (.ref 41), some (.int x1), some (.int x2), some (.int x3)] [] S := by
  intro n
  induction n with
  | zero => intro x1 x2 x3 S h; cases h
  | succ n ih =>
    intro x1 x2 x3 S h
    unfold fX5_reach_L35 at h
    refine p_iload_n (k := 18) (i := 3) rfl rfl rfl ?_
    refine p_bipush (k := 19) 100 rfl (by decide) ?_
    refine p_icmp_gt (k := 20) 62 rfl (by decide) (fun hc => ?_) (fun hc => ?_)
    · rw [if_pos hc] at h
      refine p_msk [true, false, false, true] (L2 := [some (.ref 41), none, none, some (.int x3)]) rfl ?_
      exact sX5_reach_L62 h
    · rw [if_neg hc] at h
      refine p_aload_n (k := 21) (i := 0) rfl rfl rfl ?_
      refine p_iload_n (k := 22) (i := 1) rfl rfl rfl ?_
      refine p_iconst (k := 23) 1 rfl (by decide) ?_
      obtain ⟨v1, S1, hcS1, h⟩ := cl_some h
      refine p_callV (k := 24) [.int x1, .int 1] [] rfl (tX5_its hcS1) lay_X5 rfl lc_X5_its ml_RX5_57 mi_X5_its mv_X5_its (by decide) (by decide) (Nat.le_of_ble_eq_true rfl) rfl ?_
      refine p_iload_n (k := 25) (i := 2) rfl rfl rfl ?_
      refine p_icmp_eq (k := 26) 62 rfl (by decide) (fun hc => ?_) (fun hc => ?_)
      · rw [if_pos hc] at h
        refine p_msk [true, false, false, true] (L2 := [some (.ref 41), none, none, some (.int x3)]) rfl ?_
        exact sX5_reach_L62 h
      · rw [if_neg hc] at h
        refine p_aload_n (k := 27) (i := 0) rfl rfl rfl ?_
        refine p_iconst (k := 28) 0 rfl (by decide) ?_
        obtain ⟨_, S2, hcS2, h⟩ := cl_some h
        refine p_callV (k := 29) [.int 0] [] rfl (tX5_dayBut hcS2) lay_X5 rfl lc_X5_dayBut ml_RX5_142 mi_X5_dayBut mv_X5_dayBut (by decide) (by decide) (Nat.le_of_ble_eq_true rfl) rfl ?_
        obtain ⟨v2, ev2, h⟩ := bnd_ex h
        refine p_iinc (k := 30) v2 [some (.ref 41), some (.int x1), some (.int x2), some (.int v2)] rfl rfl (by rw [← ev2]; rfl) rfl (by decide) rfl ?_
        refine p_goto (k := 31) 35 rfl (by decide) ?_
        refine p_msk [true, true, true, true] (L2 := [some (.ref 41), some (.int x1), some (.int x2), some (.int v2)]) rfl ?_
        exact ih _ _ _ _ h
def fX5_reach (a1 : Int32) (a2 : Int32) (S : St) : Option (Int32 × St) :=
  cl (fX5_isGoat a1 S) fun v1 S1 =>
  if v1 = 0 then
    fX5_reach_L15 S1
  else
    cl (fX5_isLedge a2 S1) fun v2 S2 =>
    if v2 = 0 then
      fX5_reach_L15 S2
    else
      cl (fX5_copyRow 42 45 S2) fun _ S3 =>
      fX5_reach_L35 FU a1 a2 0 S3
theorem sX5_reach {a1 : Int32} {a2 : Int32} {S : St} {r : Int32} {S9 : St} (h : fX5_reach a1 a2 S = some (r, S9)) : PW mX5_reach (some (.int r), S9) 0 [some (.ref 41), some (.int a1), some (.int a2), none] [] S := by
  unfold fX5_reach at h
  refine p_aload_n (k := 0) (i := 0) rfl rfl rfl ?_
  refine p_iload_n (k := 1) (i := 1) rfl rfl rfl ?_
  obtain ⟨v1, S1, hcS1, h⟩ := cl_some h
  refine p_callV (k := 2) [.int a1] [] rfl (tX5_isGoat hcS1) lay_X5 rfl lc_X5_isGoat ml_RX5_95 mi_X5_isGoat mv_X5_isGoat (by decide) (by decide) (Nat.le_of_ble_eq_true rfl) rfl ?_
  refine p_if_eq (k := 3) 15 rfl (by decide) (fun hc => ?_) (fun hc => ?_)
  · rw [if_pos hc] at h
    refine p_msk [true, false, false, false] (L2 := [some (.ref 41), none, none, none]) rfl ?_
    exact sX5_reach_L15 h
  · rw [if_neg hc] at h
    refine p_iload_n (k := 4) (i := 2) rfl rfl rfl ?_
    obtain ⟨v2, S2, hcS2, h⟩ := cl_some h
    refine p_callS (k := 5) [.int a2] [] rfl (tX5_isLedge hcS2) lc_X5_isLedge ml_RX5_43 ms_X5_isLedge (by decide) (by decide) (Nat.le_of_ble_eq_true rfl) rfl ?_
    refine p_if_ne (k := 6) 22 rfl (by decide) (fun hc => ?_) (fun hc => ?_)
    · rw [if_neg hc] at h
      refine p_aload_n (k := 11) (i := 0) rfl rfl rfl ?_
      refine p_getr (k := 12) rfl lay_X5 rfl fl_RX5_7 ?_
      refine p_aload_n (k := 13) (i := 0) rfl rfl rfl ?_
      refine p_getr (k := 14) rfl lay_X5 rfl fl_RX5_19 ?_
      obtain ⟨_, S3, hcS3, h⟩ := cl_some h
      refine p_callS (k := 15) [.ref 42, .ref 45] [] rfl (tX5_copyRow lay_42 lay_45 hcS3) lc_X5_copyRow ml_RX5_164 ms_X5_copyRow (by decide) (by decide) (Nat.le_of_ble_eq_true rfl) rfl ?_
      refine p_iconst (k := 16) 0 rfl (by decide) ?_
      refine p_istore_n (k := 17) 3 [some (.ref 41), some (.int a1), some (.int a2), some (.int 0)] rfl rfl rfl (by decide) rfl ?_
      refine p_msk [true, true, true, true] (L2 := [some (.ref 41), some (.int a1), some (.int a2), some (.int 0)]) rfl ?_
      exact sX5_reach_L35 _ _ _ _ _ h
    · rw [if_pos hc] at h
      refine p_msk [true, false, false, false] (L2 := [some (.ref 41), none, none, none]) rfl ?_
      exact sX5_reach_L15 h
theorem tX5_reach {a1 : Int32} {a2 : Int32} {S : St} {r : Int32} {S9 : St} (h : fX5_reach a1 a2 S = some (r, S9)) : MR yX5_reach cX5_reach mX5_reach [.ref 41, .int a1, .int a2] S (some (.int r), S9) := MR.of (n := 1) okX5_reach rfl rfl (sX5_reach h)
-- isAsked(II)Z
def fX5_isAsked_L25 (y0 : Int32) (S : St) : Option (Int32 × St) :=
  retN .boolean y0 S
theorem sX5_isAsked_L25 {r : Int32} {S9 : St} {y0 : Int32} {S : St} (h : fX5_isAsked_L25 y0 S = some (r, S9)) : PW mX5_isAsked (some (.int r), S9) 25 [none, none, none] [.int y0] S := by
  unfold fX5_isAsked_L25 at h
  exact s_zret h (k := 13) rfl rfl
def fX5_isAsked_L24 (S : St) : Option (Int32 × St) :=
  fX5_isAsked_L25 0 S
theorem sX5_isAsked_L24 {r : Int32} {S9 : St}  {S : St} (h : fX5_isAsked_L24 S = some (r, S9)) : PW mX5_isAsked (some (.int r), S9) 24 [none, none, none] [] S := by
  unfold fX5_isAsked_L24 at h
  refine p_iconst (k := 12) 0 rfl (by decide) ?_
  refine p_msk [false, false, false] (L2 := [none, none, none]) rfl ?_
  exact sX5_isAsked_L25 h
def fX5_isAsked (a1 : Int32) (a2 : Int32) (S : St) : Option (Int32 × St) :=
  cl (fX5_isGoat a1 S) fun v1 S1 =>
  if v1 = 0 then
    fX5_isAsked_L24 S1
  else
    cl (fX5_isIn (Int32.toInt64 a2) 0 40 S1) fun v2 S2 =>
    if v2 = 0 then
      fX5_isAsked_L24 S2
    else
      fX5_isAsked_L25 1 S2
theorem sX5_isAsked {a1 : Int32} {a2 : Int32} {S : St} {r : Int32} {S9 : St} (h : fX5_isAsked a1 a2 S = some (r, S9)) : PW mX5_isAsked (some (.int r), S9) 0 [some (.ref 41), some (.int a1), some (.int a2)] [] S := by
  unfold fX5_isAsked at h
  refine p_aload_n (k := 0) (i := 0) rfl rfl rfl ?_
  refine p_iload_n (k := 1) (i := 1) rfl rfl rfl ?_
  obtain ⟨v1, S1, hcS1, h⟩ := cl_some h
  refine p_callV (k := 2) [.int a1] [] rfl (tX5_isGoat hcS1) lay_X5 rfl lc_X5_isGoat ml_RX5_95 mi_X5_isGoat mv_X5_isGoat (by decide) (by decide) (Nat.le_of_ble_eq_true rfl) rfl ?_
  refine p_if_eq (k := 3) 24 rfl (by decide) (fun hc => ?_) (fun hc => ?_)
  · rw [if_pos hc] at h
    refine p_msk [false, false, false] (L2 := [none, none, none]) rfl ?_
    exact sX5_isAsked_L24 h
  · rw [if_neg hc] at h
    refine p_iload_n (k := 4) (i := 2) rfl rfl rfl ?_
    refine p_i2l (k := 5) rfl ?_
    refine p_lconst (k := 6) 0 rfl (by decide) ?_
    refine p_ldc2 (k := 7) rfl k_RX5_176 ?_
    obtain ⟨v2, S2, hcS2, h⟩ := cl_some h
    refine p_callS (k := 8) [.long (Int32.toInt64 a2), .long 0, .long 40] [] rfl (tX5_isIn hcS2) lc_X5_isIn ml_RX5_49 ms_X5_isIn (by decide) (by decide) (Nat.le_of_ble_eq_true rfl) rfl ?_
    refine p_if_eq (k := 9) 24 rfl (by decide) (fun hc => ?_) (fun hc => ?_)
    · rw [if_pos hc] at h
      refine p_msk [false, false, false] (L2 := [none, none, none]) rfl ?_
      exact sX5_isAsked_L24 h
    · rw [if_neg hc] at h
      refine p_iconst (k := 10) 1 rfl (by decide) ?_
      refine p_goto (k := 11) 25 rfl (by decide) ?_
      refine p_msk [false, false, false] (L2 := [none, none, none]) rfl ?_
      exact sX5_isAsked_L25 h
theorem tX5_isAsked {a1 : Int32} {a2 : Int32} {S : St} {r : Int32} {S9 : St} (h : fX5_isAsked a1 a2 S = some (r, S9)) : MR yX5_isAsked cX5_isAsked mX5_isAsked [.ref 41, .int a1, .int a2] S (some (.int r), S9) := MR.of (n := 0) okX5_isAsked rfl rfl (sX5_isAsked h)
-- wisestBy(III)I
def fX5_wisestBy_L64 (k17 : Int32 → Int32 → Int32 → Int32 → Int32 → Int32 → Int32 → St → Option (Int32 × St)) (x1 : Int32) (x2 : Int32) (x3 : Int32) (x4 : Int32) (x6 : Int32) (x7 : Int32) (x8 : Int32) (y0 : Int32) (S : St) : Option (Int32 × St) :=
  cl (fX5_greatest x6 x8 S) fun v1 S1 =>
  bnd (x7 + 1) fun v2 =>
  k17 x1 x2 x3 x4 y0 v1 v2 S1
theorem sX5_wisestBy_L64 {r : Int32} {S9 : St} {k17 : Int32 → Int32 → Int32 → Int32 → Int32 → Int32 → Int32 → St → Option (Int32 × St)} (hk17 : ∀ x1 x2 x3 x4 x5 x6 x7 S, k17 x1 x2 x3 x4 x5 x6 x7 S = some (r, S9) → PW mX5_wisestBy (some (.int r), S9) 17 [some (.ref 41), some (.int x1), some (.int x2), some (.int x3), some (.int x4), some (.int x5), some (.int x6), some (.int x7), none] [] S) {x1 : Int32} {x2 : Int32} {x3 : Int32} {x4 : Int32} {x6 : Int32} {x7 : Int32} {x8 : Int32} {y0 : Int32} {S : St} (h : fX5_wisestBy_L64 k17 x1 x2 x3 x4 x6 x7 x8 y0 S = some (r, S9)) : PW mX5_wisestBy (some (.int r), S9) 64 [some (.ref 41), some (.int x1), some (.int x2), some (.int x3), some (.int x4), none, some (.int x6), some (.int x7), some (.int x8)] [.int y0] S := by
  unfold fX5_wisestBy_L64 at h
  refine p_istore (k := 35) [some (.ref 41), some (.int x1), some (.int x2), some (.int x3), some (.int x4), some (.int y0), some (.int x6), some (.int x7), some (.int x8)] rfl rfl (by decide) rfl ?_
  refine p_iload (k := 36) rfl rfl ?_
  refine p_iload (k := 37) rfl rfl ?_
  obtain ⟨v1, S1, hcS1, h⟩ := cl_some h
  refine p_callS (k := 38) [.int x6, .int x8] [] rfl (tX5_greatest hcS1) lc_X5_greatest ml_RX5_125 ms_X5_greatest (by decide) (by decide) (Nat.le_of_ble_eq_true rfl) rfl ?_
  refine p_istore (k := 39) [some (.ref 41), some (.int x1), some (.int x2), some (.int x3), some (.int x4), some (.int y0), some (.int v1), some (.int x7), some (.int x8)] rfl rfl (by decide) rfl ?_
  obtain ⟨v2, ev2, h⟩ := bnd_ex h
  refine p_iinc (k := 40) v2 [some (.ref 41), some (.int x1), some (.int x2), some (.int x3), some (.int x4), some (.int y0), some (.int v1), some (.int v2), some (.int x8)] rfl rfl (by rw [← ev2]; rfl) rfl (by decide) rfl ?_
  refine p_goto (k := 41) 17 rfl (by decide) ?_
  refine p_msk [true, true, true, true, true, true, true, true, false] (L2 := [some (.ref 41), some (.int x1), some (.int x2), some (.int x3), some (.int x4), some (.int y0), some (.int v1), some (.int v2), none]) rfl ?_
  exact hk17 _ _ _ _ _ _ _ _ h
def fX5_wisestBy_L17 : Nat → Int32 → Int32 → Int32 → Int32 → Int32 → Int32 → Int32 → St → Option (Int32 × St)
  | 0 => fun _ _ _ _ _ _ _ _ => none
  | n + 1 => fun x1 x2 x3 x4 x5 x6 x7 S =>
    cl (fX5_greatestOf x2 S) fun v1 S1 =>
    if v1 < x7 then
      cl (fX5_at x1 x2 S1) fun v2 S2 =>
      wr S2 42 75 v2 x4 fun S3 =>
      some (x5, S3)
    else
      cl (fX5_at x1 x2 S1) fun v3 S4 =>
      wr S4 42 75 v3 x7 fun S5 =>
      cl (fX5_then x1 2 x3 S5) fun v4 S6 =>
      cl (fX5_many v4 S6) fun v5 S7 =>
      if v5 ≤ x6 then
        fX5_wisestBy_L64 (fun x1 x2 x3 x4 x5 x6 x7 S => fX5_wisestBy_L17 n x1 x2 x3 x4 x5 x6 x7 S) x1 x2 x3 x4 x6 x7 v5 x5 S7
      else
        fX5_wisestBy_L64 (fun x1 x2 x3 x4 x5 x6 x7 S => fX5_wisestBy_L17 n x1 x2 x3 x4 x5 x6 x7 S) x1 x2 x3 x4 x6 x7 v5 x7 S7
theorem sX5_wisestBy_L17 {r : Int32} {S9 : St} : ∀ (n : Nat) (x1 : Int32) (x2 : Int32) (x3 : Int32) (x4 : Int32) (x5 : Int32) (x6 : Int32) (x7 : Int32) (S : St), fX5_wisestBy_L17 n x1 x2 x3 x4 x5 x6 x7 S = some (r, S9) → PW mX5_wisestBy (some (.int r), S9) 17 [some (.ref 41), some (.int x1), some (.int x2), some (.int x3), some (.int x4), some (.int x5), some (.int x6), some (.int x7), none] [] S := by
  intro n
  induction n with
  | zero => intro x1 x2 x3 x4 x5 x6 x7 S h; cases h
  | succ n ih =>
    intro x1 x2 x3 x4 x5 x6 x7 S h
    unfold fX5_wisestBy_L17 at h
    refine p_iload (k := 11) rfl rfl ?_
    refine p_iload_n (k := 12) (i := 2) rfl rfl rfl ?_
    obtain ⟨v1, S1, hcS1, h⟩ := cl_some h
    refine p_callS (k := 13) [.int x2] [.int x7] rfl (tX5_greatestOf hcS1) lc_X5_greatestOf ml_RX5_115 ms_X5_greatestOf (by decide) (by decide) (Nat.le_of_ble_eq_true rfl) rfl ?_
    refine p_icmp_gt (k := 14) 81 rfl (by decide) (fun hc => ?_) (fun hc => ?_)
    · rw [if_pos hc] at h
      refine p_aload_n (k := 42) (i := 0) rfl rfl rfl ?_
      refine p_getr (k := 43) rfl lay_X5 rfl fl_RX5_7 ?_
      refine p_iload_n (k := 44) (i := 1) rfl rfl rfl ?_
      refine p_iload_n (k := 45) (i := 2) rfl rfl rfl ?_
      obtain ⟨v2, S2, hcS2, h⟩ := cl_some h
      refine p_callS (k := 46) [.int x1, .int x2] [.ref 42] rfl (tX5_at hcS2) lc_X5_at ml_RX5_72 ms_X5_at (by decide) (by decide) (Nat.le_of_ble_eq_true rfl) rfl ?_
      refine p_iload (k := 47) rfl rfl ?_
      refine s_wr h (k := 48) rfl lay_42 (fun S3 h => ?_)
      refine p_iload (k := 49) rfl rfl ?_
      exact s_iret h (k := 50) rfl rfl
    · rw [if_neg hc] at h
      refine p_aload_n (k := 15) (i := 0) rfl rfl rfl ?_
      refine p_getr (k := 16) rfl lay_X5 rfl fl_RX5_7 ?_
      refine p_iload_n (k := 17) (i := 1) rfl rfl rfl ?_
      refine p_iload_n (k := 18) (i := 2) rfl rfl rfl ?_
      obtain ⟨v3, S4, hcS4, h⟩ := cl_some h
      refine p_callS (k := 19) [.int x1, .int x2] [.ref 42] rfl (tX5_at hcS4) lc_X5_at ml_RX5_72 ms_X5_at (by decide) (by decide) (Nat.le_of_ble_eq_true rfl) rfl ?_
      refine p_iload (k := 20) rfl rfl ?_
      refine s_wr h (k := 21) rfl lay_42 (fun S5 h => ?_)
      refine p_aload_n (k := 22) (i := 0) rfl rfl rfl ?_
      refine p_iload_n (k := 23) (i := 1) rfl rfl rfl ?_
      refine p_iconst (k := 24) 2 rfl (by decide) ?_
      refine p_iload_n (k := 25) (i := 3) rfl rfl rfl ?_
      obtain ⟨v4, S6, hcS6, h⟩ := cl_some h
      refine p_callV (k := 26) [.int x1, .int 2, .int x3] [] rfl (tX5_then hcS6) lay_X5 rfl lc_X5_then ml_RX5_172 mi_X5_then mv_X5_then (by decide) (by decide) (Nat.le_of_ble_eq_true rfl) rfl ?_
      obtain ⟨v5, S7, hcS7, h⟩ := cl_some h
      refine p_callS (k := 27) [.int v4] [] rfl (tX5_many hcS7) lc_X5_many ml_RX5_86 ms_X5_many (by decide) (by decide) (Nat.le_of_ble_eq_true rfl) rfl ?_
      refine p_istore (k := 28) [some (.ref 41), some (.int x1), some (.int x2), some (.int x3), some (.int x4), some (.int x5), some (.int x6), some (.int x7), some (.int v5)] rfl rfl (by decide) rfl ?_
      refine p_iload (k := 29) rfl rfl ?_
      refine p_iload (k := 30) rfl rfl ?_
      refine p_icmp_le (k := 31) 62 rfl (by decide) (fun hc => ?_) (fun hc => ?_)
      · rw [if_pos hc] at h
        refine p_iload (k := 34) rfl rfl ?_
        refine p_msk [true, true, true, true, true, false, true, true, true] (L2 := [some (.ref 41), some (.int x1), some (.int x2), some (.int x3), some (.int x4), none, some (.int x6), some (.int x7), some (.int v5)]) rfl ?_
        exact sX5_wisestBy_L64 ih h
      · rw [if_neg hc] at h
        refine p_iload (k := 32) rfl rfl ?_
        refine p_goto (k := 33) 64 rfl (by decide) ?_
        refine p_msk [true, true, true, true, true, false, true, true, true] (L2 := [some (.ref 41), some (.int x1), some (.int x2), some (.int x3), some (.int x4), none, some (.int x6), some (.int x7), some (.int v5)]) rfl ?_
        exact sX5_wisestBy_L64 ih h
def fX5_wisestBy (a1 : Int32) (a2 : Int32) (a3 : Int32) (S : St) : Option (Int32 × St) :=
  cl (fX5_its a1 a2 S) fun v1 S1 =>
  fX5_wisestBy_L17 FU a1 a2 a3 v1 0 (-1) 0 S1
theorem sX5_wisestBy {a1 : Int32} {a2 : Int32} {a3 : Int32} {S : St} {r : Int32} {S9 : St} (h : fX5_wisestBy a1 a2 a3 S = some (r, S9)) : PW mX5_wisestBy (some (.int r), S9) 0 [some (.ref 41), some (.int a1), some (.int a2), some (.int a3), none, none, none, none, none] [] S := by
  unfold fX5_wisestBy at h
  refine p_aload_n (k := 0) (i := 0) rfl rfl rfl ?_
  refine p_iload_n (k := 1) (i := 1) rfl rfl rfl ?_
  refine p_iload_n (k := 2) (i := 2) rfl rfl rfl ?_
  obtain ⟨v1, S1, hcS1, h⟩ := cl_some h
  refine p_callV (k := 3) [.int a1, .int a2] [] rfl (tX5_its hcS1) lay_X5 rfl lc_X5_its ml_RX5_57 mi_X5_its mv_X5_its (by decide) (by decide) (Nat.le_of_ble_eq_true rfl) rfl ?_
  refine p_istore (k := 4) [some (.ref 41), some (.int a1), some (.int a2), some (.int a3), some (.int v1), none, none, none, none] rfl rfl (by decide) rfl ?_
  refine p_iconst (k := 5) 0 rfl (by decide) ?_
  refine p_istore (k := 6) [some (.ref 41), some (.int a1), some (.int a2), some (.int a3), some (.int v1), some (.int 0), none, none, none] rfl rfl (by decide) rfl ?_
  refine p_iconst (k := 7) (-1) rfl (by decide) ?_
  refine p_istore (k := 8) [some (.ref 41), some (.int a1), some (.int a2), some (.int a3), some (.int v1), some (.int 0), some (.int (-1)), none, none] rfl rfl (by decide) rfl ?_
  refine p_iconst (k := 9) 0 rfl (by decide) ?_
  refine p_istore (k := 10) [some (.ref 41), some (.int a1), some (.int a2), some (.int a3), some (.int v1), some (.int 0), some (.int (-1)), some (.int 0), none] rfl rfl (by decide) rfl ?_
  refine p_msk [true, true, true, true, true, true, true, true, false] (L2 := [some (.ref 41), some (.int a1), some (.int a2), some (.int a3), some (.int v1), some (.int 0), some (.int (-1)), some (.int 0), none]) rfl ?_
  exact sX5_wisestBy_L17 _ _ _ _ _ _ _ _ _ h
theorem tX5_wisestBy {a1 : Int32} {a2 : Int32} {a3 : Int32} {S : St} {r : Int32} {S9 : St} (h : fX5_wisestBy a1 a2 a3 S = some (r, S9)) : MR yX5_wisestBy cX5_wisestBy mX5_wisestBy [.ref 41, .int a1, .int a2, .int a3] S (some (.int r), S9) := MR.of (n := 5) okX5_wisestBy rfl rfl (sX5_wisestBy h)
-- put(II)I
def fX5_put_L25 (y0 : Int32) (S : St) : Option (Int32 × St) :=
  some (y0, S)
theorem sX5_put_L25 {r : Int32} {S9 : St} {y0 : Int32} {S : St} (h : fX5_put_L25 y0 S = some (r, S9)) : PW mX5_put (some (.int r), S9) 25 [none, none, none] [.int y0] S := by
  unfold fX5_put_L25 at h
  exact s_iret h (k := 14) rfl rfl
def fX5_put (a1 : Int32) (a2 : Int32) (S : St) : Option (Int32 × St) :=
  cl (fX5_isAsked a1 a2 S) fun v1 S1 =>
  if v1 = 0 then
    cl (fX5_finds (-1000001) S1) fun v2 S2 =>
    fX5_put_L25 v2 S2
  else
    cl (fX5_wisestBy a1 1 a2 S1) fun v3 S3 =>
    fX5_put_L25 v3 S3
theorem sX5_put {a1 : Int32} {a2 : Int32} {S : St} {r : Int32} {S9 : St} (h : fX5_put a1 a2 S = some (r, S9)) : PW mX5_put (some (.int r), S9) 0 [some (.ref 41), some (.int a1), some (.int a2)] [] S := by
  unfold fX5_put at h
  refine p_aload_n (k := 0) (i := 0) rfl rfl rfl ?_
  refine p_iload_n (k := 1) (i := 1) rfl rfl rfl ?_
  refine p_iload_n (k := 2) (i := 2) rfl rfl rfl ?_
  obtain ⟨v1, S1, hcS1, h⟩ := cl_some h
  refine p_callV (k := 3) [.int a1, .int a2] [] rfl (tX5_isAsked hcS1) lay_X5 rfl lc_X5_isAsked ml_RX5_178 mi_X5_isAsked mv_X5_isAsked (by decide) (by decide) (Nat.le_of_ble_eq_true rfl) rfl ?_
  refine p_if_eq (k := 4) 19 rfl (by decide) (fun hc => ?_) (fun hc => ?_)
  · rw [if_pos hc] at h
    refine p_aload_n (k := 11) (i := 0) rfl rfl rfl ?_
    refine p_ldc (k := 12) rfl k_RX5_37 ?_
    obtain ⟨v2, S2, hcS2, h⟩ := cl_some h
    refine p_callV (k := 13) [.int (-1000001)] [] rfl (tX5_finds hcS2) lay_X5 rfl lc_X5_finds ml_RX5_39 mi_X5_finds mv_X5_finds (by decide) (by decide) (Nat.le_of_ble_eq_true rfl) rfl ?_
    refine p_msk [false, false, false] (L2 := [none, none, none]) rfl ?_
    exact sX5_put_L25 h
  · rw [if_neg hc] at h
    refine p_aload_n (k := 5) (i := 0) rfl rfl rfl ?_
    refine p_iload_n (k := 6) (i := 1) rfl rfl rfl ?_
    refine p_iconst (k := 7) 1 rfl (by decide) ?_
    refine p_iload_n (k := 8) (i := 2) rfl rfl rfl ?_
    obtain ⟨v3, S3, hcS3, h⟩ := cl_some h
    refine p_callV (k := 9) [.int a1, .int 1, .int a2] [] rfl (tX5_wisestBy hcS3) lay_X5 rfl lc_X5_wisestBy ml_RX5_181 mi_X5_wisestBy mv_X5_wisestBy (by decide) (by decide) (Nat.le_of_ble_eq_true rfl) rfl ?_
    refine p_goto (k := 10) 25 rfl (by decide) ?_
    refine p_msk [false, false, false] (L2 := [none, none, none]) rfl ?_
    exact sX5_put_L25 h
theorem tX5_put {a1 : Int32} {a2 : Int32} {S : St} {r : Int32} {S9 : St} (h : fX5_put a1 a2 S = some (r, S9)) : MR yX5_put cX5_put mX5_put [.ref 41, .int a1, .int a2] S (some (.int r), S9) := MR.of (n := 0) okX5_put rfl rfl (sX5_put h)
-- kindFor(II)I
def fX5_kindFor_L25 (y0 : Int32) (S : St) : Option (Int32 × St) :=
  some (y0, S)
theorem sX5_kindFor_L25 {r : Int32} {S9 : St} {y0 : Int32} {S : St} (h : fX5_kindFor_L25 y0 S = some (r, S9)) : PW mX5_kindFor (some (.int r), S9) 25 [none, none, none] [.int y0] S := by
  unfold fX5_kindFor_L25 at h
  exact s_iret h (k := 14) rfl rfl
def fX5_kindFor (a1 : Int32) (a2 : Int32) (S : St) : Option (Int32 × St) :=
  cl (fX5_isAsked a1 a2 S) fun v1 S1 =>
  if v1 = 0 then
    cl (fX5_finds (-1000001) S1) fun v2 S2 =>
    fX5_kindFor_L25 v2 S2
  else
    cl (fX5_wisestBy a1 0 a2 S1) fun v3 S3 =>
    fX5_kindFor_L25 v3 S3
theorem sX5_kindFor {a1 : Int32} {a2 : Int32} {S : St} {r : Int32} {S9 : St} (h : fX5_kindFor a1 a2 S = some (r, S9)) : PW mX5_kindFor (some (.int r), S9) 0 [some (.ref 41), some (.int a1), some (.int a2)] [] S := by
  unfold fX5_kindFor at h
  refine p_aload_n (k := 0) (i := 0) rfl rfl rfl ?_
  refine p_iload_n (k := 1) (i := 1) rfl rfl rfl ?_
  refine p_iload_n (k := 2) (i := 2) rfl rfl rfl ?_
  obtain ⟨v1, S1, hcS1, h⟩ := cl_some h
  refine p_callV (k := 3) [.int a1, .int a2] [] rfl (tX5_isAsked hcS1) lay_X5 rfl lc_X5_isAsked ml_RX5_178 mi_X5_isAsked mv_X5_isAsked (by decide) (by decide) (Nat.le_of_ble_eq_true rfl) rfl ?_
  refine p_if_eq (k := 4) 19 rfl (by decide) (fun hc => ?_) (fun hc => ?_)
  · rw [if_pos hc] at h
    refine p_aload_n (k := 11) (i := 0) rfl rfl rfl ?_
    refine p_ldc (k := 12) rfl k_RX5_37 ?_
    obtain ⟨v2, S2, hcS2, h⟩ := cl_some h
    refine p_callV (k := 13) [.int (-1000001)] [] rfl (tX5_finds hcS2) lay_X5 rfl lc_X5_finds ml_RX5_39 mi_X5_finds mv_X5_finds (by decide) (by decide) (Nat.le_of_ble_eq_true rfl) rfl ?_
    refine p_msk [false, false, false] (L2 := [none, none, none]) rfl ?_
    exact sX5_kindFor_L25 h
  · rw [if_neg hc] at h
    refine p_aload_n (k := 5) (i := 0) rfl rfl rfl ?_
    refine p_iload_n (k := 6) (i := 1) rfl rfl rfl ?_
    refine p_iconst (k := 7) 0 rfl (by decide) ?_
    refine p_iload_n (k := 8) (i := 2) rfl rfl rfl ?_
    obtain ⟨v3, S3, hcS3, h⟩ := cl_some h
    refine p_callV (k := 9) [.int a1, .int 0, .int a2] [] rfl (tX5_wisestBy hcS3) lay_X5 rfl lc_X5_wisestBy ml_RX5_181 mi_X5_wisestBy mv_X5_wisestBy (by decide) (by decide) (Nat.le_of_ble_eq_true rfl) rfl ?_
    refine p_goto (k := 10) 25 rfl (by decide) ?_
    refine p_msk [false, false, false] (L2 := [none, none, none]) rfl ?_
    exact sX5_kindFor_L25 h
theorem tX5_kindFor {a1 : Int32} {a2 : Int32} {S : St} {r : Int32} {S9 : St} (h : fX5_kindFor a1 a2 S = some (r, S9)) : MR yX5_kindFor cX5_kindFor mX5_kindFor [.ref 41, .int a1, .int a2] S (some (.int r), S9) := MR.of (n := 0) okX5_kindFor rfl rfl (sX5_kindFor h)
-- growsFor(II)I
def fX5_growsFor_L19 (S : St) : Option (Int32 × St) :=
  cl (fX5_finds (-1000001) S) fun v1 S1 =>
  some (v1, S1)
theorem sX5_growsFor_L19 {r : Int32} {S9 : St}  {S : St} (h : fX5_growsFor_L19 S = some (r, S9)) : PW mX5_growsFor (some (.int r), S9) 19 [some (.ref 41), none, none, none, none] [] S := by
  unfold fX5_growsFor_L19 at h
  refine p_aload_n (k := 9) (i := 0) rfl rfl rfl ?_
  refine p_ldc (k := 10) rfl k_RX5_37 ?_
  obtain ⟨v1, S1, hcS1, h⟩ := cl_some h
  refine p_callV (k := 11) [.int (-1000001)] [] rfl (tX5_finds hcS1) lay_X5 rfl lc_X5_finds ml_RX5_39 mi_X5_finds mv_X5_finds (by decide) (by decide) (Nat.le_of_ble_eq_true rfl) rfl ?_
  exact s_iret h (k := 12) rfl rfl
def fX5_growsFor_L84 (k42 : Int32 → Int32 → Int32 → Int32 → St → Option (Int32 × St)) (x1 : Int32) (x2 : Int32) (x4 : Int32) (y0 : Int32) (S : St) : Option (Int32 × St) :=
  cl (fX5_copyRow 45 42 S) fun _ S1 =>
  bnd (x4 + 1) fun v1 =>
  k42 x1 x2 y0 v1 S1
theorem sX5_growsFor_L84 {r : Int32} {S9 : St} {k42 : Int32 → Int32 → Int32 → Int32 → St → Option (Int32 × St)} (hk42 : ∀ x1 x2 x3 x4 S, k42 x1 x2 x3 x4 S = some (r, S9) → PW mX5_growsFor (some (.int r), S9) 42 [some (.ref 41), some (.int x1), some (.int x2), some (.int x3), some (.int x4)] [] S) {x1 : Int32} {x2 : Int32} {x4 : Int32} {y0 : Int32} {S : St} (h : fX5_growsFor_L84 k42 x1 x2 x4 y0 S = some (r, S9)) : PW mX5_growsFor (some (.int r), S9) 84 [some (.ref 41), some (.int x1), some (.int x2), none, some (.int x4)] [.int y0] S := by
  unfold fX5_growsFor_L84 at h
  refine p_istore_n (k := 46) 3 [some (.ref 41), some (.int x1), some (.int x2), some (.int y0), some (.int x4)] rfl rfl rfl (by decide) rfl ?_
  refine p_aload_n (k := 47) (i := 0) rfl rfl rfl ?_
  refine p_getr (k := 48) rfl lay_X5 rfl fl_RX5_19 ?_
  refine p_aload_n (k := 49) (i := 0) rfl rfl rfl ?_
  refine p_getr (k := 50) rfl lay_X5 rfl fl_RX5_7 ?_
  obtain ⟨_, S1, hcS1, h⟩ := cl_some h
  refine p_callS (k := 51) [.ref 45, .ref 42] [] rfl (tX5_copyRow lay_45 lay_42 hcS1) lc_X5_copyRow ml_RX5_164 ms_X5_copyRow (by decide) (by decide) (Nat.le_of_ble_eq_true rfl) rfl ?_
  obtain ⟨v1, ev1, h⟩ := bnd_ex h
  refine p_iinc (k := 52) v1 [some (.ref 41), some (.int x1), some (.int x2), some (.int y0), some (.int v1)] rfl rfl (by rw [← ev1]; rfl) rfl (by decide) rfl ?_
  refine p_goto (k := 53) 42 rfl (by decide) ?_
  refine p_msk [true, true, true, true, true] (L2 := [some (.ref 41), some (.int x1), some (.int x2), some (.int y0), some (.int v1)]) rfl ?_
  exact hk42 _ _ _ _ _ h
def fX5_growsFor_L102 (x3 : Int32) (S : St) : Option (Int32 × St) :=
  cl (fX5_orNone x3 S) fun v1 S1 =>
  some (v1, S1)
theorem sX5_growsFor_L102 {r : Int32} {S9 : St} {x3 : Int32} {S : St} (h : fX5_growsFor_L102 x3 S = some (r, S9)) : PW mX5_growsFor (some (.int r), S9) 102 [some (.ref 41), none, none, some (.int x3), none] [] S := by
  unfold fX5_growsFor_L102 at h
  refine p_aload_n (k := 54) (i := 0) rfl rfl rfl ?_
  refine p_iload_n (k := 55) (i := 3) rfl rfl rfl ?_
  obtain ⟨v1, S1, hcS1, h⟩ := cl_some h
  refine p_callV (k := 56) [.int x3] [] rfl (tX5_orNone hcS1) lay_X5 rfl lc_X5_orNone ml_RX5_184 mi_X5_orNone mv_X5_orNone (by decide) (by decide) (Nat.le_of_ble_eq_true rfl) rfl ?_
  exact s_iret h (k := 57) rfl rfl
def fX5_growsFor_L42 : Nat → Int32 → Int32 → Int32 → Int32 → St → Option (Int32 × St)
  | 0 => fun _ _ _ _ _ => none
  | n + 1 => fun x1 x2 x3 x4 S =>
    if 20 < x4 then
      fX5_growsFor_L102 x3 S
    else
      if 0 ≤ x3 then
        fX5_growsFor_L102 x3 S
      else
        wr S 42 75 3 x4 fun S1 =>
        cl (fX5_goes x2 S1) fun _ S2 =>
        cl (fX5_knownAll S2) fun v1 S3 =>
        if ((v1 >>> (x1 &&& 31)) &&& 1) = 1 then
          fX5_growsFor_L84 (fun x1 x2 x3 x4 S => fX5_growsFor_L42 n x1 x2 x3 x4 S) x1 x2 x4 x4 S3
        else
          fX5_growsFor_L84 (fun x1 x2 x3 x4 S => fX5_growsFor_L42 n x1 x2 x3 x4 S) x1 x2 x4 (-1) S3
theorem sX5_growsFor_L42 {r : Int32} {S9 : St} : ∀ (n : Nat) (x1 : Int32) (x2 : Int32) (x3 : Int32) (x4 : Int32) (S : St), fX5_growsFor_L42 n x1 x2 x3 x4 S = some (r, S9) → PW mX5_growsFor (some (.int r), S9) 42 [some (.ref 41), some (.int x1), some (.int x2), some (.int x3), some (.int x4)] [] S := by
  intro n
  induction n with
  | zero => intro x1 x2 x3 x4 S h; cases h
  | succ n ih =>
    intro x1 x2 x3 x4 S h
    unfold fX5_growsFor_L42 at h
    refine p_iload (k := 22) rfl rfl ?_
    refine p_bipush (k := 23) 20 rfl (by decide) ?_
    refine p_icmp_gt (k := 24) 102 rfl (by decide) (fun hc => ?_) (fun hc => ?_)
    · rw [if_pos hc] at h
      refine p_msk [true, false, false, true, false] (L2 := [some (.ref 41), none, none, some (.int x3), none]) rfl ?_
      exact sX5_growsFor_L102 h
    · rw [if_neg hc] at h
      refine p_iload_n (k := 25) (i := 3) rfl rfl rfl ?_
      refine p_if_ge (k := 26) 102 rfl (by decide) (fun hc => ?_) (fun hc => ?_)
      · rw [if_pos hc] at h
        refine p_msk [true, false, false, true, false] (L2 := [some (.ref 41), none, none, some (.int x3), none]) rfl ?_
        exact sX5_growsFor_L102 h
      · rw [if_neg hc] at h
        refine p_aload_n (k := 27) (i := 0) rfl rfl rfl ?_
        refine p_getr (k := 28) rfl lay_X5 rfl fl_RX5_7 ?_
        refine p_iconst (k := 29) 3 rfl (by decide) ?_
        refine p_iload (k := 30) rfl rfl ?_
        refine s_wr h (k := 31) rfl lay_42 (fun S1 h => ?_)
        refine p_aload_n (k := 32) (i := 0) rfl rfl rfl ?_
        refine p_iload_n (k := 33) (i := 2) rfl rfl rfl ?_
        obtain ⟨_, S2, hcS2, h⟩ := cl_some h
        refine p_callV (k := 34) [.int x2] [] rfl (tX5_goes hcS2) lay_X5 rfl lc_X5_goes ml_RX5_148 mi_X5_goes mv_X5_goes (by decide) (by decide) (Nat.le_of_ble_eq_true rfl) rfl ?_
        refine p_aload_n (k := 35) (i := 0) rfl rfl rfl ?_
        obtain ⟨v1, S3, hcS3, h⟩ := cl_some h
        refine p_callV (k := 36) [] [] rfl (tX5_knownAll hcS3) lay_X5 rfl lc_X5_knownAll ml_RX5_151 mi_X5_knownAll mv_X5_knownAll (by decide) (by decide) (Nat.le_of_ble_eq_true rfl) rfl ?_
        refine p_iload_n (k := 37) (i := 1) rfl rfl rfl ?_
        refine p_ishr (k := 38) rfl ?_
        refine p_iconst (k := 39) 1 rfl (by decide) ?_
        refine p_iand (k := 40) rfl ?_
        refine p_iconst (k := 41) 1 rfl (by decide) ?_
        refine p_icmp_ne (k := 42) 83 rfl (by decide) (fun hc => ?_) (fun hc => ?_)
        · rw [if_neg hc] at h
          refine p_iconst (k := 45) (-1) rfl (by decide) ?_
          refine p_msk [true, true, true, false, true] (L2 := [some (.ref 41), some (.int x1), some (.int x2), none, some (.int x4)]) rfl ?_
          exact sX5_growsFor_L84 ih h
        · rw [if_pos hc] at h
          refine p_iload (k := 43) rfl rfl ?_
          refine p_goto (k := 44) 84 rfl (by decide) ?_
          refine p_msk [true, true, true, false, true] (L2 := [some (.ref 41), some (.int x1), some (.int x2), none, some (.int x4)]) rfl ?_
          exact sX5_growsFor_L84 ih h
def fX5_growsFor (a1 : Int32) (a2 : Int32) (S : St) : Option (Int32 × St) :=
  cl (fX5_isPage a1 S) fun v1 S1 =>
  if v1 = 0 then
    fX5_growsFor_L19 S1
  else
    cl (fX5_isIn (Int32.toInt64 a2) 0 40 S1) fun v2 S2 =>
    if v2 = 0 then
      fX5_growsFor_L19 S2
    else
      cl (fX5_copyRow 42 45 S2) fun _ S3 =>
      fX5_growsFor_L42 FU a1 a2 (-1) 0 S3
theorem sX5_growsFor {a1 : Int32} {a2 : Int32} {S : St} {r : Int32} {S9 : St} (h : fX5_growsFor a1 a2 S = some (r, S9)) : PW mX5_growsFor (some (.int r), S9) 0 [some (.ref 41), some (.int a1), some (.int a2), none, none] [] S := by
  unfold fX5_growsFor at h
  refine p_iload_n (k := 0) (i := 1) rfl rfl rfl ?_
  obtain ⟨v1, S1, hcS1, h⟩ := cl_some h
  refine p_callS (k := 1) [.int a1] [] rfl (tX5_isPage hcS1) lc_X5_isPage ml_RX5_118 ms_X5_isPage (by decide) (by decide) (Nat.le_of_ble_eq_true rfl) rfl ?_
  refine p_if_eq (k := 2) 19 rfl (by decide) (fun hc => ?_) (fun hc => ?_)
  · rw [if_pos hc] at h
    refine p_msk [true, false, false, false, false] (L2 := [some (.ref 41), none, none, none, none]) rfl ?_
    exact sX5_growsFor_L19 h
  · rw [if_neg hc] at h
    refine p_iload_n (k := 3) (i := 2) rfl rfl rfl ?_
    refine p_i2l (k := 4) rfl ?_
    refine p_lconst (k := 5) 0 rfl (by decide) ?_
    refine p_ldc2 (k := 6) rfl k_RX5_176 ?_
    obtain ⟨v2, S2, hcS2, h⟩ := cl_some h
    refine p_callS (k := 7) [.long (Int32.toInt64 a2), .long 0, .long 40] [] rfl (tX5_isIn hcS2) lc_X5_isIn ml_RX5_49 ms_X5_isIn (by decide) (by decide) (Nat.le_of_ble_eq_true rfl) rfl ?_
    refine p_if_ne (k := 8) 26 rfl (by decide) (fun hc => ?_) (fun hc => ?_)
    · rw [if_neg hc] at h
      refine p_iconst (k := 13) (-1) rfl (by decide) ?_
      refine p_istore_n (k := 14) 3 [some (.ref 41), some (.int a1), some (.int a2), some (.int (-1)), none] rfl rfl rfl (by decide) rfl ?_
      refine p_aload_n (k := 15) (i := 0) rfl rfl rfl ?_
      refine p_getr (k := 16) rfl lay_X5 rfl fl_RX5_7 ?_
      refine p_aload_n (k := 17) (i := 0) rfl rfl rfl ?_
      refine p_getr (k := 18) rfl lay_X5 rfl fl_RX5_19 ?_
      obtain ⟨_, S3, hcS3, h⟩ := cl_some h
      refine p_callS (k := 19) [.ref 42, .ref 45] [] rfl (tX5_copyRow lay_42 lay_45 hcS3) lc_X5_copyRow ml_RX5_164 ms_X5_copyRow (by decide) (by decide) (Nat.le_of_ble_eq_true rfl) rfl ?_
      refine p_iconst (k := 20) 0 rfl (by decide) ?_
      refine p_istore (k := 21) [some (.ref 41), some (.int a1), some (.int a2), some (.int (-1)), some (.int 0)] rfl rfl (by decide) rfl ?_
      refine p_msk [true, true, true, true, true] (L2 := [some (.ref 41), some (.int a1), some (.int a2), some (.int (-1)), some (.int 0)]) rfl ?_
      exact sX5_growsFor_L42 _ _ _ _ _ _ h
    · rw [if_pos hc] at h
      refine p_msk [true, false, false, false, false] (L2 := [some (.ref 41), none, none, none, none]) rfl ?_
      exact sX5_growsFor_L19 h
theorem tX5_growsFor {a1 : Int32} {a2 : Int32} {S : St} {r : Int32} {S9 : St} (h : fX5_growsFor a1 a2 S = some (r, S9)) : MR yX5_growsFor cX5_growsFor mX5_growsFor [.ref 41, .int a1, .int a2] S (some (.int r), S9) := MR.of (n := 2) okX5_growsFor rfl rfl (sX5_growsFor h)
-- cover(I)I
def fX5_cover_L67 (k23 : Int32 → Int32 → Int32 → St → Option (Int32 × St)) (x1 : Int32) (x3 : Int32) (y0 : Int32) (S : St) : Option (Int32 × St) :=
  bnd (x3 + 1) fun v1 =>
  k23 x1 y0 v1 S
theorem sX5_cover_L67 {r : Int32} {S9 : St} {k23 : Int32 → Int32 → Int32 → St → Option (Int32 × St)} (hk23 : ∀ x1 x2 x3 S, k23 x1 x2 x3 S = some (r, S9) → PW mX5_cover (some (.int r), S9) 23 [some (.ref 41), some (.int x1), some (.int x2), some (.int x3)] [] S) {x1 : Int32} {x3 : Int32} {y0 : Int32} {S : St} (h : fX5_cover_L67 k23 x1 x3 y0 S = some (r, S9)) : PW mX5_cover (some (.int r), S9) 67 [some (.ref 41), some (.int x1), none, some (.int x3)] [.int y0] S := by
  unfold fX5_cover_L67 at h
  refine p_istore_n (k := 40) 2 [some (.ref 41), some (.int x1), some (.int y0), some (.int x3)] rfl rfl rfl (by decide) rfl ?_
  obtain ⟨v1, ev1, h⟩ := bnd_ex h
  refine p_iinc (k := 41) v1 [some (.ref 41), some (.int x1), some (.int y0), some (.int v1)] rfl rfl (by rw [← ev1]; rfl) rfl (by decide) rfl ?_
  refine p_goto (k := 42) 23 rfl (by decide) ?_
  refine p_msk [true, true, true, true] (L2 := [some (.ref 41), some (.int x1), some (.int y0), some (.int v1)]) rfl ?_
  exact hk23 _ _ _ _ h
def fX5_cover_L66 (k23 : Int32 → Int32 → Int32 → St → Option (Int32 × St)) (x1 : Int32) (x2 : Int32) (x3 : Int32) (S : St) : Option (Int32 × St) :=
  fX5_cover_L67 k23 x1 x3 x2 S
theorem sX5_cover_L66 {r : Int32} {S9 : St} {k23 : Int32 → Int32 → Int32 → St → Option (Int32 × St)} (hk23 : ∀ x1 x2 x3 S, k23 x1 x2 x3 S = some (r, S9) → PW mX5_cover (some (.int r), S9) 23 [some (.ref 41), some (.int x1), some (.int x2), some (.int x3)] [] S) {x1 : Int32} {x2 : Int32} {x3 : Int32} {S : St} (h : fX5_cover_L66 k23 x1 x2 x3 S = some (r, S9)) : PW mX5_cover (some (.int r), S9) 66 [some (.ref 41), some (.int x1), some (.int x2), some (.int x3)] [] S := by
  unfold fX5_cover_L66 at h
  refine p_iload_n (k := 39) (i := 2) rfl rfl rfl ?_
  refine p_msk [true, true, false, true] (L2 := [some (.ref 41), some (.int x1), none, some (.int x3)]) rfl ?_
  exact sX5_cover_L67 hk23 h
def fX5_cover_L50 (k23 : Int32 → Int32 → Int32 → St → Option (Int32 × St)) (x1 : Int32) (x2 : Int32) (x3 : Int32) (S : St) : Option (Int32 × St) :=
  cl (fX5_known x3 S) fun v1 S1 =>
  if (x1 &&& (v1 ^^^ (-1))) = 0 then
    fX5_cover_L67 k23 x1 x3 x3 S1
  else
    fX5_cover_L66 k23 x1 x2 x3 S1
theorem sX5_cover_L50 {r : Int32} {S9 : St} {k23 : Int32 → Int32 → Int32 → St → Option (Int32 × St)} (hk23 : ∀ x1 x2 x3 S, k23 x1 x2 x3 S = some (r, S9) → PW mX5_cover (some (.int r), S9) 23 [some (.ref 41), some (.int x1), some (.int x2), some (.int x3)] [] S) {x1 : Int32} {x2 : Int32} {x3 : Int32} {S : St} (h : fX5_cover_L50 k23 x1 x2 x3 S = some (r, S9)) : PW mX5_cover (some (.int r), S9) 50 [some (.ref 41), some (.int x1), some (.int x2), some (.int x3)] [] S := by
  unfold fX5_cover_L50 at h
  refine p_iload_n (k := 29) (i := 1) rfl rfl rfl ?_
  refine p_aload_n (k := 30) (i := 0) rfl rfl rfl ?_
  refine p_iload_n (k := 31) (i := 3) rfl rfl rfl ?_
  obtain ⟨v1, S1, hcS1, h⟩ := cl_some h
  refine p_callV (k := 32) [.int x3] [.int x1] rfl (tX5_known hcS1) lay_X5 rfl lc_X5_known ml_RX5_60 mi_X5_known mv_X5_known (by decide) (by decide) (Nat.le_of_ble_eq_true rfl) rfl ?_
  refine p_iconst (k := 33) (-1) rfl (by decide) ?_
  refine p_ixor (k := 34) rfl ?_
  refine p_iand (k := 35) rfl ?_
  refine p_if_ne (k := 36) 66 rfl (by decide) (fun hc => ?_) (fun hc => ?_)
  · rw [if_neg hc] at h
    refine p_msk [true, true, true, true] (L2 := [some (.ref 41), some (.int x1), some (.int x2), some (.int x3)]) rfl ?_
    exact sX5_cover_L66 hk23 h
  · rw [if_pos hc] at h
    refine p_iload_n (k := 37) (i := 3) rfl rfl rfl ?_
    refine p_goto (k := 38) 67 rfl (by decide) ?_
    refine p_msk [true, true, false, true] (L2 := [some (.ref 41), some (.int x1), none, some (.int x3)]) rfl ?_
    exact sX5_cover_L67 hk23 h
def fX5_cover_L23 : Nat → Int32 → Int32 → Int32 → St → Option (Int32 × St)
  | 0 => fun _ _ _ _ => none
  | n + 1 => fun x1 x2 x3 S =>
    rd S 42 75 0 fun v1 =>
    if (1 <<< (v1 &&& 31)) ≤ x3 then
      cl (fX5_orNone x2 S) fun v2 S1 =>
      some (v2, S1)
    else
      if x2 < 0 then
        fX5_cover_L50 (fun x1 x2 x3 S => fX5_cover_L23 n x1 x2 x3 S) x1 x2 x3 S
      else
        cl (fX5_many x3 S) fun v3 S2 =>
        cl (fX5_many x2 S2) fun v4 S3 =>
        if v4 ≤ v3 then
          fX5_cover_L66 (fun x1 x2 x3 S => fX5_cover_L23 n x1 x2 x3 S) x1 x2 x3 S3
        else
          fX5_cover_L50 (fun x1 x2 x3 S => fX5_cover_L23 n x1 x2 x3 S) x1 x2 x3 S3
theorem sX5_cover_L23 {r : Int32} {S9 : St} : ∀ (n : Nat) (x1 : Int32) (x2 : Int32) (x3 : Int32) (S : St), fX5_cover_L23 n x1 x2 x3 S = some (r, S9) → PW mX5_cover (some (.int r), S9) 23 [some (.ref 41), some (.int x1), some (.int x2), some (.int x3)] [] S := by
  intro n
  induction n with
  | zero => intro x1 x2 x3 S h; cases h
  | succ n ih =>
    intro x1 x2 x3 S h
    unfold fX5_cover_L23 at h
    refine p_iload_n (k := 14) (i := 3) rfl rfl rfl ?_
    refine p_iconst (k := 15) 1 rfl (by decide) ?_
    refine p_aload_n (k := 16) (i := 0) rfl rfl rfl ?_
    refine p_getr (k := 17) rfl lay_X5 rfl fl_RX5_7 ?_
    refine p_iconst (k := 18) 0 rfl (by decide) ?_
    refine s_rd h (k := 19) rfl lay_42 (fun v1 h => ?_)
    refine p_ishl (k := 20) rfl ?_
    refine p_icmp_ge (k := 21) 74 rfl (by decide) (fun hc => ?_) (fun hc => ?_)
    · rw [if_pos hc] at h
      refine p_aload_n (k := 43) (i := 0) rfl rfl rfl ?_
      refine p_iload_n (k := 44) (i := 2) rfl rfl rfl ?_
      obtain ⟨v2, S1, hcS1, h⟩ := cl_some h
      refine p_callV (k := 45) [.int x2] [] rfl (tX5_orNone hcS1) lay_X5 rfl lc_X5_orNone ml_RX5_184 mi_X5_orNone mv_X5_orNone (by decide) (by decide) (Nat.le_of_ble_eq_true rfl) rfl ?_
      exact s_iret h (k := 46) rfl rfl
    · rw [if_neg hc] at h
      refine p_iload_n (k := 22) (i := 2) rfl rfl rfl ?_
      refine p_if_lt (k := 23) 50 rfl (by decide) (fun hc => ?_) (fun hc => ?_)
      · rw [if_pos hc] at h
        refine p_msk [true, true, true, true] (L2 := [some (.ref 41), some (.int x1), some (.int x2), some (.int x3)]) rfl ?_
        exact sX5_cover_L50 ih h
      · rw [if_neg hc] at h
        refine p_iload_n (k := 24) (i := 3) rfl rfl rfl ?_
        obtain ⟨v3, S2, hcS2, h⟩ := cl_some h
        refine p_callS (k := 25) [.int x3] [] rfl (tX5_many hcS2) lc_X5_many ml_RX5_86 ms_X5_many (by decide) (by decide) (Nat.le_of_ble_eq_true rfl) rfl ?_
        refine p_iload_n (k := 26) (i := 2) rfl rfl rfl ?_
        obtain ⟨v4, S3, hcS3, h⟩ := cl_some h
        refine p_callS (k := 27) [.int x2] [.int v3] rfl (tX5_many hcS3) lc_X5_many ml_RX5_86 ms_X5_many (by decide) (by decide) (Nat.le_of_ble_eq_true rfl) rfl ?_
        refine p_icmp_ge (k := 28) 66 rfl (by decide) (fun hc => ?_) (fun hc => ?_)
        · rw [if_pos hc] at h
          refine p_msk [true, true, true, true] (L2 := [some (.ref 41), some (.int x1), some (.int x2), some (.int x3)]) rfl ?_
          exact sX5_cover_L66 ih h
        · rw [if_neg hc] at h
          refine p_msk [true, true, true, true] (L2 := [some (.ref 41), some (.int x1), some (.int x2), some (.int x3)]) rfl ?_
          exact sX5_cover_L50 ih h
def fX5_cover (a1 : Int32) (S : St) : Option (Int32 × St) :=
  cl (fX5_isIn (Int32.toInt64 a1) 0 65535 S) fun v1 S1 =>
  if v1 = 0 then
    cl (fX5_finds (-1000001) S1) fun v2 S2 =>
    some (v2, S2)
  else
    fX5_cover_L23 FU a1 (-1) 0 S1
theorem sX5_cover {a1 : Int32} {S : St} {r : Int32} {S9 : St} (h : fX5_cover a1 S = some (r, S9)) : PW mX5_cover (some (.int r), S9) 0 [some (.ref 41), some (.int a1), none, none] [] S := by
  unfold fX5_cover at h
  refine p_iload_n (k := 0) (i := 1) rfl rfl rfl ?_
  refine p_i2l (k := 1) rfl ?_
  refine p_lconst (k := 2) 0 rfl (by decide) ?_
  refine p_ldc2 (k := 3) rfl k_RX5_187 ?_
  obtain ⟨v1, S1, hcS1, h⟩ := cl_some h
  refine p_callS (k := 4) [.long (Int32.toInt64 a1), .long 0, .long 65535] [] rfl (tX5_isIn hcS1) lc_X5_isIn ml_RX5_49 ms_X5_isIn (by decide) (by decide) (Nat.le_of_ble_eq_true rfl) rfl ?_
  refine p_if_ne (k := 5) 19 rfl (by decide) (fun hc => ?_) (fun hc => ?_)
  · rw [if_neg hc] at h
    refine p_iconst (k := 10) (-1) rfl (by decide) ?_
    refine p_istore_n (k := 11) 2 [some (.ref 41), some (.int a1), some (.int (-1)), none] rfl rfl rfl (by decide) rfl ?_
    refine p_iconst (k := 12) 0 rfl (by decide) ?_
    refine p_istore_n (k := 13) 3 [some (.ref 41), some (.int a1), some (.int (-1)), some (.int 0)] rfl rfl rfl (by decide) rfl ?_
    refine p_msk [true, true, true, true] (L2 := [some (.ref 41), some (.int a1), some (.int (-1)), some (.int 0)]) rfl ?_
    exact sX5_cover_L23 _ _ _ _ _ h
  · rw [if_pos hc] at h
    refine p_aload_n (k := 6) (i := 0) rfl rfl rfl ?_
    refine p_ldc (k := 7) rfl k_RX5_37 ?_
    obtain ⟨v2, S2, hcS2, h⟩ := cl_some h
    refine p_callV (k := 8) [.int (-1000001)] [] rfl (tX5_finds hcS2) lay_X5 rfl lc_X5_finds ml_RX5_39 mi_X5_finds mv_X5_finds (by decide) (by decide) (Nat.le_of_ble_eq_true rfl) rfl ?_
    exact s_iret h (k := 9) rfl rfl
theorem tX5_cover {a1 : Int32} {S : St} {r : Int32} {S9 : St} (h : fX5_cover a1 S = some (r, S9)) : MR yX5_cover cX5_cover mX5_cover [.ref 41, .int a1] S (some (.int r), S9) := MR.of (n := 2) okX5_cover rfl rfl (sX5_cover h)
-- price(I)I
def fX5_price_L66 (k23 : Int32 → Int32 → Int32 → St → Option (Int32 × St)) (x1 : Int32) (x2 : Int32) (x3 : Int32) (S : St) : Option (Int32 × St) :=
  bnd (x3 + 1) fun v1 =>
  k23 x1 x2 v1 S
theorem sX5_price_L66 {r : Int32} {S9 : St} {k23 : Int32 → Int32 → Int32 → St → Option (Int32 × St)} (hk23 : ∀ x1 x2 x3 S, k23 x1 x2 x3 S = some (r, S9) → PW mX5_price (some (.int r), S9) 23 [some (.ref 41), some (.int x1), some (.int x2), some (.int x3), none] [] S) {x1 : Int32} {x2 : Int32} {x3 : Int32} {S : St} (h : fX5_price_L66 k23 x1 x2 x3 S = some (r, S9)) : PW mX5_price (some (.int r), S9) 66 [some (.ref 41), some (.int x1), some (.int x2), some (.int x3), none] [] S := by
  unfold fX5_price_L66 at h
  obtain ⟨v1, ev1, h⟩ := bnd_ex h
  refine p_iinc (k := 40) v1 [some (.ref 41), some (.int x1), some (.int x2), some (.int v1), none] rfl rfl (by rw [← ev1]; rfl) rfl (by decide) rfl ?_
  refine p_goto (k := 41) 23 rfl (by decide) ?_
  refine p_msk [true, true, true, true, false] (L2 := [some (.ref 41), some (.int x1), some (.int x2), some (.int v1), none]) rfl ?_
  exact hk23 _ _ _ _ h
def fX5_price_L23 : Nat → Int32 → Int32 → Int32 → St → Option (Int32 × St)
  | 0 => fun _ _ _ _ => none
  | n + 1 => fun x1 x2 x3 S =>
    if 16 ≤ x3 then
      some (x2, S)
    else
      if ((x1 >>> (x3 &&& 31)) &&& 1) = 1 then
        cl (fX5_cheapest x3 S) fun v1 S1 =>
        if 0 ≤ v1 then
          cl (fX5_costs v1 S1) fun v2 S2 =>
          bnd (x2 + v2) fun v3 =>
          fX5_price_L66 (fun x1 x2 x3 S => fX5_price_L23 n x1 x2 x3 S) x1 v3 x3 S2
        else
          cl (fX5_finds (-1000004) S1) fun v4 S3 =>
          some (v4, S3)
      else
        fX5_price_L66 (fun x1 x2 x3 S => fX5_price_L23 n x1 x2 x3 S) x1 x2 x3 S
theorem sX5_price_L23 {r : Int32} {S9 : St} : ∀ (n : Nat) (x1 : Int32) (x2 : Int32) (x3 : Int32) (S : St), fX5_price_L23 n x1 x2 x3 S = some (r, S9) → PW mX5_price (some (.int r), S9) 23 [some (.ref 41), some (.int x1), some (.int x2), some (.int x3), none] [] S := by
  intro n
  induction n with
  | zero => intro x1 x2 x3 S h; cases h
  | succ n ih =>
    intro x1 x2 x3 S h
    unfold fX5_price_L23 at h
    refine p_iload_n (k := 14) (i := 3) rfl rfl rfl ?_
    refine p_bipush (k := 15) 16 rfl (by decide) ?_
    refine p_icmp_ge (k := 16) 72 rfl (by decide) (fun hc => ?_) (fun hc => ?_)
    · rw [if_pos hc] at h
      refine p_iload_n (k := 42) (i := 2) rfl rfl rfl ?_
      exact s_iret h (k := 43) rfl rfl
    · rw [if_neg hc] at h
      refine p_iload_n (k := 17) (i := 1) rfl rfl rfl ?_
      refine p_iload_n (k := 18) (i := 3) rfl rfl rfl ?_
      refine p_ishr (k := 19) rfl ?_
      refine p_iconst (k := 20) 1 rfl (by decide) ?_
      refine p_iand (k := 21) rfl ?_
      refine p_iconst (k := 22) 1 rfl (by decide) ?_
      refine p_icmp_ne (k := 23) 66 rfl (by decide) (fun hc => ?_) (fun hc => ?_)
      · rw [if_neg hc] at h
        refine p_msk [true, true, true, true, false] (L2 := [some (.ref 41), some (.int x1), some (.int x2), some (.int x3), none]) rfl ?_
        exact sX5_price_L66 ih h
      · rw [if_pos hc] at h
        refine p_aload_n (k := 24) (i := 0) rfl rfl rfl ?_
        refine p_iload_n (k := 25) (i := 3) rfl rfl rfl ?_
        obtain ⟨v1, S1, hcS1, h⟩ := cl_some h
        refine p_callV (k := 26) [.int x3] [] rfl (tX5_cheapest hcS1) lay_X5 rfl lc_X5_cheapest ml_RX5_121 mi_X5_cheapest mv_X5_cheapest (by decide) (by decide) (Nat.le_of_ble_eq_true rfl) rfl ?_
        refine p_istore (k := 27) [some (.ref 41), some (.int x1), some (.int x2), some (.int x3), some (.int v1)] rfl rfl (by decide) rfl ?_
        refine p_iload (k := 28) rfl rfl ?_
        refine p_if_ge (k := 29) 57 rfl (by decide) (fun hc => ?_) (fun hc => ?_)
        · rw [if_pos hc] at h
          refine p_iload_n (k := 34) (i := 2) rfl rfl rfl ?_
          refine p_aload_n (k := 35) (i := 0) rfl rfl rfl ?_
          refine p_iload (k := 36) rfl rfl ?_
          obtain ⟨v2, S2, hcS2, h⟩ := cl_some h
          refine p_callV (k := 37) [.int v1] [.int x2] rfl (tX5_costs hcS2) lay_X5 rfl lc_X5_costs ml_RX5_100 mi_X5_costs mv_X5_costs (by decide) (by decide) (Nat.le_of_ble_eq_true rfl) rfl ?_
          refine p_iadd (k := 38) rfl ?_
          refine s_bnd h (fun v3 h => ?_)
          refine p_istore_n (k := 39) 2 [some (.ref 41), some (.int x1), some (.int v3), some (.int x3), some (.int v1)] rfl rfl rfl (by decide) rfl ?_
          refine p_msk [true, true, true, true, false] (L2 := [some (.ref 41), some (.int x1), some (.int v3), some (.int x3), none]) rfl ?_
          exact sX5_price_L66 ih h
        · rw [if_neg hc] at h
          refine p_aload_n (k := 30) (i := 0) rfl rfl rfl ?_
          refine p_ldc (k := 31) rfl k_RX5_38 ?_
          obtain ⟨v4, S3, hcS3, h⟩ := cl_some h
          refine p_callV (k := 32) [.int (-1000004)] [] rfl (tX5_finds hcS3) lay_X5 rfl lc_X5_finds ml_RX5_39 mi_X5_finds mv_X5_finds (by decide) (by decide) (Nat.le_of_ble_eq_true rfl) rfl ?_
          exact s_iret h (k := 33) rfl rfl
def fX5_price (a1 : Int32) (S : St) : Option (Int32 × St) :=
  cl (fX5_isIn (Int32.toInt64 a1) 0 65535 S) fun v1 S1 =>
  if v1 = 0 then
    cl (fX5_finds (-1000001) S1) fun v2 S2 =>
    some (v2, S2)
  else
    fX5_price_L23 FU a1 0 0 S1
theorem sX5_price {a1 : Int32} {S : St} {r : Int32} {S9 : St} (h : fX5_price a1 S = some (r, S9)) : PW mX5_price (some (.int r), S9) 0 [some (.ref 41), some (.int a1), none, none, none] [] S := by
  unfold fX5_price at h
  refine p_iload_n (k := 0) (i := 1) rfl rfl rfl ?_
  refine p_i2l (k := 1) rfl ?_
  refine p_lconst (k := 2) 0 rfl (by decide) ?_
  refine p_ldc2 (k := 3) rfl k_RX5_187 ?_
  obtain ⟨v1, S1, hcS1, h⟩ := cl_some h
  refine p_callS (k := 4) [.long (Int32.toInt64 a1), .long 0, .long 65535] [] rfl (tX5_isIn hcS1) lc_X5_isIn ml_RX5_49 ms_X5_isIn (by decide) (by decide) (Nat.le_of_ble_eq_true rfl) rfl ?_
  refine p_if_ne (k := 5) 19 rfl (by decide) (fun hc => ?_) (fun hc => ?_)
  · rw [if_neg hc] at h
    refine p_iconst (k := 10) 0 rfl (by decide) ?_
    refine p_istore_n (k := 11) 2 [some (.ref 41), some (.int a1), some (.int 0), none, none] rfl rfl rfl (by decide) rfl ?_
    refine p_iconst (k := 12) 0 rfl (by decide) ?_
    refine p_istore_n (k := 13) 3 [some (.ref 41), some (.int a1), some (.int 0), some (.int 0), none] rfl rfl rfl (by decide) rfl ?_
    refine p_msk [true, true, true, true, false] (L2 := [some (.ref 41), some (.int a1), some (.int 0), some (.int 0), none]) rfl ?_
    exact sX5_price_L23 _ _ _ _ _ h
  · rw [if_pos hc] at h
    refine p_aload_n (k := 6) (i := 0) rfl rfl rfl ?_
    refine p_ldc (k := 7) rfl k_RX5_37 ?_
    obtain ⟨v2, S2, hcS2, h⟩ := cl_some h
    refine p_callV (k := 8) [.int (-1000001)] [] rfl (tX5_finds hcS2) lay_X5 rfl lc_X5_finds ml_RX5_39 mi_X5_finds mv_X5_finds (by decide) (by decide) (Nat.le_of_ble_eq_true rfl) rfl ?_
    exact s_iret h (k := 9) rfl rfl
theorem tX5_price {a1 : Int32} {S : St} {r : Int32} {S9 : St} (h : fX5_price a1 S = some (r, S9)) : MR yX5_price cX5_price mX5_price [.ref 41, .int a1] S (some (.int r), S9) := MR.of (n := 3) okX5_price rfl rfl (sX5_price h)
-- censor(II)I
def fX5_censor_L19 (S : St) : Option (Int32 × St) :=
  cl (fX5_finds (-1000001) S) fun v1 S1 =>
  some (v1, S1)
theorem sX5_censor_L19 {r : Int32} {S9 : St}  {S : St} (h : fX5_censor_L19 S = some (r, S9)) : PW mX5_censor (some (.int r), S9) 19 [some (.ref 41), none, none, none, none, none] [] S := by
  unfold fX5_censor_L19 at h
  refine p_aload_n (k := 9) (i := 0) rfl rfl rfl ?_
  refine p_ldc (k := 10) rfl k_RX5_37 ?_
  obtain ⟨v1, S1, hcS1, h⟩ := cl_some h
  refine p_callV (k := 11) [.int (-1000001)] [] rfl (tX5_finds hcS1) lay_X5 rfl lc_X5_finds ml_RX5_39 mi_X5_finds mv_X5_finds (by decide) (by decide) (Nat.le_of_ble_eq_true rfl) rfl ?_
  exact s_iret h (k := 12) rfl rfl
def fX5_censor_L129 (k42 : Int32 → Int32 → Int32 → Int32 → St → Option (Int32 × St)) (x1 : Int32) (x2 : Int32) (x3 : Int32) (x4 : Int32) (S : St) : Option (Int32 × St) :=
  bnd (x4 + 1) fun v1 =>
  k42 x1 x2 x3 v1 S
theorem sX5_censor_L129 {r : Int32} {S9 : St} {k42 : Int32 → Int32 → Int32 → Int32 → St → Option (Int32 × St)} (hk42 : ∀ x1 x2 x3 x4 S, k42 x1 x2 x3 x4 S = some (r, S9) → PW mX5_censor (some (.int r), S9) 42 [some (.ref 41), some (.int x1), some (.int x2), some (.int x3), some (.int x4), none] [] S) {x1 : Int32} {x2 : Int32} {x3 : Int32} {x4 : Int32} {S : St} (h : fX5_censor_L129 k42 x1 x2 x3 x4 S = some (r, S9)) : PW mX5_censor (some (.int r), S9) 129 [some (.ref 41), some (.int x1), some (.int x2), some (.int x3), some (.int x4), none] [] S := by
  unfold fX5_censor_L129 at h
  obtain ⟨v1, ev1, h⟩ := bnd_ex h
  refine p_iinc (k := 68) v1 [some (.ref 41), some (.int x1), some (.int x2), some (.int x3), some (.int v1), none] rfl rfl (by rw [← ev1]; rfl) rfl (by decide) rfl ?_
  refine p_goto (k := 69) 42 rfl (by decide) ?_
  refine p_msk [true, true, true, true, true, false] (L2 := [some (.ref 41), some (.int x1), some (.int x2), some (.int x3), some (.int v1), none]) rfl ?_
  exact hk42 _ _ _ _ _ h
def fX5_censor_L117 (k42 : Int32 → Int32 → Int32 → Int32 → St → Option (Int32 × St)) (x1 : Int32) (x2 : Int32) (x4 : Int32) (y0 : Int32) (S : St) : Option (Int32 × St) :=
  cl (fX5_copyRow 45 42 S) fun _ S1 =>
  fX5_censor_L129 k42 x1 x2 y0 x4 S1
theorem sX5_censor_L117 {r : Int32} {S9 : St} {k42 : Int32 → Int32 → Int32 → Int32 → St → Option (Int32 × St)} (hk42 : ∀ x1 x2 x3 x4 S, k42 x1 x2 x3 x4 S = some (r, S9) → PW mX5_censor (some (.int r), S9) 42 [some (.ref 41), some (.int x1), some (.int x2), some (.int x3), some (.int x4), none] [] S) {x1 : Int32} {x2 : Int32} {x4 : Int32} {y0 : Int32} {S : St} (h : fX5_censor_L117 k42 x1 x2 x4 y0 S = some (r, S9)) : PW mX5_censor (some (.int r), S9) 117 [some (.ref 41), some (.int x1), some (.int x2), none, some (.int x4), none] [.int y0] S := by
  unfold fX5_censor_L117 at h
  refine p_istore_n (k := 62) 3 [some (.ref 41), some (.int x1), some (.int x2), some (.int y0), some (.int x4), none] rfl rfl rfl (by decide) rfl ?_
  refine p_aload_n (k := 63) (i := 0) rfl rfl rfl ?_
  refine p_getr (k := 64) rfl lay_X5 rfl fl_RX5_19 ?_
  refine p_aload_n (k := 65) (i := 0) rfl rfl rfl ?_
  refine p_getr (k := 66) rfl lay_X5 rfl fl_RX5_7 ?_
  obtain ⟨_, S1, hcS1, h⟩ := cl_some h
  refine p_callS (k := 67) [.ref 45, .ref 42] [] rfl (tX5_copyRow lay_45 lay_42 hcS1) lc_X5_copyRow ml_RX5_164 ms_X5_copyRow (by decide) (by decide) (Nat.le_of_ble_eq_true rfl) rfl ?_
  refine p_msk [true, true, true, true, true, false] (L2 := [some (.ref 41), some (.int x1), some (.int x2), some (.int y0), some (.int x4), none]) rfl ?_
  exact sX5_censor_L129 hk42 h
def fX5_censor_L74 (k42 : Int32 → Int32 → Int32 → Int32 → St → Option (Int32 × St)) : Nat → Int32 → Int32 → Int32 → Int32 → Int32 → St → Option (Int32 × St)
  | 0 => fun _ _ _ _ _ _ => none
  | n + 1 => fun x1 x2 x3 x4 x5 S =>
    if x2 ≤ x5 then
      cl (fX5_known (255 &&& (x4 ^^^ (-1))) S) fun v1 S1 =>
      if ((v1 >>> (x1 &&& 31)) &&& 1) = 0 then
        fX5_censor_L117 k42 x1 x2 x4 x4 S1
      else
        fX5_censor_L117 k42 x1 x2 x4 x3 S1
    else
      cl (fX5_dayBut x4 S) fun _ S2 =>
      bnd (x5 + 1) fun v2 =>
      fX5_censor_L74 k42 n x1 x2 x3 x4 v2 S2
theorem sX5_censor_L74 {r : Int32} {S9 : St} {k42 : Int32 → Int32 → Int32 → Int32 → St → Option (Int32 × St)} (hk42 : ∀ x1 x2 x3 x4 S, k42 x1 x2 x3 x4 S = some (r, S9) → PW mX5_censor (some (.int r), S9) 42 [some (.ref 41), some (.int x1), some (.int x2), some (.int x3), some (.int x4), none] [] S) : ∀ (n : Nat) (x1 : Int32) (x2 : Int32) (x3 : Int32) (x4 : Int32) (x5 : Int32) (S : St), fX5_censor_L74 k42 n x1 x2 x3 x4 x5 S = some (r, S9) → PW mX5_censor (some (.int r), S9) 74 [some (.ref 41), some (.int x1), some (.int x2), some (.int x3), some (.int x4), some (.int x5)] [] S := by
  intro n
  induction n with
  | zero => intro x1 x2 x3 x4 x5 S h; cases h
  | succ n ih =>
    intro x1 x2 x3 x4 x5 S h
    unfold fX5_censor_L74 at h
    refine p_iload (k := 39) rfl rfl ?_
    refine p_iload_n (k := 40) (i := 2) rfl rfl rfl ?_
    refine p_icmp_ge (k := 41) 92 rfl (by decide) (fun hc => ?_) (fun hc => ?_)
    · rw [if_pos hc] at h
      refine p_aload_n (k := 47) (i := 0) rfl rfl rfl ?_
      refine p_sipush (k := 48) 255 rfl (by decide) ?_
      refine p_iload (k := 49) rfl rfl ?_
      refine p_iconst (k := 50) (-1) rfl (by decide) ?_
      refine p_ixor (k := 51) rfl ?_
      refine p_iand (k := 52) rfl ?_
      obtain ⟨v1, S1, hcS1, h⟩ := cl_some h
      refine p_callV (k := 53) [.int (255 &&& (x4 ^^^ (-1)))] [] rfl (tX5_known hcS1) lay_X5 rfl lc_X5_known ml_RX5_60 mi_X5_known mv_X5_known (by decide) (by decide) (Nat.le_of_ble_eq_true rfl) rfl ?_
      refine p_iload_n (k := 54) (i := 1) rfl rfl rfl ?_
      refine p_ishr (k := 55) rfl ?_
      refine p_iconst (k := 56) 1 rfl (by decide) ?_
      refine p_iand (k := 57) rfl ?_
      refine p_if_ne (k := 58) 116 rfl (by decide) (fun hc => ?_) (fun hc => ?_)
      · rw [if_neg hc] at h
        refine p_iload_n (k := 61) (i := 3) rfl rfl rfl ?_
        refine p_msk [true, true, true, false, true, false] (L2 := [some (.ref 41), some (.int x1), some (.int x2), none, some (.int x4), none]) rfl ?_
        exact sX5_censor_L117 hk42 h
      · rw [if_pos hc] at h
        refine p_iload (k := 59) rfl rfl ?_
        refine p_goto (k := 60) 117 rfl (by decide) ?_
        refine p_msk [true, true, true, false, true, false] (L2 := [some (.ref 41), some (.int x1), some (.int x2), none, some (.int x4), none]) rfl ?_
        exact sX5_censor_L117 hk42 h
    · rw [if_neg hc] at h
      refine p_aload_n (k := 42) (i := 0) rfl rfl rfl ?_
      refine p_iload (k := 43) rfl rfl ?_
      obtain ⟨_, S2, hcS2, h⟩ := cl_some h
      refine p_callV (k := 44) [.int x4] [] rfl (tX5_dayBut hcS2) lay_X5 rfl lc_X5_dayBut ml_RX5_142 mi_X5_dayBut mv_X5_dayBut (by decide) (by decide) (Nat.le_of_ble_eq_true rfl) rfl ?_
      obtain ⟨v2, ev2, h⟩ := bnd_ex h
      refine p_iinc (k := 45) v2 [some (.ref 41), some (.int x1), some (.int x2), some (.int x3), some (.int x4), some (.int v2)] rfl rfl (by rw [← ev2]; rfl) rfl (by decide) rfl ?_
      refine p_goto (k := 46) 74 rfl (by decide) ?_
      refine p_msk [true, true, true, true, true, true] (L2 := [some (.ref 41), some (.int x1), some (.int x2), some (.int x3), some (.int x4), some (.int v2)]) rfl ?_
      exact ih _ _ _ _ _ _ h
def fX5_censor_L71 (k42 : Int32 → Int32 → Int32 → Int32 → St → Option (Int32 × St)) (x1 : Int32) (x2 : Int32) (x3 : Int32) (x4 : Int32) (S : St) : Option (Int32 × St) :=
  fX5_censor_L74 k42 FU x1 x2 x3 x4 0 S
theorem sX5_censor_L71 {r : Int32} {S9 : St} {k42 : Int32 → Int32 → Int32 → Int32 → St → Option (Int32 × St)} (hk42 : ∀ x1 x2 x3 x4 S, k42 x1 x2 x3 x4 S = some (r, S9) → PW mX5_censor (some (.int r), S9) 42 [some (.ref 41), some (.int x1), some (.int x2), some (.int x3), some (.int x4), none] [] S) {x1 : Int32} {x2 : Int32} {x3 : Int32} {x4 : Int32} {S : St} (h : fX5_censor_L71 k42 x1 x2 x3 x4 S = some (r, S9)) : PW mX5_censor (some (.int r), S9) 71 [some (.ref 41), some (.int x1), some (.int x2), some (.int x3), some (.int x4), none] [] S := by
  unfold fX5_censor_L71 at h
  refine p_iconst (k := 37) 0 rfl (by decide) ?_
  refine p_istore (k := 38) [some (.ref 41), some (.int x1), some (.int x2), some (.int x3), some (.int x4), some (.int 0)] rfl rfl (by decide) rfl ?_
  refine p_msk [true, true, true, true, true, true] (L2 := [some (.ref 41), some (.int x1), some (.int x2), some (.int x3), some (.int x4), some (.int 0)]) rfl ?_
  exact sX5_censor_L74 hk42 _ _ _ _ _ _ _ h
def fX5_censor_L42 : Nat → Int32 → Int32 → Int32 → Int32 → St → Option (Int32 × St)
  | 0 => fun _ _ _ _ _ => none
  | n + 1 => fun x1 x2 x3 x4 S =>
    rd S 42 75 0 fun v1 =>
    if (1 <<< (v1 &&& 31)) ≤ x4 then
      some (x3, S)
    else
      if x3 < 0 then
        fX5_censor_L71 (fun x1 x2 x3 x4 S => fX5_censor_L42 n x1 x2 x3 x4 S) x1 x2 x3 x4 S
      else
        cl (fX5_many x4 S) fun v2 S1 =>
        cl (fX5_many x3 S1) fun v3 S2 =>
        if v3 ≤ v2 then
          fX5_censor_L129 (fun x1 x2 x3 x4 S => fX5_censor_L42 n x1 x2 x3 x4 S) x1 x2 x3 x4 S2
        else
          fX5_censor_L71 (fun x1 x2 x3 x4 S => fX5_censor_L42 n x1 x2 x3 x4 S) x1 x2 x3 x4 S2
theorem sX5_censor_L42 {r : Int32} {S9 : St} : ∀ (n : Nat) (x1 : Int32) (x2 : Int32) (x3 : Int32) (x4 : Int32) (S : St), fX5_censor_L42 n x1 x2 x3 x4 S = some (r, S9) → PW mX5_censor (some (.int r), S9) 42 [some (.ref 41), some (.int x1), some (.int x2), some (.int x3), some (.int x4), none] [] S := by
  intro n
  induction n with
  | zero => intro x1 x2 x3 x4 S h; cases h
  | succ n ih =>
    intro x1 x2 x3 x4 S h
    unfold fX5_censor_L42 at h
    refine p_iload (k := 22) rfl rfl ?_
    refine p_iconst (k := 23) 1 rfl (by decide) ?_
    refine p_aload_n (k := 24) (i := 0) rfl rfl rfl ?_
    refine p_getr (k := 25) rfl lay_X5 rfl fl_RX5_7 ?_
    refine p_iconst (k := 26) 0 rfl (by decide) ?_
    refine s_rd h (k := 27) rfl lay_42 (fun v1 h => ?_)
    refine p_ishl (k := 28) rfl ?_
    refine p_icmp_ge (k := 29) 135 rfl (by decide) (fun hc => ?_) (fun hc => ?_)
    · rw [if_pos hc] at h
      refine p_iload_n (k := 70) (i := 3) rfl rfl rfl ?_
      exact s_iret h (k := 71) rfl rfl
    · rw [if_neg hc] at h
      refine p_iload_n (k := 30) (i := 3) rfl rfl rfl ?_
      refine p_if_lt (k := 31) 71 rfl (by decide) (fun hc => ?_) (fun hc => ?_)
      · rw [if_pos hc] at h
        refine p_msk [true, true, true, true, true, false] (L2 := [some (.ref 41), some (.int x1), some (.int x2), some (.int x3), some (.int x4), none]) rfl ?_
        exact sX5_censor_L71 ih h
      · rw [if_neg hc] at h
        refine p_iload (k := 32) rfl rfl ?_
        obtain ⟨v2, S1, hcS1, h⟩ := cl_some h
        refine p_callS (k := 33) [.int x4] [] rfl (tX5_many hcS1) lc_X5_many ml_RX5_86 ms_X5_many (by decide) (by decide) (Nat.le_of_ble_eq_true rfl) rfl ?_
        refine p_iload_n (k := 34) (i := 3) rfl rfl rfl ?_
        obtain ⟨v3, S2, hcS2, h⟩ := cl_some h
        refine p_callS (k := 35) [.int x3] [.int v2] rfl (tX5_many hcS2) lc_X5_many ml_RX5_86 ms_X5_many (by decide) (by decide) (Nat.le_of_ble_eq_true rfl) rfl ?_
        refine p_icmp_ge (k := 36) 129 rfl (by decide) (fun hc => ?_) (fun hc => ?_)
        · rw [if_pos hc] at h
          refine p_msk [true, true, true, true, true, false] (L2 := [some (.ref 41), some (.int x1), some (.int x2), some (.int x3), some (.int x4), none]) rfl ?_
          exact sX5_censor_L129 ih h
        · rw [if_neg hc] at h
          refine p_msk [true, true, true, true, true, false] (L2 := [some (.ref 41), some (.int x1), some (.int x2), some (.int x3), some (.int x4), none]) rfl ?_
          exact sX5_censor_L71 ih h
def fX5_censor (a1 : Int32) (a2 : Int32) (S : St) : Option (Int32 × St) :=
  cl (fX5_isPage a1 S) fun v1 S1 =>
  if v1 = 0 then
    fX5_censor_L19 S1
  else
    cl (fX5_isIn (Int32.toInt64 a2) 0 12 S1) fun v2 S2 =>
    if v2 = 0 then
      fX5_censor_L19 S2
    else
      cl (fX5_copyRow 42 45 S2) fun _ S3 =>
      fX5_censor_L42 FU a1 a2 (-1) 0 S3
theorem sX5_censor {a1 : Int32} {a2 : Int32} {S : St} {r : Int32} {S9 : St} (h : fX5_censor a1 a2 S = some (r, S9)) : PW mX5_censor (some (.int r), S9) 0 [some (.ref 41), some (.int a1), some (.int a2), none, none, none] [] S := by
  unfold fX5_censor at h
  refine p_iload_n (k := 0) (i := 1) rfl rfl rfl ?_
  obtain ⟨v1, S1, hcS1, h⟩ := cl_some h
  refine p_callS (k := 1) [.int a1] [] rfl (tX5_isPage hcS1) lc_X5_isPage ml_RX5_118 ms_X5_isPage (by decide) (by decide) (Nat.le_of_ble_eq_true rfl) rfl ?_
  refine p_if_eq (k := 2) 19 rfl (by decide) (fun hc => ?_) (fun hc => ?_)
  · rw [if_pos hc] at h
    refine p_msk [true, false, false, false, false, false] (L2 := [some (.ref 41), none, none, none, none, none]) rfl ?_
    exact sX5_censor_L19 h
  · rw [if_neg hc] at h
    refine p_iload_n (k := 3) (i := 2) rfl rfl rfl ?_
    refine p_i2l (k := 4) rfl ?_
    refine p_lconst (k := 5) 0 rfl (by decide) ?_
    refine p_ldc2 (k := 6) rfl k_RX5_189 ?_
    obtain ⟨v2, S2, hcS2, h⟩ := cl_some h
    refine p_callS (k := 7) [.long (Int32.toInt64 a2), .long 0, .long 12] [] rfl (tX5_isIn hcS2) lc_X5_isIn ml_RX5_49 ms_X5_isIn (by decide) (by decide) (Nat.le_of_ble_eq_true rfl) rfl ?_
    refine p_if_ne (k := 8) 26 rfl (by decide) (fun hc => ?_) (fun hc => ?_)
    · rw [if_neg hc] at h
      refine p_iconst (k := 13) (-1) rfl (by decide) ?_
      refine p_istore_n (k := 14) 3 [some (.ref 41), some (.int a1), some (.int a2), some (.int (-1)), none, none] rfl rfl rfl (by decide) rfl ?_
      refine p_aload_n (k := 15) (i := 0) rfl rfl rfl ?_
      refine p_getr (k := 16) rfl lay_X5 rfl fl_RX5_7 ?_
      refine p_aload_n (k := 17) (i := 0) rfl rfl rfl ?_
      refine p_getr (k := 18) rfl lay_X5 rfl fl_RX5_19 ?_
      obtain ⟨_, S3, hcS3, h⟩ := cl_some h
      refine p_callS (k := 19) [.ref 42, .ref 45] [] rfl (tX5_copyRow lay_42 lay_45 hcS3) lc_X5_copyRow ml_RX5_164 ms_X5_copyRow (by decide) (by decide) (Nat.le_of_ble_eq_true rfl) rfl ?_
      refine p_iconst (k := 20) 0 rfl (by decide) ?_
      refine p_istore (k := 21) [some (.ref 41), some (.int a1), some (.int a2), some (.int (-1)), some (.int 0), none] rfl rfl (by decide) rfl ?_
      refine p_msk [true, true, true, true, true, false] (L2 := [some (.ref 41), some (.int a1), some (.int a2), some (.int (-1)), some (.int 0), none]) rfl ?_
      exact sX5_censor_L42 _ _ _ _ _ _ h
    · rw [if_pos hc] at h
      refine p_msk [true, false, false, false, false, false] (L2 := [some (.ref 41), none, none, none, none, none]) rfl ?_
      exact sX5_censor_L19 h
theorem tX5_censor {a1 : Int32} {a2 : Int32} {S : St} {r : Int32} {S9 : St} (h : fX5_censor a1 a2 S = some (r, S9)) : MR yX5_censor cX5_censor mX5_censor [.ref 41, .int a1, .int a2] S (some (.int r), S9) := MR.of (n := 3) okX5_censor rfl rfl (sX5_censor h)
-- isTold(II)Z
def fX5_isTold_L67 (k16 : Int32 → Int32 → Int32 → Int32 → St → Option (Int32 × St)) (x1 : Int32) (x2 : Int32) (x4 : Int32) (y0 : Int32) (S : St) : Option (Int32 × St) :=
  cl (fX5_dayBut 0 S) fun _ S1 =>
  bnd (x4 + 1) fun v1 =>
  k16 x1 x2 y0 v1 S1
theorem sX5_isTold_L67 {r : Int32} {S9 : St} {k16 : Int32 → Int32 → Int32 → Int32 → St → Option (Int32 × St)} (hk16 : ∀ x1 x2 x3 x4 S, k16 x1 x2 x3 x4 S = some (r, S9) → PW mX5_isTold (some (.int r), S9) 16 [some (.ref 41), some (.int x1), some (.int x2), some (.int x3), some (.int x4), none] [] S) {x1 : Int32} {x2 : Int32} {x4 : Int32} {y0 : Int32} {S : St} (h : fX5_isTold_L67 k16 x1 x2 x4 y0 S = some (r, S9)) : PW mX5_isTold (some (.int r), S9) 67 [some (.ref 41), some (.int x1), some (.int x2), none, some (.int x4), none] [.int y0] S := by
  unfold fX5_isTold_L67 at h
  refine p_istore_n (k := 38) 3 [some (.ref 41), some (.int x1), some (.int x2), some (.int y0), some (.int x4), none] rfl rfl rfl (by decide) rfl ?_
  refine p_aload_n (k := 39) (i := 0) rfl rfl rfl ?_
  refine p_iconst (k := 40) 0 rfl (by decide) ?_
  obtain ⟨_, S1, hcS1, h⟩ := cl_some h
  refine p_callV (k := 41) [.int 0] [] rfl (tX5_dayBut hcS1) lay_X5 rfl lc_X5_dayBut ml_RX5_142 mi_X5_dayBut mv_X5_dayBut (by decide) (by decide) (Nat.le_of_ble_eq_true rfl) rfl ?_
  obtain ⟨v1, ev1, h⟩ := bnd_ex h
  refine p_iinc (k := 42) v1 [some (.ref 41), some (.int x1), some (.int x2), some (.int y0), some (.int v1), none] rfl rfl (by rw [← ev1]; rfl) rfl (by decide) rfl ?_
  refine p_goto (k := 43) 16 rfl (by decide) ?_
  refine p_msk [true, true, true, true, true, false] (L2 := [some (.ref 41), some (.int x1), some (.int x2), some (.int y0), some (.int v1), none]) rfl ?_
  exact hk16 _ _ _ _ _ h
def fX5_isTold_L62 (k16 : Int32 → Int32 → Int32 → Int32 → St → Option (Int32 × St)) (x1 : Int32) (x2 : Int32) (x4 : Int32) (S : St) : Option (Int32 × St) :=
  fX5_isTold_L67 k16 x1 x2 x4 1 S
theorem sX5_isTold_L62 {r : Int32} {S9 : St} {k16 : Int32 → Int32 → Int32 → Int32 → St → Option (Int32 × St)} (hk16 : ∀ x1 x2 x3 x4 S, k16 x1 x2 x3 x4 S = some (r, S9) → PW mX5_isTold (some (.int r), S9) 16 [some (.ref 41), some (.int x1), some (.int x2), some (.int x3), some (.int x4), none] [] S) {x1 : Int32} {x2 : Int32} {x4 : Int32} {S : St} (h : fX5_isTold_L62 k16 x1 x2 x4 S = some (r, S9)) : PW mX5_isTold (some (.int r), S9) 62 [some (.ref 41), some (.int x1), some (.int x2), none, some (.int x4), none] [] S := by
  unfold fX5_isTold_L62 at h
  refine p_iconst (k := 35) 1 rfl (by decide) ?_
  refine p_goto (k := 36) 67 rfl (by decide) ?_
  refine p_msk [true, true, true, false, true, false] (L2 := [some (.ref 41), some (.int x1), some (.int x2), none, some (.int x4), none]) rfl ?_
  exact sX5_isTold_L67 hk16 h
def fX5_isTold_L79 (x3 : Int32) (S : St) : Option (Int32 × St) :=
  cl (fX5_copyRow 45 42 S) fun _ S1 =>
  retN .boolean x3 S1
theorem sX5_isTold_L79 {r : Int32} {S9 : St} {x3 : Int32} {S : St} (h : fX5_isTold_L79 x3 S = some (r, S9)) : PW mX5_isTold (some (.int r), S9) 79 [some (.ref 41), none, none, some (.int x3), none, none] [] S := by
  unfold fX5_isTold_L79 at h
  refine p_aload_n (k := 44) (i := 0) rfl rfl rfl ?_
  refine p_getr (k := 45) rfl lay_X5 rfl fl_RX5_19 ?_
  refine p_aload_n (k := 46) (i := 0) rfl rfl rfl ?_
  refine p_getr (k := 47) rfl lay_X5 rfl fl_RX5_7 ?_
  obtain ⟨_, S1, hcS1, h⟩ := cl_some h
  refine p_callS (k := 48) [.ref 45, .ref 42] [] rfl (tX5_copyRow lay_45 lay_42 hcS1) lc_X5_copyRow ml_RX5_164 ms_X5_copyRow (by decide) (by decide) (Nat.le_of_ble_eq_true rfl) rfl ?_
  refine p_iload_n (k := 49) (i := 3) rfl rfl rfl ?_
  exact s_zret h (k := 50) rfl rfl
def fX5_isTold_L16 : Nat → Int32 → Int32 → Int32 → Int32 → St → Option (Int32 × St)
  | 0 => fun _ _ _ _ _ => none
  | n + 1 => fun x1 x2 x3 x4 S =>
    rd S 49 4 x1 fun v1 =>
    if v1 ≤ x4 then
      fX5_isTold_L79 x3 S
    else
      if x3 = 0 then
        fX5_isTold_L79 x3 S
      else
        rd S 50 160 ((40 * x1) + x4) fun v2 =>
        if v2 = (-1) then
          fX5_isTold_L62 (fun x1 x2 x3 x4 S => fX5_isTold_L16 n x1 x2 x3 x4 S) x1 x2 x4 S
        else
          rd S 42 75 x2 fun v3 =>
          if v2 = v3 then
            fX5_isTold_L62 (fun x1 x2 x3 x4 S => fX5_isTold_L16 n x1 x2 x3 x4 S) x1 x2 x4 S
          else
            fX5_isTold_L67 (fun x1 x2 x3 x4 S => fX5_isTold_L16 n x1 x2 x3 x4 S) x1 x2 x4 0 S
theorem sX5_isTold_L16 {r : Int32} {S9 : St} : ∀ (n : Nat) (x1 : Int32) (x2 : Int32) (x3 : Int32) (x4 : Int32) (S : St), fX5_isTold_L16 n x1 x2 x3 x4 S = some (r, S9) → PW mX5_isTold (some (.int r), S9) 16 [some (.ref 41), some (.int x1), some (.int x2), some (.int x3), some (.int x4), none] [] S := by
  intro n
  induction n with
  | zero => intro x1 x2 x3 x4 S h; cases h
  | succ n ih =>
    intro x1 x2 x3 x4 S h
    unfold fX5_isTold_L16 at h
    refine p_iload (k := 9) rfl rfl ?_
    refine p_aload_n (k := 10) (i := 0) rfl rfl rfl ?_
    refine p_getr (k := 11) rfl lay_X5 rfl fl_RX5_31 ?_
    refine p_iload_n (k := 12) (i := 1) rfl rfl rfl ?_
    refine s_rd h (k := 13) rfl lay_49 (fun v1 h => ?_)
    refine p_icmp_ge (k := 14) 79 rfl (by decide) (fun hc => ?_) (fun hc => ?_)
    · rw [if_pos hc] at h
      refine p_msk [true, false, false, true, false, false] (L2 := [some (.ref 41), none, none, some (.int x3), none, none]) rfl ?_
      exact sX5_isTold_L79 h
    · rw [if_neg hc] at h
      refine p_iload_n (k := 15) (i := 3) rfl rfl rfl ?_
      refine p_if_eq (k := 16) 79 rfl (by decide) (fun hc => ?_) (fun hc => ?_)
      · rw [if_pos hc] at h
        refine p_msk [true, false, false, true, false, false] (L2 := [some (.ref 41), none, none, some (.int x3), none, none]) rfl ?_
        exact sX5_isTold_L79 h
      · rw [if_neg hc] at h
        refine p_aload_n (k := 17) (i := 0) rfl rfl rfl ?_
        refine p_getr (k := 18) rfl lay_X5 rfl fl_RX5_34 ?_
        refine p_bipush (k := 19) 40 rfl (by decide) ?_
        refine p_iload_n (k := 20) (i := 1) rfl rfl rfl ?_
        refine p_imul (k := 21) rfl ?_
        refine p_iload (k := 22) rfl rfl ?_
        refine p_iadd (k := 23) rfl ?_
        refine s_rd h (k := 24) rfl lay_50 (fun v2 h => ?_)
        refine p_istore (k := 25) [some (.ref 41), some (.int x1), some (.int x2), some (.int x3), some (.int x4), some (.int v2)] rfl rfl (by decide) rfl ?_
        refine p_iload (k := 26) rfl rfl ?_
        refine p_iconst (k := 27) (-1) rfl (by decide) ?_
        refine p_icmp_eq (k := 28) 62 rfl (by decide) (fun hc => ?_) (fun hc => ?_)
        · rw [if_pos hc] at h
          refine p_msk [true, true, true, false, true, false] (L2 := [some (.ref 41), some (.int x1), some (.int x2), none, some (.int x4), none]) rfl ?_
          exact sX5_isTold_L62 ih h
        · rw [if_neg hc] at h
          refine p_iload (k := 29) rfl rfl ?_
          refine p_aload_n (k := 30) (i := 0) rfl rfl rfl ?_
          refine p_getr (k := 31) rfl lay_X5 rfl fl_RX5_7 ?_
          refine p_iload_n (k := 32) (i := 2) rfl rfl rfl ?_
          refine s_rd h (k := 33) rfl lay_42 (fun v3 h => ?_)
          refine p_icmp_ne (k := 34) 66 rfl (by decide) (fun hc => ?_) (fun hc => ?_)
          · rw [if_neg hc] at h
            refine p_iconst (k := 37) 0 rfl (by decide) ?_
            refine p_msk [true, true, true, false, true, false] (L2 := [some (.ref 41), some (.int x1), some (.int x2), none, some (.int x4), none]) rfl ?_
            exact sX5_isTold_L67 ih h
          · rw [if_pos hc] at h
            refine p_msk [true, true, true, false, true, false] (L2 := [some (.ref 41), some (.int x1), some (.int x2), none, some (.int x4), none]) rfl ?_
            exact sX5_isTold_L62 ih h
def fX5_isTold (a1 : Int32) (a2 : Int32) (S : St) : Option (Int32 × St) :=
  cl (fX5_copyRow 42 45 S) fun _ S1 =>
  fX5_isTold_L16 FU a1 a2 1 0 S1
theorem sX5_isTold {a1 : Int32} {a2 : Int32} {S : St} {r : Int32} {S9 : St} (h : fX5_isTold a1 a2 S = some (r, S9)) : PW mX5_isTold (some (.int r), S9) 0 [some (.ref 41), some (.int a1), some (.int a2), none, none, none] [] S := by
  unfold fX5_isTold at h
  refine p_aload_n (k := 0) (i := 0) rfl rfl rfl ?_
  refine p_getr (k := 1) rfl lay_X5 rfl fl_RX5_7 ?_
  refine p_aload_n (k := 2) (i := 0) rfl rfl rfl ?_
  refine p_getr (k := 3) rfl lay_X5 rfl fl_RX5_19 ?_
  obtain ⟨_, S1, hcS1, h⟩ := cl_some h
  refine p_callS (k := 4) [.ref 42, .ref 45] [] rfl (tX5_copyRow lay_42 lay_45 hcS1) lc_X5_copyRow ml_RX5_164 ms_X5_copyRow (by decide) (by decide) (Nat.le_of_ble_eq_true rfl) rfl ?_
  refine p_iconst (k := 5) 1 rfl (by decide) ?_
  refine p_istore_n (k := 6) 3 [some (.ref 41), some (.int a1), some (.int a2), some (.int 1), none, none] rfl rfl rfl (by decide) rfl ?_
  refine p_iconst (k := 7) 0 rfl (by decide) ?_
  refine p_istore (k := 8) [some (.ref 41), some (.int a1), some (.int a2), some (.int 1), some (.int 0), none] rfl rfl (by decide) rfl ?_
  refine p_msk [true, true, true, true, true, false] (L2 := [some (.ref 41), some (.int a1), some (.int a2), some (.int 1), some (.int 0), none]) rfl ?_
  exact sX5_isTold_L16 _ _ _ _ _ _ h
theorem tX5_isTold {a1 : Int32} {a2 : Int32} {S : St} {r : Int32} {S9 : St} (h : fX5_isTold a1 a2 S = some (r, S9)) : MR yX5_isTold cX5_isTold mX5_isTold [.ref 41, .int a1, .int a2] S (some (.int r), S9) := MR.of (n := 3) okX5_isTold rfl rfl (sX5_isTold h)
-- isSheet(I)Z
def fX5_isSheet_L14 (y0 : Int32) (S : St) : Option (Int32 × St) :=
  retN .boolean y0 S
theorem sX5_isSheet_L14 {r : Int32} {S9 : St} {y0 : Int32} {S : St} (h : fX5_isSheet_L14 y0 S = some (r, S9)) : PW mX5_isSheet (some (.int r), S9) 14 [none] [.int y0] S := by
  unfold fX5_isSheet_L14 at h
  exact s_zret h (k := 8) rfl rfl
def fX5_isSheet_L13 (S : St) : Option (Int32 × St) :=
  fX5_isSheet_L14 0 S
theorem sX5_isSheet_L13 {r : Int32} {S9 : St}  {S : St} (h : fX5_isSheet_L13 S = some (r, S9)) : PW mX5_isSheet (some (.int r), S9) 13 [none] [] S := by
  unfold fX5_isSheet_L13 at h
  refine p_iconst (k := 7) 0 rfl (by decide) ?_
  refine p_msk [false] (L2 := [none]) rfl ?_
  exact sX5_isSheet_L14 h
def fX5_isSheet (a1 : Int32) (S : St) : Option (Int32 × St) :=
  if a1 < 0 then
    fX5_isSheet_L13 S
  else
    if 4 ≤ a1 then
      fX5_isSheet_L13 S
    else
      fX5_isSheet_L14 1 S
theorem sX5_isSheet {a1 : Int32} {S : St} {r : Int32} {S9 : St} (h : fX5_isSheet a1 S = some (r, S9)) : PW mX5_isSheet (some (.int r), S9) 0 [some (.int a1)] [] S := by
  unfold fX5_isSheet at h
  refine p_iload_n (k := 0) (i := 0) rfl rfl rfl ?_
  refine p_if_lt (k := 1) 13 rfl (by decide) (fun hc => ?_) (fun hc => ?_)
  · rw [if_pos hc] at h
    refine p_msk [false] (L2 := [none]) rfl ?_
    exact sX5_isSheet_L13 h
  · rw [if_neg hc] at h
    refine p_iload_n (k := 2) (i := 0) rfl rfl rfl ?_
    refine p_iconst (k := 3) 4 rfl (by decide) ?_
    refine p_icmp_ge (k := 4) 13 rfl (by decide) (fun hc => ?_) (fun hc => ?_)
    · rw [if_pos hc] at h
      refine p_msk [false] (L2 := [none]) rfl ?_
      exact sX5_isSheet_L13 h
    · rw [if_neg hc] at h
      refine p_iconst (k := 5) 1 rfl (by decide) ?_
      refine p_goto (k := 6) 14 rfl (by decide) ?_
      refine p_msk [false] (L2 := [none]) rfl ?_
      exact sX5_isSheet_L14 h
theorem tX5_isSheet {a1 : Int32} {S : St} {r : Int32} {S9 : St} (h : fX5_isSheet a1 S = some (r, S9)) : MR yX5_isSheet cX5_isSheet mX5_isSheet [.int a1] S (some (.int r), S9) := MR.of (n := 0) okX5_isSheet rfl rfl (sX5_isSheet h)
-- wants(I)I
def fX5_wants_L28 (y0 : Int32) (S : St) : Option (Int32 × St) :=
  some (y0, S)
theorem sX5_wants_L28 {r : Int32} {S9 : St} {y0 : Int32} {S : St} (h : fX5_wants_L28 y0 S = some (r, S9)) : PW mX5_wants (some (.int r), S9) 28 [none, none] [.int y0] S := by
  unfold fX5_wants_L28 at h
  exact s_iret h (k := 13) rfl rfl
def fX5_wants (a1 : Int32) (S : St) : Option (Int32 × St) :=
  cl (fX5_isSheet a1 S) fun v1 S1 =>
  if v1 = 0 then
    fX5_wants_L28 (-1000001) S1
  else
    rd S1 48 4 a1 fun v2 =>
    if 0 ≤ v2 then
      fX5_wants_L28 0 S1
    else
      fX5_wants_L28 (-1000006) S1
theorem sX5_wants {a1 : Int32} {S : St} {r : Int32} {S9 : St} (h : fX5_wants a1 S = some (r, S9)) : PW mX5_wants (some (.int r), S9) 0 [some (.ref 41), some (.int a1)] [] S := by
  unfold fX5_wants at h
  refine p_iload_n (k := 0) (i := 1) rfl rfl rfl ?_
  obtain ⟨v1, S1, hcS1, h⟩ := cl_some h
  refine p_callS (k := 1) [.int a1] [] rfl (tX5_isSheet hcS1) lc_X5_isSheet ml_RX5_282 ms_X5_isSheet (by decide) (by decide) (Nat.le_of_ble_eq_true rfl) rfl ?_
  refine p_if_ne (k := 2) 12 rfl (by decide) (fun hc => ?_) (fun hc => ?_)
  · rw [if_neg hc] at h
    refine p_aload_n (k := 5) (i := 0) rfl rfl rfl ?_
    refine p_getr (k := 6) rfl lay_X5 rfl fl_RX5_28 ?_
    refine p_iload_n (k := 7) (i := 1) rfl rfl rfl ?_
    refine s_rd h (k := 8) rfl lay_48 (fun v2 h => ?_)
    refine p_if_ge (k := 9) 27 rfl (by decide) (fun hc => ?_) (fun hc => ?_)
    · rw [if_pos hc] at h
      refine p_iconst (k := 12) 0 rfl (by decide) ?_
      refine p_msk [false, false] (L2 := [none, none]) rfl ?_
      exact sX5_wants_L28 h
    · rw [if_neg hc] at h
      refine p_ldcw (k := 10) rfl k_RX5_277 ?_
      refine p_goto (k := 11) 28 rfl (by decide) ?_
      refine p_msk [false, false] (L2 := [none, none]) rfl ?_
      exact sX5_wants_L28 h
  · rw [if_pos hc] at h
    refine p_ldc (k := 3) rfl k_RX5_37 ?_
    refine p_goto (k := 4) 28 rfl (by decide) ?_
    refine p_msk [false, false] (L2 := [none, none]) rfl ?_
    exact sX5_wants_L28 h
theorem tX5_wants {a1 : Int32} {S : St} {r : Int32} {S9 : St} (h : fX5_wants a1 S = some (r, S9)) : MR yX5_wants cX5_wants mX5_wants [.ref 41, .int a1] S (some (.int r), S9) := MR.of (n := 0) okX5_wants rfl rfl (sX5_wants h)
-- couldBe(IIII)I
def fX5_couldBe_L103 (k58 : Int32 → Int32 → Int32 → Int32 → Int32 → Int32 → Int32 → St → Option (Int32 × St)) (x1 : Int32) (x2 : Int32) (x3 : Int32) (x4 : Int32) (x6 : Int32) (x8 : Int32) (y0 : Int32) (y1 : Int32) (S : St) : Option (Int32 × St) :=
  bnd (y0 ||| y1) fun v1 =>
  bnd (x8 + 1) fun v2 =>
  k58 x1 x2 x3 x4 x6 v1 v2 S
theorem sX5_couldBe_L103 {r : Int32} {S9 : St} {k58 : Int32 → Int32 → Int32 → Int32 → Int32 → Int32 → Int32 → St → Option (Int32 × St)} (hk58 : ∀ x1 x2 x3 x4 x6 x7 x8 S, k58 x1 x2 x3 x4 x6 x7 x8 S = some (r, S9) → PW mX5_couldBe (some (.int r), S9) 58 [some (.ref 41), some (.int x1), some (.int x2), some (.int x3), some (.int x4), none, some (.int x6), some (.int x7), some (.int x8)] [] S) {x1 : Int32} {x2 : Int32} {x3 : Int32} {x4 : Int32} {x6 : Int32} {x8 : Int32} {y0 : Int32} {y1 : Int32} {S : St} (h : fX5_couldBe_L103 k58 x1 x2 x3 x4 x6 x8 y0 y1 S = some (r, S9)) : PW mX5_couldBe (some (.int r), S9) 103 [some (.ref 41), some (.int x1), some (.int x2), some (.int x3), some (.int x4), none, some (.int x6), none, some (.int x8)] [.int y1, .int y0] S := by
  unfold fX5_couldBe_L103 at h
  refine p_ior (k := 55) rfl ?_
  refine s_bnd h (fun v1 h => ?_)
  refine p_istore (k := 56) [some (.ref 41), some (.int x1), some (.int x2), some (.int x3), some (.int x4), none, some (.int x6), some (.int v1), some (.int x8)] rfl rfl (by decide) rfl ?_
  obtain ⟨v2, ev2, h⟩ := bnd_ex h
  refine p_iinc (k := 57) v2 [some (.ref 41), some (.int x1), some (.int x2), some (.int x3), some (.int x4), none, some (.int x6), some (.int v1), some (.int v2)] rfl rfl (by rw [← ev2]; rfl) rfl (by decide) rfl ?_
  refine p_goto (k := 58) 58 rfl (by decide) ?_
  refine p_msk [true, true, true, true, true, false, true, true, true] (L2 := [some (.ref 41), some (.int x1), some (.int x2), some (.int x3), some (.int x4), none, some (.int x6), some (.int v1), some (.int v2)]) rfl ?_
  exact hk58 _ _ _ _ _ _ _ _ h
def fX5_couldBe_L58 : Nat → Int32 → Int32 → Int32 → Int32 → Int32 → Int32 → Int32 → St → Option (Int32 × St)
  | 0 => fun _ _ _ _ _ _ _ _ => none
  | n + 1 => fun x1 x2 x3 x4 x6 x7 x8 S =>
    cl (fX5_greatestOf x3 S) fun v1 S1 =>
    if v1 < x8 then
      cl (fX5_at x2 x3 S1) fun v2 S2 =>
      wr S2 42 75 v2 x6 fun S3 =>
      some (x7, S3)
    else
      cl (fX5_at x2 x3 S1) fun v3 S4 =>
      wr S4 42 75 v3 x8 fun S5 =>
      cl (fX5_at x2 x4 S5) fun v4 S6 =>
      cl (fX5_isTold x1 v4 S6) fun v5 S7 =>
      if v5 = 0 then
        fX5_couldBe_L103 (fun x1 x2 x3 x4 x6 x7 x8 S => fX5_couldBe_L58 n x1 x2 x3 x4 x6 x7 x8 S) x1 x2 x3 x4 x6 x8 x7 0 S7
      else
        fX5_couldBe_L103 (fun x1 x2 x3 x4 x6 x7 x8 S => fX5_couldBe_L58 n x1 x2 x3 x4 x6 x7 x8 S) x1 x2 x3 x4 x6 x8 x7 (1 <<< (x8 &&& 31)) S7
theorem sX5_couldBe_L58 {r : Int32} {S9 : St} : ∀ (n : Nat) (x1 : Int32) (x2 : Int32) (x3 : Int32) (x4 : Int32) (x6 : Int32) (x7 : Int32) (x8 : Int32) (S : St), fX5_couldBe_L58 n x1 x2 x3 x4 x6 x7 x8 S = some (r, S9) → PW mX5_couldBe (some (.int r), S9) 58 [some (.ref 41), some (.int x1), some (.int x2), some (.int x3), some (.int x4), none, some (.int x6), some (.int x7), some (.int x8)] [] S := by
  intro n
  induction n with
  | zero => intro x1 x2 x3 x4 x6 x7 x8 S h; cases h
  | succ n ih =>
    intro x1 x2 x3 x4 x6 x7 x8 S h
    unfold fX5_couldBe_L58 at h
    refine p_iload (k := 31) rfl rfl ?_
    refine p_iload_n (k := 32) (i := 3) rfl rfl rfl ?_
    obtain ⟨v1, S1, hcS1, h⟩ := cl_some h
    refine p_callS (k := 33) [.int x3] [.int x8] rfl (tX5_greatestOf hcS1) lc_X5_greatestOf ml_RX5_115 ms_X5_greatestOf (by decide) (by decide) (Nat.le_of_ble_eq_true rfl) rfl ?_
    refine p_icmp_gt (k := 34) 112 rfl (by decide) (fun hc => ?_) (fun hc => ?_)
    · rw [if_pos hc] at h
      refine p_aload_n (k := 59) (i := 0) rfl rfl rfl ?_
      refine p_getr (k := 60) rfl lay_X5 rfl fl_RX5_7 ?_
      refine p_iload_n (k := 61) (i := 2) rfl rfl rfl ?_
      refine p_iload_n (k := 62) (i := 3) rfl rfl rfl ?_
      obtain ⟨v2, S2, hcS2, h⟩ := cl_some h
      refine p_callS (k := 63) [.int x2, .int x3] [.ref 42] rfl (tX5_at hcS2) lc_X5_at ml_RX5_72 ms_X5_at (by decide) (by decide) (Nat.le_of_ble_eq_true rfl) rfl ?_
      refine p_iload (k := 64) rfl rfl ?_
      refine s_wr h (k := 65) rfl lay_42 (fun S3 h => ?_)
      refine p_iload (k := 66) rfl rfl ?_
      exact s_iret h (k := 67) rfl rfl
    · rw [if_neg hc] at h
      refine p_aload_n (k := 35) (i := 0) rfl rfl rfl ?_
      refine p_getr (k := 36) rfl lay_X5 rfl fl_RX5_7 ?_
      refine p_iload_n (k := 37) (i := 2) rfl rfl rfl ?_
      refine p_iload_n (k := 38) (i := 3) rfl rfl rfl ?_
      obtain ⟨v3, S4, hcS4, h⟩ := cl_some h
      refine p_callS (k := 39) [.int x2, .int x3] [.ref 42] rfl (tX5_at hcS4) lc_X5_at ml_RX5_72 ms_X5_at (by decide) (by decide) (Nat.le_of_ble_eq_true rfl) rfl ?_
      refine p_iload (k := 40) rfl rfl ?_
      refine s_wr h (k := 41) rfl lay_42 (fun S5 h => ?_)
      refine p_iload (k := 42) rfl rfl ?_
      refine p_aload_n (k := 43) (i := 0) rfl rfl rfl ?_
      refine p_iload_n (k := 44) (i := 1) rfl rfl rfl ?_
      refine p_iload_n (k := 45) (i := 2) rfl rfl rfl ?_
      refine p_iload (k := 46) rfl rfl ?_
      obtain ⟨v4, S6, hcS6, h⟩ := cl_some h
      refine p_callS (k := 47) [.int x2, .int x4] [.int x1, .ref 41, .int x7] rfl (tX5_at hcS6) lc_X5_at ml_RX5_72 ms_X5_at (by decide) (by decide) (Nat.le_of_ble_eq_true rfl) rfl ?_
      obtain ⟨v5, S7, hcS7, h⟩ := cl_some h
      refine p_callV (k := 48) [.int x1, .int v4] [.int x7] rfl (tX5_isTold hcS7) lay_X5 rfl lc_X5_isTold ml_RX5_194 mi_X5_isTold mv_X5_isTold (by decide) (by decide) (Nat.le_of_ble_eq_true rfl) rfl ?_
      refine p_if_eq (k := 49) 102 rfl (by decide) (fun hc => ?_) (fun hc => ?_)
      · rw [if_pos hc] at h
        refine p_iconst (k := 54) 0 rfl (by decide) ?_
        refine p_msk [true, true, true, true, true, false, true, false, true] (L2 := [some (.ref 41), some (.int x1), some (.int x2), some (.int x3), some (.int x4), none, some (.int x6), none, some (.int x8)]) rfl ?_
        exact sX5_couldBe_L103 ih h
      · rw [if_neg hc] at h
        refine p_iconst (k := 50) 1 rfl (by decide) ?_
        refine p_iload (k := 51) rfl rfl ?_
        refine p_ishl (k := 52) rfl ?_
        refine p_goto (k := 53) 103 rfl (by decide) ?_
        refine p_msk [true, true, true, true, true, false, true, false, true] (L2 := [some (.ref 41), some (.int x1), some (.int x2), some (.int x3), some (.int x4), none, some (.int x6), none, some (.int x8)]) rfl ?_
        exact sX5_couldBe_L103 ih h
def fX5_couldBe_L30 (x1 : Int32) (x2 : Int32) (x3 : Int32) (x4 : Int32) (y0 : Int32) (S : St) : Option (Int32 × St) :=
  if y0 = 0 then
    cl (fX5_its x2 x3 S) fun v1 S1 =>
    fX5_couldBe_L58 FU x1 x2 x3 x4 v1 0 0 S1
  else
    cl (fX5_finds y0 S) fun v2 S2 =>
    some (v2, S2)
theorem sX5_couldBe_L30 {r : Int32} {S9 : St} {x1 : Int32} {x2 : Int32} {x3 : Int32} {x4 : Int32} {y0 : Int32} {S : St} (h : fX5_couldBe_L30 x1 x2 x3 x4 y0 S = some (r, S9)) : PW mX5_couldBe (some (.int r), S9) 30 [some (.ref 41), some (.int x1), some (.int x2), some (.int x3), some (.int x4), none, none, none, none] [.int y0] S := by
  unfold fX5_couldBe_L30 at h
  refine p_istore (k := 15) [some (.ref 41), some (.int x1), some (.int x2), some (.int x3), some (.int x4), some (.int y0), none, none, none] rfl rfl (by decide) rfl ?_
  refine p_iload (k := 16) rfl rfl ?_
  refine p_if_eq (k := 17) 44 rfl (by decide) (fun hc => ?_) (fun hc => ?_)
  · rw [if_pos hc] at h
    refine p_aload_n (k := 22) (i := 0) rfl rfl rfl ?_
    refine p_iload_n (k := 23) (i := 2) rfl rfl rfl ?_
    refine p_iload_n (k := 24) (i := 3) rfl rfl rfl ?_
    obtain ⟨v1, S1, hcS1, h⟩ := cl_some h
    refine p_callV (k := 25) [.int x2, .int x3] [] rfl (tX5_its hcS1) lay_X5 rfl lc_X5_its ml_RX5_57 mi_X5_its mv_X5_its (by decide) (by decide) (Nat.le_of_ble_eq_true rfl) rfl ?_
    refine p_istore (k := 26) [some (.ref 41), some (.int x1), some (.int x2), some (.int x3), some (.int x4), some (.int y0), some (.int v1), none, none] rfl rfl (by decide) rfl ?_
    refine p_iconst (k := 27) 0 rfl (by decide) ?_
    refine p_istore (k := 28) [some (.ref 41), some (.int x1), some (.int x2), some (.int x3), some (.int x4), some (.int y0), some (.int v1), some (.int 0), none] rfl rfl (by decide) rfl ?_
    refine p_iconst (k := 29) 0 rfl (by decide) ?_
    refine p_istore (k := 30) [some (.ref 41), some (.int x1), some (.int x2), some (.int x3), some (.int x4), some (.int y0), some (.int v1), some (.int 0), some (.int 0)] rfl rfl (by decide) rfl ?_
    refine p_msk [true, true, true, true, true, false, true, true, true] (L2 := [some (.ref 41), some (.int x1), some (.int x2), some (.int x3), some (.int x4), none, some (.int v1), some (.int 0), some (.int 0)]) rfl ?_
    exact sX5_couldBe_L58 _ _ _ _ _ _ _ _ _ h
  · rw [if_neg hc] at h
    refine p_aload_n (k := 18) (i := 0) rfl rfl rfl ?_
    refine p_iload (k := 19) rfl rfl ?_
    obtain ⟨v2, S2, hcS2, h⟩ := cl_some h
    refine p_callV (k := 20) [.int y0] [] rfl (tX5_finds hcS2) lay_X5 rfl lc_X5_finds ml_RX5_39 mi_X5_finds mv_X5_finds (by decide) (by decide) (Nat.le_of_ble_eq_true rfl) rfl ?_
    exact s_iret h (k := 21) rfl rfl
def fX5_couldBe (a1 : Int32) (a2 : Int32) (a3 : Int32) (a4 : Int32) (S : St) : Option (Int32 × St) :=
  cl (fX5_wants a1 S) fun v1 S1 =>
  if v1 = 0 then
    cl (fX5_isGoat a2 S1) fun v2 S2 =>
    if v2 = 0 then
      fX5_couldBe_L30 a1 a2 a3 a4 (-1000001) S2
    else
      fX5_couldBe_L30 a1 a2 a3 a4 0 S2
  else
    cl (fX5_wants a1 S1) fun v3 S3 =>
    fX5_couldBe_L30 a1 a2 a3 a4 v3 S3
theorem sX5_couldBe {a1 : Int32} {a2 : Int32} {a3 : Int32} {a4 : Int32} {S : St} {r : Int32} {S9 : St} (h : fX5_couldBe a1 a2 a3 a4 S = some (r, S9)) : PW mX5_couldBe (some (.int r), S9) 0 [some (.ref 41), some (.int a1), some (.int a2), some (.int a3), some (.int a4), none, none, none, none] [] S := by
  unfold fX5_couldBe at h
  refine p_aload_n (k := 0) (i := 0) rfl rfl rfl ?_
  refine p_iload_n (k := 1) (i := 1) rfl rfl rfl ?_
  obtain ⟨v1, S1, hcS1, h⟩ := cl_some h
  refine p_callV (k := 2) [.int a1] [] rfl (tX5_wants hcS1) lay_X5 rfl lc_X5_wants ml_RX5_191 mi_X5_wants mv_X5_wants (by decide) (by decide) (Nat.le_of_ble_eq_true rfl) rfl ?_
  refine p_if_eq (k := 3) 16 rfl (by decide) (fun hc => ?_) (fun hc => ?_)
  · rw [if_pos hc] at h
    refine p_aload_n (k := 8) (i := 0) rfl rfl rfl ?_
    refine p_iload_n (k := 9) (i := 2) rfl rfl rfl ?_
    obtain ⟨v2, S2, hcS2, h⟩ := cl_some h
    refine p_callV (k := 10) [.int a2] [] rfl (tX5_isGoat hcS2) lay_X5 rfl lc_X5_isGoat ml_RX5_95 mi_X5_isGoat mv_X5_isGoat (by decide) (by decide) (Nat.le_of_ble_eq_true rfl) rfl ?_
    refine p_if_eq (k := 11) 28 rfl (by decide) (fun hc => ?_) (fun hc => ?_)
    · rw [if_pos hc] at h
      refine p_ldc (k := 14) rfl k_RX5_37 ?_
      refine p_msk [true, true, true, true, true, false, false, false, false] (L2 := [some (.ref 41), some (.int a1), some (.int a2), some (.int a3), some (.int a4), none, none, none, none]) rfl ?_
      exact sX5_couldBe_L30 h
    · rw [if_neg hc] at h
      refine p_iconst (k := 12) 0 rfl (by decide) ?_
      refine p_goto (k := 13) 30 rfl (by decide) ?_
      refine p_msk [true, true, true, true, true, false, false, false, false] (L2 := [some (.ref 41), some (.int a1), some (.int a2), some (.int a3), some (.int a4), none, none, none, none]) rfl ?_
      exact sX5_couldBe_L30 h
  · rw [if_neg hc] at h
    refine p_aload_n (k := 4) (i := 0) rfl rfl rfl ?_
    refine p_iload_n (k := 5) (i := 1) rfl rfl rfl ?_
    obtain ⟨v3, S3, hcS3, h⟩ := cl_some h
    refine p_callV (k := 6) [.int a1] [] rfl (tX5_wants hcS3) lay_X5 rfl lc_X5_wants ml_RX5_191 mi_X5_wants mv_X5_wants (by decide) (by decide) (Nat.le_of_ble_eq_true rfl) rfl ?_
    refine p_goto (k := 7) 30 rfl (by decide) ?_
    refine p_msk [true, true, true, true, true, false, false, false, false] (L2 := [some (.ref 41), some (.int a1), some (.int a2), some (.int a3), some (.int a4), none, none, none, none]) rfl ?_
    exact sX5_couldBe_L30 h
theorem tX5_couldBe {a1 : Int32} {a2 : Int32} {a3 : Int32} {a4 : Int32} {S : St} {r : Int32} {S9 : St} (h : fX5_couldBe a1 a2 a3 a4 S = some (r, S9)) : MR yX5_couldBe cX5_couldBe mX5_couldBe [.ref 41, .int a1, .int a2, .int a3, .int a4] S (some (.int r), S9) := MR.of (n := 4) okX5_couldBe rfl rfl (sX5_couldBe h)
-- kinds(II)I
def fX5_kinds (a1 : Int32) (a2 : Int32) (S : St) : Option (Int32 × St) :=
  cl (fX5_couldBe a1 a2 0 1 S) fun v1 S1 =>
  some (v1, S1)
theorem sX5_kinds {a1 : Int32} {a2 : Int32} {S : St} {r : Int32} {S9 : St} (h : fX5_kinds a1 a2 S = some (r, S9)) : PW mX5_kinds (some (.int r), S9) 0 [some (.ref 41), some (.int a1), some (.int a2)] [] S := by
  unfold fX5_kinds at h
  refine p_aload_n (k := 0) (i := 0) rfl rfl rfl ?_
  refine p_iload_n (k := 1) (i := 1) rfl rfl rfl ?_
  refine p_iload_n (k := 2) (i := 2) rfl rfl rfl ?_
  refine p_iconst (k := 3) 0 rfl (by decide) ?_
  refine p_iconst (k := 4) 1 rfl (by decide) ?_
  obtain ⟨v1, S1, hcS1, h⟩ := cl_some h
  refine p_callV (k := 5) [.int a1, .int a2, .int 0, .int 1] [] rfl (tX5_couldBe hcS1) lay_X5 rfl lc_X5_couldBe ml_RX5_197 mi_X5_couldBe mv_X5_couldBe (by decide) (by decide) (Nat.le_of_ble_eq_true rfl) rfl ?_
  exact s_iret h (k := 6) rfl rfl
theorem tX5_kinds {a1 : Int32} {a2 : Int32} {S : St} {r : Int32} {S9 : St} (h : fX5_kinds a1 a2 S = some (r, S9)) : MR yX5_kinds cX5_kinds mX5_kinds [.ref 41, .int a1, .int a2] S (some (.int r), S9) := MR.of (n := 0) okX5_kinds rfl rfl (sX5_kinds h)
-- fits(II)I
def fX5_fits (a1 : Int32) (a2 : Int32) (S : St) : Option (Int32 × St) :=
  cl (fX5_couldBe a1 a2 1 4 S) fun v1 S1 =>
  some (v1, S1)
theorem sX5_fits {a1 : Int32} {a2 : Int32} {S : St} {r : Int32} {S9 : St} (h : fX5_fits a1 a2 S = some (r, S9)) : PW mX5_fits (some (.int r), S9) 0 [some (.ref 41), some (.int a1), some (.int a2)] [] S := by
  unfold fX5_fits at h
  refine p_aload_n (k := 0) (i := 0) rfl rfl rfl ?_
  refine p_iload_n (k := 1) (i := 1) rfl rfl rfl ?_
  refine p_iload_n (k := 2) (i := 2) rfl rfl rfl ?_
  refine p_iconst (k := 3) 1 rfl (by decide) ?_
  refine p_iconst (k := 4) 4 rfl (by decide) ?_
  obtain ⟨v1, S1, hcS1, h⟩ := cl_some h
  refine p_callV (k := 5) [.int a1, .int a2, .int 1, .int 4] [] rfl (tX5_couldBe hcS1) lay_X5 rfl lc_X5_couldBe ml_RX5_197 mi_X5_couldBe mv_X5_couldBe (by decide) (by decide) (Nat.le_of_ble_eq_true rfl) rfl ?_
  exact s_iret h (k := 6) rfl rfl
theorem tX5_fits {a1 : Int32} {a2 : Int32} {S : St} {r : Int32} {S9 : St} (h : fX5_fits a1 a2 S = some (r, S9)) : MR yX5_fits cX5_fits mX5_fits [.ref 41, .int a1, .int a2] S (some (.int r), S9) := MR.of (n := 0) okX5_fits rfl rfl (sX5_fits h)
-- draw()I
def fX5_draw (S : St) : Option (Int32 × St) :=
  rd S 42 75 2 fun v1 =>
  wr S 42 75 2 ((v1 * 1103515245) + 12345) fun S1 =>
  rd S1 42 75 2 fun v2 =>
  some (((v2 : Int32).toUInt32 >>> ((8 : Int32).toUInt32 &&& Int32.toUInt32 31)).toInt32, S1)
theorem sX5_draw {S : St} {r : Int32} {S9 : St} (h : fX5_draw S = some (r, S9)) : PW mX5_draw (some (.int r), S9) 0 [some (.ref 41)] [] S := by
  unfold fX5_draw at h
  refine p_aload_n (k := 0) (i := 0) rfl rfl rfl ?_
  refine p_getr (k := 1) rfl lay_X5 rfl fl_RX5_7 ?_
  refine p_iconst (k := 2) 2 rfl (by decide) ?_
  refine p_aload_n (k := 3) (i := 0) rfl rfl rfl ?_
  refine p_getr (k := 4) rfl lay_X5 rfl fl_RX5_7 ?_
  refine p_iconst (k := 5) 2 rfl (by decide) ?_
  refine s_rd h (k := 6) rfl lay_42 (fun v1 h => ?_)
  refine p_ldc (k := 7) rfl k_RX5_201 ?_
  refine p_imul (k := 8) rfl ?_
  refine p_sipush (k := 9) 12345 rfl (by decide) ?_
  refine p_iadd (k := 10) rfl ?_
  refine s_wr h (k := 11) rfl lay_42 (fun S1 h => ?_)
  refine p_aload_n (k := 12) (i := 0) rfl rfl rfl ?_
  refine p_getr (k := 13) rfl lay_X5 rfl fl_RX5_7 ?_
  refine p_iconst (k := 14) 2 rfl (by decide) ?_
  refine s_rd h (k := 15) rfl lay_42 (fun v2 h => ?_)
  refine p_bipush (k := 16) 8 rfl (by decide) ?_
  refine p_iushr (k := 17) rfl ?_
  exact s_iret h (k := 18) rfl rfl
theorem tX5_draw {S : St} {r : Int32} {S9 : St} (h : fX5_draw S = some (r, S9)) : MR yX5_draw cX5_draw mX5_draw [.ref 41] S (some (.int r), S9) := MR.of (n := 0) okX5_draw rfl rfl (sX5_draw h)
-- slips(I)I
def fX5_slips_L88 (k41 : Int32 → Int32 → St → Option (Int32 × St)) (x1 : Int32) (x2 : Int32) (S : St) : Option (Int32 × St) :=
  cl (fX5_dayBut 0 S) fun _ S1 =>
  bnd (x2 + 1) fun v1 =>
  k41 x1 v1 S1
theorem sX5_slips_L88 {r : Int32} {S9 : St} {k41 : Int32 → Int32 → St → Option (Int32 × St)} (hk41 : ∀ x1 x2 S, k41 x1 x2 S = some (r, S9) → PW mX5_slips (some (.int r), S9) 41 [some (.ref 41), some (.int x1), some (.int x2), none] [] S) {x1 : Int32} {x2 : Int32} {S : St} (h : fX5_slips_L88 k41 x1 x2 S = some (r, S9)) : PW mX5_slips (some (.int r), S9) 88 [some (.ref 41), some (.int x1), some (.int x2), none] [] S := by
  unfold fX5_slips_L88 at h
  refine p_aload_n (k := 53) (i := 0) rfl rfl rfl ?_
  refine p_iconst (k := 54) 0 rfl (by decide) ?_
  obtain ⟨_, S1, hcS1, h⟩ := cl_some h
  refine p_callV (k := 55) [.int 0] [] rfl (tX5_dayBut hcS1) lay_X5 rfl lc_X5_dayBut ml_RX5_142 mi_X5_dayBut mv_X5_dayBut (by decide) (by decide) (Nat.le_of_ble_eq_true rfl) rfl ?_
  obtain ⟨v1, ev1, h⟩ := bnd_ex h
  refine p_iinc (k := 56) v1 [some (.ref 41), some (.int x1), some (.int v1), none] rfl rfl (by rw [← ev1]; rfl) rfl (by decide) rfl ?_
  refine p_goto (k := 57) 41 rfl (by decide) ?_
  refine p_msk [true, true, true, false] (L2 := [some (.ref 41), some (.int x1), some (.int v1), none]) rfl ?_
  exact hk41 _ _ _ h
def fX5_slips_L41 : Nat → Int32 → Int32 → St → Option (Int32 × St)
  | 0 => fun _ _ _ => none
  | n + 1 => fun x1 x2 S =>
    if x1 ≤ x2 then
      cl (fX5_knownAll S) fun v1 S1 =>
      some (v1, S1)
    else
      cl (fX5_draw S) fun v2 S2 =>
      wr S2 42 75 (5 + (v2 - v2 / 12 * 12)) 0 fun S3 =>
      cl (fX5_draw S3) fun v3 S4 =>
      bnd (v3 - v3 / 8 * 8) fun v4 =>
      cl (fX5_isGoat v4 S4) fun v5 S5 =>
      if v5 = 0 then
        fX5_slips_L88 (fun x1 x2 S => fX5_slips_L41 n x1 x2 S) x1 x2 S5
      else
        cl (fX5_at v4 1 S5) fun v6 S6 =>
        wr S6 42 75 v6 0 fun S7 =>
        fX5_slips_L88 (fun x1 x2 S => fX5_slips_L41 n x1 x2 S) x1 x2 S7
theorem sX5_slips_L41 {r : Int32} {S9 : St} : ∀ (n : Nat) (x1 : Int32) (x2 : Int32) (S : St), fX5_slips_L41 n x1 x2 S = some (r, S9) → PW mX5_slips (some (.int r), S9) 41 [some (.ref 41), some (.int x1), some (.int x2), none] [] S := by
  intro n
  induction n with
  | zero => intro x1 x2 S h; cases h
  | succ n ih =>
    intro x1 x2 S h
    unfold fX5_slips_L41 at h
    refine p_iload_n (k := 24) (i := 2) rfl rfl rfl ?_
    refine p_iload_n (k := 25) (i := 1) rfl rfl rfl ?_
    refine p_icmp_ge (k := 26) 99 rfl (by decide) (fun hc => ?_) (fun hc => ?_)
    · rw [if_pos hc] at h
      refine p_aload_n (k := 58) (i := 0) rfl rfl rfl ?_
      obtain ⟨v1, S1, hcS1, h⟩ := cl_some h
      refine p_callV (k := 59) [] [] rfl (tX5_knownAll hcS1) lay_X5 rfl lc_X5_knownAll ml_RX5_151 mi_X5_knownAll mv_X5_knownAll (by decide) (by decide) (Nat.le_of_ble_eq_true rfl) rfl ?_
      exact s_iret h (k := 60) rfl rfl
    · rw [if_neg hc] at h
      refine p_aload_n (k := 27) (i := 0) rfl rfl rfl ?_
      refine p_getr (k := 28) rfl lay_X5 rfl fl_RX5_7 ?_
      refine p_iconst (k := 29) 5 rfl (by decide) ?_
      refine p_aload_n (k := 30) (i := 0) rfl rfl rfl ?_
      obtain ⟨v2, S2, hcS2, h⟩ := cl_some h
      refine p_callV (k := 31) [] [.int 5, .ref 42] rfl (tX5_draw hcS2) lay_X5 rfl lc_X5_draw ml_RX5_202 mi_X5_draw mv_X5_draw (by decide) (by decide) (Nat.le_of_ble_eq_true rfl) rfl ?_
      refine p_bipush (k := 32) 12 rfl (by decide) ?_
      refine p_irem (k := 33) rfl (by decide) ?_
      refine p_iadd (k := 34) rfl ?_
      refine p_iconst (k := 35) 0 rfl (by decide) ?_
      refine s_wr h (k := 36) rfl lay_42 (fun S3 h => ?_)
      refine p_aload_n (k := 37) (i := 0) rfl rfl rfl ?_
      obtain ⟨v3, S4, hcS4, h⟩ := cl_some h
      refine p_callV (k := 38) [] [] rfl (tX5_draw hcS4) lay_X5 rfl lc_X5_draw ml_RX5_202 mi_X5_draw mv_X5_draw (by decide) (by decide) (Nat.le_of_ble_eq_true rfl) rfl ?_
      refine p_bipush (k := 39) 8 rfl (by decide) ?_
      refine p_irem (k := 40) rfl (by decide) ?_
      refine s_bnd h (fun v4 h => ?_)
      refine p_istore_n (k := 41) 3 [some (.ref 41), some (.int x1), some (.int x2), some (.int v4)] rfl rfl rfl (by decide) rfl ?_
      refine p_aload_n (k := 42) (i := 0) rfl rfl rfl ?_
      refine p_iload_n (k := 43) (i := 3) rfl rfl rfl ?_
      obtain ⟨v5, S5, hcS5, h⟩ := cl_some h
      refine p_callV (k := 44) [.int v4] [] rfl (tX5_isGoat hcS5) lay_X5 rfl lc_X5_isGoat ml_RX5_95 mi_X5_isGoat mv_X5_isGoat (by decide) (by decide) (Nat.le_of_ble_eq_true rfl) rfl ?_
      refine p_if_eq (k := 45) 88 rfl (by decide) (fun hc => ?_) (fun hc => ?_)
      · rw [if_pos hc] at h
        refine p_msk [true, true, true, false] (L2 := [some (.ref 41), some (.int x1), some (.int x2), none]) rfl ?_
        exact sX5_slips_L88 ih h
      · rw [if_neg hc] at h
        refine p_aload_n (k := 46) (i := 0) rfl rfl rfl ?_
        refine p_getr (k := 47) rfl lay_X5 rfl fl_RX5_7 ?_
        refine p_iload_n (k := 48) (i := 3) rfl rfl rfl ?_
        refine p_iconst (k := 49) 1 rfl (by decide) ?_
        obtain ⟨v6, S6, hcS6, h⟩ := cl_some h
        refine p_callS (k := 50) [.int v4, .int 1] [.ref 42] rfl (tX5_at hcS6) lc_X5_at ml_RX5_72 ms_X5_at (by decide) (by decide) (Nat.le_of_ble_eq_true rfl) rfl ?_
        refine p_iconst (k := 51) 0 rfl (by decide) ?_
        refine s_wr h (k := 52) rfl lay_42 (fun S7 h => ?_)
        refine p_msk [true, true, true, false] (L2 := [some (.ref 41), some (.int x1), some (.int x2), none]) rfl ?_
        exact sX5_slips_L88 ih h
def fX5_slips (a1 : Int32) (S : St) : Option (Int32 × St) :=
  cl (fX5_isIn (Int32.toInt64 a1) 1 20 S) fun v1 S1 =>
  if v1 = 0 then
    cl (fX5_finds (-1000001) S1) fun v4 S3 =>
    some (v4, S3)
  else
    rd S1 42 75 1 fun v2 =>
    if (v2 + a1) ≤ 99999 then
      fX5_slips_L41 FU a1 0 S1
    else
      cl (fX5_finds (-1000005) S1) fun v3 S2 =>
      some (v3, S2)
theorem sX5_slips {a1 : Int32} {S : St} {r : Int32} {S9 : St} (h : fX5_slips a1 S = some (r, S9)) : PW mX5_slips (some (.int r), S9) 0 [some (.ref 41), some (.int a1), none, none] [] S := by
  unfold fX5_slips at h
  refine p_iload_n (k := 0) (i := 1) rfl rfl rfl ?_
  refine p_i2l (k := 1) rfl ?_
  refine p_lconst (k := 2) 1 rfl (by decide) ?_
  refine p_ldc2 (k := 3) rfl k_RX5_68 ?_
  obtain ⟨v1, S1, hcS1, h⟩ := cl_some h
  refine p_callS (k := 4) [.long (Int32.toInt64 a1), .long 1, .long 20] [] rfl (tX5_isIn hcS1) lc_X5_isIn ml_RX5_49 ms_X5_isIn (by decide) (by decide) (Nat.le_of_ble_eq_true rfl) rfl ?_
  refine p_if_ne (k := 5) 19 rfl (by decide) (fun hc => ?_) (fun hc => ?_)
  · rw [if_neg hc] at h
    refine p_aload_n (k := 10) (i := 0) rfl rfl rfl ?_
    refine p_getr (k := 11) rfl lay_X5 rfl fl_RX5_7 ?_
    refine p_iconst (k := 12) 1 rfl (by decide) ?_
    refine s_rd h (k := 13) rfl lay_42 (fun v2 h => ?_)
    refine p_iload_n (k := 14) (i := 1) rfl rfl rfl ?_
    refine p_iadd (k := 15) rfl ?_
    refine p_ldc (k := 16) rfl k_RX5_147 ?_
    refine p_icmp_le (k := 17) 39 rfl (by decide) (fun hc => ?_) (fun hc => ?_)
    · rw [if_pos hc] at h
      refine p_iconst (k := 22) 0 rfl (by decide) ?_
      refine p_istore_n (k := 23) 2 [some (.ref 41), some (.int a1), some (.int 0), none] rfl rfl rfl (by decide) rfl ?_
      refine p_msk [true, true, true, false] (L2 := [some (.ref 41), some (.int a1), some (.int 0), none]) rfl ?_
      exact sX5_slips_L41 _ _ _ _ h
    · rw [if_neg hc] at h
      refine p_aload_n (k := 18) (i := 0) rfl rfl rfl ?_
      refine p_ldc (k := 19) rfl k_RX5_124 ?_
      obtain ⟨v3, S2, hcS2, h⟩ := cl_some h
      refine p_callV (k := 20) [.int (-1000005)] [] rfl (tX5_finds hcS2) lay_X5 rfl lc_X5_finds ml_RX5_39 mi_X5_finds mv_X5_finds (by decide) (by decide) (Nat.le_of_ble_eq_true rfl) rfl ?_
      exact s_iret h (k := 21) rfl rfl
  · rw [if_pos hc] at h
    refine p_aload_n (k := 6) (i := 0) rfl rfl rfl ?_
    refine p_ldc (k := 7) rfl k_RX5_37 ?_
    obtain ⟨v4, S3, hcS3, h⟩ := cl_some h
    refine p_callV (k := 8) [.int (-1000001)] [] rfl (tX5_finds hcS3) lay_X5 rfl lc_X5_finds ml_RX5_39 mi_X5_finds mv_X5_finds (by decide) (by decide) (Nat.le_of_ble_eq_true rfl) rfl ?_
    exact s_iret h (k := 9) rfl rfl
theorem tX5_slips {a1 : Int32} {S : St} {r : Int32} {S9 : St} (h : fX5_slips a1 S = some (r, S9)) : MR yX5_slips cX5_slips mX5_slips [.ref 41, .int a1] S (some (.int r), S9) := MR.of (n := 2) okX5_slips rfl rfl (sX5_slips h)
-- odds(II)J
def fX5_odds_L22 (S : St) : Option (Int64 × St) :=
  cl (fX5_finds (-1000001) S) fun v1 S1 =>
  some (Int32.toInt64 v1, S1)
theorem sX5_odds_L22 {r : Int64} {S9 : St}  {S : St} (h : fX5_odds_L22 S = some (r, S9)) : PW mX5_odds (some (.long r), S9) 22 [some (.ref 41), none, none, none, none, none, none, none, none] [] S := by
  unfold fX5_odds_L22 at h
  refine p_aload_n (k := 12) (i := 0) rfl rfl rfl ?_
  refine p_ldc (k := 13) rfl k_RX5_37 ?_
  obtain ⟨v1, S1, hcS1, h⟩ := cl_some h
  refine p_callV (k := 14) [.int (-1000001)] [] rfl (tX5_finds hcS1) lay_X5 rfl lc_X5_finds ml_RX5_39 mi_X5_finds mv_X5_finds (by decide) (by decide) (Nat.le_of_ble_eq_true rfl) rfl ?_
  refine p_i2l (k := 15) rfl ?_
  exact s_lret h (k := 16) rfl rfl
def fX5_odds_L135 (y0 : Int64) (S : St) : Option (Int64 × St) :=
  some (y0, S)
theorem sX5_odds_L135 {r : Int64} {S9 : St} {y0 : Int64} {S : St} (h : fX5_odds_L135 y0 S = some (r, S9)) : PW mX5_odds (some (.long r), S9) 135 [none, none, none, none, none, none, none, none, none] [.long y0] S := by
  unfold fX5_odds_L135 at h
  exact s_lret h (k := 75) rfl rfl
def fX5_odds_L125 (x2 : Int32) (x3 : Int64) (x5 : Int64) (S : St) : Option (Int64 × St) :=
  if x2 = 0 then
    fX5_odds_L135 x3 S
  else
    fX5_odds_L135 x5 S
theorem sX5_odds_L125 {r : Int64} {S9 : St} {x2 : Int32} {x3 : Int64} {x5 : Int64} {S : St} (h : fX5_odds_L125 x2 x3 x5 S = some (r, S9)) : PW mX5_odds (some (.long r), S9) 125 [none, none, some (.int x2), some (.long x3), none, some (.long x5), none, none, none] [] S := by
  unfold fX5_odds_L125 at h
  refine p_iload_n (k := 70) (i := 2) rfl rfl rfl ?_
  refine p_if_ne (k := 71) 133 rfl (by decide) (fun hc => ?_) (fun hc => ?_)
  · rw [if_neg hc] at h
    refine p_lload (k := 74) rfl rfl ?_
    refine p_msk [false, false, false, false, false, false, false, false, false] (L2 := [none, none, none, none, none, none, none, none, none]) rfl ?_
    exact sX5_odds_L135 h
  · rw [if_pos hc] at h
    refine p_lload_n (k := 72) (i := 3) rfl rfl rfl ?_
    refine p_goto (k := 73) 135 rfl (by decide) ?_
    refine p_msk [false, false, false, false, false, false, false, false, false] (L2 := [none, none, none, none, none, none, none, none, none]) rfl ?_
    exact sX5_odds_L135 h
def fX5_odds_L87 : Nat → Int32 → Int64 → Int64 → St → Option (Int64 × St)
  | 0 => fun _ _ _ _ => none
  | n + 1 => fun x2 x3 x5 S =>
    if (lg_cmp (x3 - x3 / 2 * 2) 0) = 0 then
      if (lg_cmp (x5 - x5 / 2 * 2) 0) = 0 then
        bnd (x3 / 2) fun v1 =>
        bnd (x5 / 2) fun v2 =>
        fX5_odds_L87 n x2 v1 v2 S
      else
        fX5_odds_L125 x2 x3 x5 S
    else
      fX5_odds_L125 x2 x3 x5 S
theorem sX5_odds_L87 {r : Int64} {S9 : St} : ∀ (n : Nat) (x2 : Int32) (x3 : Int64) (x5 : Int64) (S : St), fX5_odds_L87 n x2 x3 x5 S = some (r, S9) → PW mX5_odds (some (.long r), S9) 87 [none, none, some (.int x2), some (.long x3), none, some (.long x5), none, none, none] [] S := by
  intro n
  induction n with
  | zero => intro x2 x3 x5 S h; cases h
  | succ n ih =>
    intro x2 x3 x5 S h
    unfold fX5_odds_L87 at h
    refine p_lload_n (k := 49) (i := 3) rfl rfl rfl ?_
    refine p_ldc2 (k := 50) rfl k_RX5_63 ?_
    refine p_lrem (k := 51) rfl (by decide) ?_
    refine p_lconst (k := 52) 0 rfl (by decide) ?_
    refine p_lcmp (k := 53) rfl ?_
    refine p_if_ne (k := 54) 125 rfl (by decide) (fun hc => ?_) (fun hc => ?_)
    · rw [if_neg hc] at h
      refine p_msk [false, false, true, true, false, true, false, false, false] (L2 := [none, none, some (.int x2), some (.long x3), none, some (.long x5), none, none, none]) rfl ?_
      exact sX5_odds_L125 h
    · rw [if_pos hc] at h
      refine p_lload (k := 55) rfl rfl ?_
      refine p_ldc2 (k := 56) rfl k_RX5_63 ?_
      refine p_lrem (k := 57) rfl (by decide) ?_
      refine p_lconst (k := 58) 0 rfl (by decide) ?_
      refine p_lcmp (k := 59) rfl ?_
      refine p_if_ne (k := 60) 125 rfl (by decide) (fun hc => ?_) (fun hc => ?_)
      · rw [if_neg hc] at h
        refine p_msk [false, false, true, true, false, true, false, false, false] (L2 := [none, none, some (.int x2), some (.long x3), none, some (.long x5), none, none, none]) rfl ?_
        exact sX5_odds_L125 h
      · rw [if_pos hc] at h
        refine p_lload_n (k := 61) (i := 3) rfl rfl rfl ?_
        refine p_ldc2 (k := 62) rfl k_RX5_63 ?_
        refine p_ldiv (k := 63) rfl (by decide) ?_
        refine s_bndL h (fun v1 h => ?_)
        refine p_lstore_n (k := 64) 3 [none, none, some (.int x2), some (.long v1), none, some (.long x5), none, none, none] rfl rfl rfl (by decide) rfl ?_
        refine p_lload (k := 65) rfl rfl ?_
        refine p_ldc2 (k := 66) rfl k_RX5_63 ?_
        refine p_ldiv (k := 67) rfl (by decide) ?_
        refine s_bndL h (fun v2 h => ?_)
        refine p_lstore (k := 68) [none, none, some (.int x2), some (.long v1), none, some (.long v2), none, none, none] rfl rfl (by decide) rfl ?_
        refine p_goto (k := 69) 87 rfl (by decide) ?_
        refine p_msk [false, false, true, true, false, true, false, false, false] (L2 := [none, none, some (.int x2), some (.long v1), none, some (.long v2), none, none, none]) rfl ?_
        exact ih _ _ _ _ h
def fX5_odds_L85 (x2 : Int32) (x3 : Int64) (y0 : Int64) (S : St) : Option (Int64 × St) :=
  fX5_odds_L87 FU x2 x3 y0 S
theorem sX5_odds_L85 {r : Int64} {S9 : St} {x2 : Int32} {x3 : Int64} {y0 : Int64} {S : St} (h : fX5_odds_L85 x2 x3 y0 S = some (r, S9)) : PW mX5_odds (some (.long r), S9) 85 [none, none, some (.int x2), some (.long x3), none, none, none, none, none] [.long y0] S := by
  unfold fX5_odds_L85 at h
  refine p_lstore (k := 48) [none, none, some (.int x2), some (.long x3), none, some (.long y0), none, none, none] rfl rfl (by decide) rfl ?_
  refine p_msk [false, false, true, true, false, true, false, false, false] (L2 := [none, none, some (.int x2), some (.long x3), none, some (.long y0), none, none, none]) rfl ?_
  exact sX5_odds_L87 _ _ _ _ _ h
def fX5_odds_L47 : Nat → Int32 → Int32 → Int64 → Int64 → Int32 → Int32 → St → Option (Int64 × St)
  | 0 => fun _ _ _ _ _ _ _ => none
  | n + 1 => fun x1 x2 x3 x5 x7 x8 S =>
    if x1 ≤ x8 then
      if (lg_cmp x3 0) = 0 then
        fX5_odds_L85 x2 x3 1 S
      else
        fX5_odds_L85 x2 x3 x5 S
    else
      bnd (x3 * (Int32.toInt64 x7)) fun v1 =>
      bnd (x5 * 16) fun v2 =>
      bnd (x8 + 1) fun v3 =>
      fX5_odds_L47 n x1 x2 v1 v2 x7 v3 S
theorem sX5_odds_L47 {r : Int64} {S9 : St} : ∀ (n : Nat) (x1 : Int32) (x2 : Int32) (x3 : Int64) (x5 : Int64) (x7 : Int32) (x8 : Int32) (S : St), fX5_odds_L47 n x1 x2 x3 x5 x7 x8 S = some (r, S9) → PW mX5_odds (some (.long r), S9) 47 [none, some (.int x1), some (.int x2), some (.long x3), none, some (.long x5), none, some (.int x7), some (.int x8)] [] S := by
  intro n
  induction n with
  | zero => intro x1 x2 x3 x5 x7 x8 S h; cases h
  | succ n ih =>
    intro x1 x2 x3 x5 x7 x8 S h
    unfold fX5_odds_L47 at h
    refine p_iload (k := 27) rfl rfl ?_
    refine p_iload_n (k := 28) (i := 1) rfl rfl rfl ?_
    refine p_icmp_ge (k := 29) 73 rfl (by decide) (fun hc => ?_) (fun hc => ?_)
    · rw [if_pos hc] at h
      refine p_lload_n (k := 41) (i := 3) rfl rfl rfl ?_
      refine p_lconst (k := 42) 0 rfl (by decide) ?_
      refine p_lcmp (k := 43) rfl ?_
      refine p_if_ne (k := 44) 83 rfl (by decide) (fun hc => ?_) (fun hc => ?_)
      · rw [if_neg hc] at h
        refine p_lload (k := 47) rfl rfl ?_
        refine p_msk [false, false, true, true, false, false, false, false, false] (L2 := [none, none, some (.int x2), some (.long x3), none, none, none, none, none]) rfl ?_
        exact sX5_odds_L85 h
      · rw [if_pos hc] at h
        refine p_lconst (k := 45) 1 rfl (by decide) ?_
        refine p_goto (k := 46) 85 rfl (by decide) ?_
        refine p_msk [false, false, true, true, false, false, false, false, false] (L2 := [none, none, some (.int x2), some (.long x3), none, none, none, none, none]) rfl ?_
        exact sX5_odds_L85 h
    · rw [if_neg hc] at h
      refine p_lload_n (k := 30) (i := 3) rfl rfl rfl ?_
      refine p_iload (k := 31) rfl rfl ?_
      refine p_i2l (k := 32) rfl ?_
      refine p_lmul (k := 33) rfl ?_
      refine s_bndL h (fun v1 h => ?_)
      refine p_lstore_n (k := 34) 3 [none, some (.int x1), some (.int x2), some (.long v1), none, some (.long x5), none, some (.int x7), some (.int x8)] rfl rfl rfl (by decide) rfl ?_
      refine p_lload (k := 35) rfl rfl ?_
      refine p_ldc2 (k := 36) rfl k_RX5_207 ?_
      refine p_lmul (k := 37) rfl ?_
      refine s_bndL h (fun v2 h => ?_)
      refine p_lstore (k := 38) [none, some (.int x1), some (.int x2), some (.long v1), none, some (.long v2), none, some (.int x7), some (.int x8)] rfl rfl (by decide) rfl ?_
      obtain ⟨v3, ev3, h⟩ := bnd_ex h
      refine p_iinc (k := 39) v3 [none, some (.int x1), some (.int x2), some (.long v1), none, some (.long v2), none, some (.int x7), some (.int v3)] rfl rfl (by rw [← ev3]; rfl) rfl (by decide) rfl ?_
      refine p_goto (k := 40) 47 rfl (by decide) ?_
      refine p_msk [false, true, true, true, false, true, false, true, true] (L2 := [none, some (.int x1), some (.int x2), some (.long v1), none, some (.long v2), none, some (.int x7), some (.int v3)]) rfl ?_
      exact ih _ _ _ _ _ _ _ h
def fX5_odds (a1 : Int32) (a2 : Int32) (S : St) : Option (Int64 × St) :=
  cl (fX5_isIn (Int32.toInt64 a1) 0 15 S) fun v1 S1 =>
  if v1 = 0 then
    fX5_odds_L22 S1
  else
    cl (fX5_isIn (Int32.toInt64 a2) 0 1 S1) fun v2 S2 =>
    if v2 = 0 then
      fX5_odds_L22 S2
    else
      cl (fX5_knownAll S2) fun v3 S3 =>
      cl (fX5_many v3 S3) fun v4 S4 =>
      fX5_odds_L47 FU a1 a2 1 1 v4 0 S4
theorem sX5_odds {a1 : Int32} {a2 : Int32} {S : St} {r : Int64} {S9 : St} (h : fX5_odds a1 a2 S = some (r, S9)) : PW mX5_odds (some (.long r), S9) 0 [some (.ref 41), some (.int a1), some (.int a2), none, none, none, none, none, none] [] S := by
  unfold fX5_odds at h
  refine p_iload_n (k := 0) (i := 1) rfl rfl rfl ?_
  refine p_i2l (k := 1) rfl ?_
  refine p_lconst (k := 2) 0 rfl (by decide) ?_
  refine p_ldc2 (k := 3) rfl k_RX5_205 ?_
  obtain ⟨v1, S1, hcS1, h⟩ := cl_some h
  refine p_callS (k := 4) [.long (Int32.toInt64 a1), .long 0, .long 15] [] rfl (tX5_isIn hcS1) lc_X5_isIn ml_RX5_49 ms_X5_isIn (by decide) (by decide) (Nat.le_of_ble_eq_true rfl) rfl ?_
  refine p_if_eq (k := 5) 22 rfl (by decide) (fun hc => ?_) (fun hc => ?_)
  · rw [if_pos hc] at h
    refine p_msk [true, false, false, false, false, false, false, false, false] (L2 := [some (.ref 41), none, none, none, none, none, none, none, none]) rfl ?_
    exact sX5_odds_L22 h
  · rw [if_neg hc] at h
    refine p_iload_n (k := 6) (i := 2) rfl rfl rfl ?_
    refine p_i2l (k := 7) rfl ?_
    refine p_lconst (k := 8) 0 rfl (by decide) ?_
    refine p_lconst (k := 9) 1 rfl (by decide) ?_
    obtain ⟨v2, S2, hcS2, h⟩ := cl_some h
    refine p_callS (k := 10) [.long (Int32.toInt64 a2), .long 0, .long 1] [] rfl (tX5_isIn hcS2) lc_X5_isIn ml_RX5_49 ms_X5_isIn (by decide) (by decide) (Nat.le_of_ble_eq_true rfl) rfl ?_
    refine p_if_ne (k := 11) 30 rfl (by decide) (fun hc => ?_) (fun hc => ?_)
    · rw [if_neg hc] at h
      refine p_lconst (k := 17) 1 rfl (by decide) ?_
      refine p_lstore_n (k := 18) 3 [some (.ref 41), some (.int a1), some (.int a2), some (.long 1), none, none, none, none, none] rfl rfl rfl (by decide) rfl ?_
      refine p_lconst (k := 19) 1 rfl (by decide) ?_
      refine p_lstore (k := 20) [some (.ref 41), some (.int a1), some (.int a2), some (.long 1), none, some (.long 1), none, none, none] rfl rfl (by decide) rfl ?_
      refine p_aload_n (k := 21) (i := 0) rfl rfl rfl ?_
      obtain ⟨v3, S3, hcS3, h⟩ := cl_some h
      refine p_callV (k := 22) [] [] rfl (tX5_knownAll hcS3) lay_X5 rfl lc_X5_knownAll ml_RX5_151 mi_X5_knownAll mv_X5_knownAll (by decide) (by decide) (Nat.le_of_ble_eq_true rfl) rfl ?_
      obtain ⟨v4, S4, hcS4, h⟩ := cl_some h
      refine p_callS (k := 23) [.int v3] [] rfl (tX5_many hcS4) lc_X5_many ml_RX5_86 ms_X5_many (by decide) (by decide) (Nat.le_of_ble_eq_true rfl) rfl ?_
      refine p_istore (k := 24) [some (.ref 41), some (.int a1), some (.int a2), some (.long 1), none, some (.long 1), none, some (.int v4), none] rfl rfl (by decide) rfl ?_
      refine p_iconst (k := 25) 0 rfl (by decide) ?_
      refine p_istore (k := 26) [some (.ref 41), some (.int a1), some (.int a2), some (.long 1), none, some (.long 1), none, some (.int v4), some (.int 0)] rfl rfl (by decide) rfl ?_
      refine p_msk [false, true, true, true, false, true, false, true, true] (L2 := [none, some (.int a1), some (.int a2), some (.long 1), none, some (.long 1), none, some (.int v4), some (.int 0)]) rfl ?_
      exact sX5_odds_L47 _ _ _ _ _ _ _ _ h
    · rw [if_pos hc] at h
      refine p_msk [true, false, false, false, false, false, false, false, false] (L2 := [some (.ref 41), none, none, none, none, none, none, none, none]) rfl ?_
      exact sX5_odds_L22 h
theorem tX5_odds {a1 : Int32} {a2 : Int32} {S : St} {r : Int64} {S9 : St} (h : fX5_odds a1 a2 S = some (r, S9)) : MR yX5_odds cX5_odds mX5_odds [.ref 41, .int a1, .int a2] S (some (.long r), S9) := MR.of (n := 6) okX5_odds rfl rfl (sX5_odds h)
-- seed(I)I
def fX5_seed (a1 : Int32) (S : St) : Option (Int32 × St) :=
  cl (fX5_becomes 2 a1 S) fun v1 S1 =>
  some (v1, S1)
theorem sX5_seed {a1 : Int32} {S : St} {r : Int32} {S9 : St} (h : fX5_seed a1 S = some (r, S9)) : PW mX5_seed (some (.int r), S9) 0 [some (.ref 41), some (.int a1)] [] S := by
  unfold fX5_seed at h
  refine p_aload_n (k := 0) (i := 0) rfl rfl rfl ?_
  refine p_iconst (k := 1) 2 rfl (by decide) ?_
  refine p_iload_n (k := 2) (i := 1) rfl rfl rfl ?_
  obtain ⟨v1, S1, hcS1, h⟩ := cl_some h
  refine p_callV (k := 3) [.int 2, .int a1] [] rfl (tX5_becomes hcS1) lay_X5 rfl lc_X5_becomes ml_RX5_53 mi_X5_becomes mv_X5_becomes (by decide) (by decide) (Nat.le_of_ble_eq_true rfl) rfl ?_
  exact s_iret h (k := 4) rfl rfl
theorem tX5_seed {a1 : Int32} {S : St} {r : Int32} {S9 : St} (h : fX5_seed a1 S = some (r, S9)) : MR yX5_seed cX5_seed mX5_seed [.ref 41, .int a1] S (some (.int r), S9) := MR.of (n := 0) okX5_seed rfl rfl (sX5_seed h)
-- feed(II)I
def fX5_feed_L41 : Nat → Int32 → Int32 → St → Option (Int32 × St)
  | 0 => fun _ _ _ => none
  | n + 1 => fun x1 x3 S =>
    if x3 < 0 then
      some (S 41 7, S)
    else
      wr S 47 120 (S 41 7) ((x1 >>> ((8 * x3) &&& 31)) &&& 255) fun S1 =>
      bnd (up2 S1 41 7 ((S1 41 7) + 1)) fun S2 =>
      bnd (x3 + (-1)) fun v1 =>
      fX5_feed_L41 n x1 v1 S2
theorem sX5_feed_L41 {r : Int32} {S9 : St} : ∀ (n : Nat) (x1 : Int32) (x3 : Int32) (S : St), fX5_feed_L41 n x1 x3 S = some (r, S9) → PW mX5_feed (some (.int r), S9) 41 [some (.ref 41), some (.int x1), none, some (.int x3)] [] S := by
  intro n
  induction n with
  | zero => intro x1 x3 S h; cases h
  | succ n ih =>
    intro x1 x3 S h
    unfold fX5_feed_L41 at h
    refine p_iload_n (k := 24) (i := 3) rfl rfl rfl ?_
    refine p_if_lt (k := 25) 80 rfl (by decide) (fun hc => ?_) (fun hc => ?_)
    · rw [if_pos hc] at h
      refine p_aload_n (k := 46) (i := 0) rfl rfl rfl ?_
      refine p_geti (k := 47) rfl lay_X5 rfl fl_RX5_209 ?_
      exact s_iret h (k := 48) rfl rfl
    · rw [if_neg hc] at h
      refine p_aload_n (k := 26) (i := 0) rfl rfl rfl ?_
      refine p_getr (k := 27) rfl lay_X5 rfl fl_RX5_25 ?_
      refine p_aload_n (k := 28) (i := 0) rfl rfl rfl ?_
      refine p_geti (k := 29) rfl lay_X5 rfl fl_RX5_209 ?_
      refine p_iload_n (k := 30) (i := 1) rfl rfl rfl ?_
      refine p_bipush (k := 31) 8 rfl (by decide) ?_
      refine p_iload_n (k := 32) (i := 3) rfl rfl rfl ?_
      refine p_imul (k := 33) rfl ?_
      refine p_ishr (k := 34) rfl ?_
      refine p_sipush (k := 35) 255 rfl (by decide) ?_
      refine p_iand (k := 36) rfl ?_
      refine s_wr h (k := 37) rfl lay_47 (fun S1 h => ?_)
      refine p_aload_n (k := 38) (i := 0) rfl rfl rfl ?_
      refine p_dup (k := 39) rfl rfl ?_
      refine p_geti (k := 40) rfl lay_X5 rfl fl_RX5_209 ?_
      refine p_iconst (k := 41) 1 rfl (by decide) ?_
      refine p_iadd (k := 42) rfl ?_
      refine s_put h (k := 43) rfl lay_X5 rfl fl_RX5_209 fp_5_7 rfl rfl (fun S2 h => ?_)
      obtain ⟨v1, ev1, h⟩ := bnd_ex h
      refine p_iinc (k := 44) v1 [some (.ref 41), some (.int x1), none, some (.int v1)] rfl rfl (by rw [← ev1]; rfl) rfl (by decide) rfl ?_
      refine p_goto (k := 45) 41 rfl (by decide) ?_
      refine p_msk [true, true, false, true] (L2 := [some (.ref 41), some (.int x1), none, some (.int v1)]) rfl ?_
      exact ih _ _ _ h
def fX5_feed (a1 : Int32) (a2 : Int32) (S : St) : Option (Int32 × St) :=
  cl (fX5_isIn (Int32.toInt64 a2) 1 4 S) fun v1 S1 =>
  if v1 = 0 then
    cl (fX5_finds (-1000001) S1) fun v4 S3 =>
    some (v4, S3)
  else
    if ((S1 41 7) + a2) ≤ 120 then
      bnd (a2 - 1) fun v2 =>
      fX5_feed_L41 FU a1 v2 S1
    else
      cl (fX5_finds (-1000002) S1) fun v3 S2 =>
      some (v3, S2)
theorem sX5_feed {a1 : Int32} {a2 : Int32} {S : St} {r : Int32} {S9 : St} (h : fX5_feed a1 a2 S = some (r, S9)) : PW mX5_feed (some (.int r), S9) 0 [some (.ref 41), some (.int a1), some (.int a2), none] [] S := by
  unfold fX5_feed at h
  refine p_iload_n (k := 0) (i := 2) rfl rfl rfl ?_
  refine p_i2l (k := 1) rfl ?_
  refine p_lconst (k := 2) 1 rfl (by decide) ?_
  refine p_ldc2 (k := 3) rfl k_RX5_168 ?_
  obtain ⟨v1, S1, hcS1, h⟩ := cl_some h
  refine p_callS (k := 4) [.long (Int32.toInt64 a2), .long 1, .long 4] [] rfl (tX5_isIn hcS1) lc_X5_isIn ml_RX5_49 ms_X5_isIn (by decide) (by decide) (Nat.le_of_ble_eq_true rfl) rfl ?_
  refine p_if_ne (k := 5) 19 rfl (by decide) (fun hc => ?_) (fun hc => ?_)
  · rw [if_neg hc] at h
    refine p_aload_n (k := 10) (i := 0) rfl rfl rfl ?_
    refine p_geti (k := 11) rfl lay_X5 rfl fl_RX5_209 ?_
    refine p_iload_n (k := 12) (i := 2) rfl rfl rfl ?_
    refine p_iadd (k := 13) rfl ?_
    refine p_bipush (k := 14) 120 rfl (by decide) ?_
    refine p_icmp_le (k := 15) 37 rfl (by decide) (fun hc => ?_) (fun hc => ?_)
    · rw [if_pos hc] at h
      refine p_iload_n (k := 20) (i := 2) rfl rfl rfl ?_
      refine p_iconst (k := 21) 1 rfl (by decide) ?_
      refine p_isub (k := 22) rfl ?_
      refine s_bnd h (fun v2 h => ?_)
      refine p_istore_n (k := 23) 3 [some (.ref 41), some (.int a1), some (.int a2), some (.int v2)] rfl rfl rfl (by decide) rfl ?_
      refine p_msk [true, true, false, true] (L2 := [some (.ref 41), some (.int a1), none, some (.int v2)]) rfl ?_
      exact sX5_feed_L41 _ _ _ _ h
    · rw [if_neg hc] at h
      refine p_aload_n (k := 16) (i := 0) rfl rfl rfl ?_
      refine p_ldc (k := 17) rfl k_RX5_77 ?_
      obtain ⟨v3, S2, hcS2, h⟩ := cl_some h
      refine p_callV (k := 18) [.int (-1000002)] [] rfl (tX5_finds hcS2) lay_X5 rfl lc_X5_finds ml_RX5_39 mi_X5_finds mv_X5_finds (by decide) (by decide) (Nat.le_of_ble_eq_true rfl) rfl ?_
      exact s_iret h (k := 19) rfl rfl
  · rw [if_pos hc] at h
    refine p_aload_n (k := 6) (i := 0) rfl rfl rfl ?_
    refine p_ldc (k := 7) rfl k_RX5_37 ?_
    obtain ⟨v4, S3, hcS3, h⟩ := cl_some h
    refine p_callV (k := 8) [.int (-1000001)] [] rfl (tX5_finds hcS3) lay_X5 rfl lc_X5_finds ml_RX5_39 mi_X5_finds mv_X5_finds (by decide) (by decide) (Nat.le_of_ble_eq_true rfl) rfl ?_
    exact s_iret h (k := 9) rfl rfl
theorem tX5_feed {a1 : Int32} {a2 : Int32} {S : St} {r : Int32} {S9 : St} (h : fX5_feed a1 a2 S = some (r, S9)) : MR yX5_feed cX5_feed mX5_feed [.ref 41, .int a1, .int a2] S (some (.int r), S9) := MR.of (n := 1) okX5_feed rfl rfl (sX5_feed h)
-- wipe()I
def fX5_wipe (S : St) : Option (Int32 × St) :=
  bnd (S 41 7) fun v1 =>
  bnd (up2 S 41 7 0) fun S1 =>
  some (v1, S1)
theorem sX5_wipe {S : St} {r : Int32} {S9 : St} (h : fX5_wipe S = some (r, S9)) : PW mX5_wipe (some (.int r), S9) 0 [some (.ref 41), none] [] S := by
  unfold fX5_wipe at h
  refine p_aload_n (k := 0) (i := 0) rfl rfl rfl ?_
  refine p_geti (k := 1) rfl lay_X5 rfl fl_RX5_209 ?_
  refine s_bnd h (fun v1 h => ?_)
  refine p_istore_n (k := 2) 1 [some (.ref 41), some (.int v1)] rfl rfl rfl (by decide) rfl ?_
  refine p_aload_n (k := 3) (i := 0) rfl rfl rfl ?_
  refine p_iconst (k := 4) 0 rfl (by decide) ?_
  refine s_put h (k := 5) rfl lay_X5 rfl fl_RX5_209 fp_5_7 rfl rfl (fun S1 h => ?_)
  refine p_iload_n (k := 6) (i := 1) rfl rfl rfl ?_
  exact s_iret h (k := 7) rfl rfl
theorem tX5_wipe {S : St} {r : Int32} {S9 : St} (h : fX5_wipe S = some (r, S9)) : MR yX5_wipe cX5_wipe mX5_wipe [.ref 41] S (some (.int r), S9) := MR.of (n := 1) okX5_wipe rfl rfl (sX5_wipe h)
-- isLetter(I)Z
def fX5_isLetter_L17 (y0 : Int32) (S : St) : Option (Int32 × St) :=
  retN .boolean y0 S
theorem sX5_isLetter_L17 {r : Int32} {S9 : St} {y0 : Int32} {S : St} (h : fX5_isLetter_L17 y0 S = some (r, S9)) : PW mX5_isLetter (some (.int r), S9) 17 [none] [.int y0] S := by
  unfold fX5_isLetter_L17 at h
  exact s_zret h (k := 9) rfl rfl
def fX5_isLetter_L16 (S : St) : Option (Int32 × St) :=
  fX5_isLetter_L17 0 S
theorem sX5_isLetter_L16 {r : Int32} {S9 : St}  {S : St} (h : fX5_isLetter_L16 S = some (r, S9)) : PW mX5_isLetter (some (.int r), S9) 16 [none] [] S := by
  unfold fX5_isLetter_L16 at h
  refine p_iconst (k := 8) 0 rfl (by decide) ?_
  refine p_msk [false] (L2 := [none]) rfl ?_
  exact sX5_isLetter_L17 h
def fX5_isLetter (a1 : Int32) (S : St) : Option (Int32 × St) :=
  if a1 < 97 then
    fX5_isLetter_L16 S
  else
    if 122 < a1 then
      fX5_isLetter_L16 S
    else
      fX5_isLetter_L17 1 S
theorem sX5_isLetter {a1 : Int32} {S : St} {r : Int32} {S9 : St} (h : fX5_isLetter a1 S = some (r, S9)) : PW mX5_isLetter (some (.int r), S9) 0 [some (.int a1)] [] S := by
  unfold fX5_isLetter at h
  refine p_iload_n (k := 0) (i := 0) rfl rfl rfl ?_
  refine p_bipush (k := 1) 97 rfl (by decide) ?_
  refine p_icmp_lt (k := 2) 16 rfl (by decide) (fun hc => ?_) (fun hc => ?_)
  · rw [if_pos hc] at h
    refine p_msk [false] (L2 := [none]) rfl ?_
    exact sX5_isLetter_L16 h
  · rw [if_neg hc] at h
    refine p_iload_n (k := 3) (i := 0) rfl rfl rfl ?_
    refine p_bipush (k := 4) 122 rfl (by decide) ?_
    refine p_icmp_gt (k := 5) 16 rfl (by decide) (fun hc => ?_) (fun hc => ?_)
    · rw [if_pos hc] at h
      refine p_msk [false] (L2 := [none]) rfl ?_
      exact sX5_isLetter_L16 h
    · rw [if_neg hc] at h
      refine p_iconst (k := 6) 1 rfl (by decide) ?_
      refine p_goto (k := 7) 17 rfl (by decide) ?_
      refine p_msk [false] (L2 := [none]) rfl ?_
      exact sX5_isLetter_L17 h
theorem tX5_isLetter {a1 : Int32} {S : St} {r : Int32} {S9 : St} (h : fX5_isLetter a1 S = some (r, S9)) : MR yX5_isLetter cX5_isLetter mX5_isLetter [.int a1] S (some (.int r), S9) := MR.of (n := 0) okX5_isLetter rfl rfl (sX5_isLetter h)
-- isDigit(I)Z
def fX5_isDigit_L17 (y0 : Int32) (S : St) : Option (Int32 × St) :=
  retN .boolean y0 S
theorem sX5_isDigit_L17 {r : Int32} {S9 : St} {y0 : Int32} {S : St} (h : fX5_isDigit_L17 y0 S = some (r, S9)) : PW mX5_isDigit (some (.int r), S9) 17 [none] [.int y0] S := by
  unfold fX5_isDigit_L17 at h
  exact s_zret h (k := 9) rfl rfl
def fX5_isDigit_L16 (S : St) : Option (Int32 × St) :=
  fX5_isDigit_L17 0 S
theorem sX5_isDigit_L16 {r : Int32} {S9 : St}  {S : St} (h : fX5_isDigit_L16 S = some (r, S9)) : PW mX5_isDigit (some (.int r), S9) 16 [none] [] S := by
  unfold fX5_isDigit_L16 at h
  refine p_iconst (k := 8) 0 rfl (by decide) ?_
  refine p_msk [false] (L2 := [none]) rfl ?_
  exact sX5_isDigit_L17 h
def fX5_isDigit (a1 : Int32) (S : St) : Option (Int32 × St) :=
  if a1 < 48 then
    fX5_isDigit_L16 S
  else
    if 57 < a1 then
      fX5_isDigit_L16 S
    else
      fX5_isDigit_L17 1 S
theorem sX5_isDigit {a1 : Int32} {S : St} {r : Int32} {S9 : St} (h : fX5_isDigit a1 S = some (r, S9)) : PW mX5_isDigit (some (.int r), S9) 0 [some (.int a1)] [] S := by
  unfold fX5_isDigit at h
  refine p_iload_n (k := 0) (i := 0) rfl rfl rfl ?_
  refine p_bipush (k := 1) 48 rfl (by decide) ?_
  refine p_icmp_lt (k := 2) 16 rfl (by decide) (fun hc => ?_) (fun hc => ?_)
  · rw [if_pos hc] at h
    refine p_msk [false] (L2 := [none]) rfl ?_
    exact sX5_isDigit_L16 h
  · rw [if_neg hc] at h
    refine p_iload_n (k := 3) (i := 0) rfl rfl rfl ?_
    refine p_bipush (k := 4) 57 rfl (by decide) ?_
    refine p_icmp_gt (k := 5) 16 rfl (by decide) (fun hc => ?_) (fun hc => ?_)
    · rw [if_pos hc] at h
      refine p_msk [false] (L2 := [none]) rfl ?_
      exact sX5_isDigit_L16 h
    · rw [if_neg hc] at h
      refine p_iconst (k := 6) 1 rfl (by decide) ?_
      refine p_goto (k := 7) 17 rfl (by decide) ?_
      refine p_msk [false] (L2 := [none]) rfl ?_
      exact sX5_isDigit_L17 h
theorem tX5_isDigit {a1 : Int32} {S : St} {r : Int32} {S9 : St} (h : fX5_isDigit a1 S = some (r, S9)) : MR yX5_isDigit cX5_isDigit mX5_isDigit [.int a1] S (some (.int r), S9) := MR.of (n := 0) okX5_isDigit rfl rfl (sX5_isDigit h)
-- byteAt(I)I
def fX5_byteAt_L18 (y0 : Int32) (S : St) : Option (Int32 × St) :=
  some (y0, S)
theorem sX5_byteAt_L18 {r : Int32} {S9 : St} {y0 : Int32} {S : St} (h : fX5_byteAt_L18 y0 S = some (r, S9)) : PW mX5_byteAt (some (.int r), S9) 18 [none, none] [.int y0] S := by
  unfold fX5_byteAt_L18 at h
  exact s_iret h (k := 10) rfl rfl
def fX5_byteAt (a1 : Int32) (S : St) : Option (Int32 × St) :=
  if (S 41 7) ≤ a1 then
    fX5_byteAt_L18 (-1) S
  else
    rd S 47 120 a1 fun v1 =>
    fX5_byteAt_L18 v1 S
theorem sX5_byteAt {a1 : Int32} {S : St} {r : Int32} {S9 : St} (h : fX5_byteAt a1 S = some (r, S9)) : PW mX5_byteAt (some (.int r), S9) 0 [some (.ref 41), some (.int a1)] [] S := by
  unfold fX5_byteAt at h
  refine p_iload_n (k := 0) (i := 1) rfl rfl rfl ?_
  refine p_aload_n (k := 1) (i := 0) rfl rfl rfl ?_
  refine p_geti (k := 2) rfl lay_X5 rfl fl_RX5_209 ?_
  refine p_icmp_ge (k := 3) 17 rfl (by decide) (fun hc => ?_) (fun hc => ?_)
  · rw [if_pos hc] at h
    refine p_iconst (k := 9) (-1) rfl (by decide) ?_
    refine p_msk [false, false] (L2 := [none, none]) rfl ?_
    exact sX5_byteAt_L18 h
  · rw [if_neg hc] at h
    refine p_aload_n (k := 4) (i := 0) rfl rfl rfl ?_
    refine p_getr (k := 5) rfl lay_X5 rfl fl_RX5_25 ?_
    refine p_iload_n (k := 6) (i := 1) rfl rfl rfl ?_
    refine s_rd h (k := 7) rfl lay_47 (fun v1 h => ?_)
    refine p_goto (k := 8) 18 rfl (by decide) ?_
    refine p_msk [false, false] (L2 := [none, none]) rfl ?_
    exact sX5_byteAt_L18 h
theorem tX5_byteAt {a1 : Int32} {S : St} {r : Int32} {S9 : St} (h : fX5_byteAt a1 S = some (r, S9)) : MR yX5_byteAt cX5_byteAt mX5_byteAt [.ref 41, .int a1] S (some (.int r), S9) := MR.of (n := 0) okX5_byteAt rfl rfl (sX5_byteAt h)
-- nextToken()V
def fX5_nextToken_L194 (k136 : St → Option (Unit × St)) (y1 : Int32) (S : St) : Option (Unit × St) :=
  bnd (up2 S 41 14 y1) fun S1 =>
  bnd (up2 S1 41 13 ((S1 41 13) + 1)) fun S2 =>
  k136 S2
theorem sX5_nextToken_L194 {r : Unit} {S9 : St} {k136 : St → Option (Unit × St)} (hk136 : ∀  S, k136  S = some (r, S9) → PW mX5_nextToken (none, S9) 136 [some (.ref 41), none] [] S) {y1 : Int32} {S : St} (h : fX5_nextToken_L194 k136 y1 S = some (r, S9)) : PW mX5_nextToken (none, S9) 194 [some (.ref 41), none] [.int y1, .ref 41] S := by
  unfold fX5_nextToken_L194 at h
  refine s_put h (k := 97) rfl lay_X5 rfl fl_RX5_231 fp_5_14 rfl rfl (fun S1 h => ?_)
  refine p_aload_n (k := 98) (i := 0) rfl rfl rfl ?_
  refine p_dup (k := 99) rfl rfl ?_
  refine p_geti (k := 100) rfl lay_X5 rfl fl_RX5_213 ?_
  refine p_iconst (k := 101) 1 rfl (by decide) ?_
  refine p_iadd (k := 102) rfl ?_
  refine s_put h (k := 103) rfl lay_X5 rfl fl_RX5_213 fp_5_13 rfl rfl (fun S2 h => ?_)
  refine p_goto (k := 104) 136 rfl (by decide) ?_
  refine p_msk [true, false] (L2 := [some (.ref 41), none]) rfl ?_
  exact hk136 _ h
def fX5_nextToken_L228 (y1 : Int32) (y2 : Int32) (S : St) : Option (Unit × St) :=
  bnd (up2 S 41 13 (y1 + y2)) fun S1 =>
  some ((), S1)
theorem sX5_nextToken_L228 {r : Unit} {S9 : St} {y1 : Int32} {y2 : Int32} {S : St} (h : fX5_nextToken_L228 y1 y2 S = some (r, S9)) : PW mX5_nextToken (none, S9) 228 [none, none] [.int y2, .int y1, .ref 41] S := by
  unfold fX5_nextToken_L228 at h
  refine p_iadd (k := 115) rfl ?_
  refine s_put h (k := 116) rfl lay_X5 rfl fl_RX5_213 fp_5_13 rfl rfl (fun S1 h => ?_)
  exact s_vret h (k := 117) rfl rfl
def fX5_nextToken_L210 (S : St) : Option (Unit × St) :=
  if (S 41 11) ≤ 2 then
    fX5_nextToken_L228 (S 41 13) 0 S
  else
    fX5_nextToken_L228 (S 41 13) 1 S
theorem sX5_nextToken_L210 {r : Unit} {S9 : St}  {S : St} (h : fX5_nextToken_L210 S = some (r, S9)) : PW mX5_nextToken (none, S9) 210 [some (.ref 41), none] [] S := by
  unfold fX5_nextToken_L210 at h
  refine p_aload_n (k := 105) (i := 0) rfl rfl rfl ?_
  refine p_dup (k := 106) rfl rfl ?_
  refine p_geti (k := 107) rfl lay_X5 rfl fl_RX5_213 ?_
  refine p_aload_n (k := 108) (i := 0) rfl rfl rfl ?_
  refine p_geti (k := 109) rfl lay_X5 rfl fl_RX5_228 ?_
  refine p_iconst (k := 110) 2 rfl (by decide) ?_
  refine p_icmp_le (k := 111) 227 rfl (by decide) (fun hc => ?_) (fun hc => ?_)
  · rw [if_pos hc] at h
    refine p_iconst (k := 114) 0 rfl (by decide) ?_
    refine p_msk [false, false] (L2 := [none, none]) rfl ?_
    exact sX5_nextToken_L228 h
  · rw [if_neg hc] at h
    refine p_iconst (k := 112) 1 rfl (by decide) ?_
    refine p_goto (k := 113) 228 rfl (by decide) ?_
    refine p_msk [false, false] (L2 := [none, none]) rfl ?_
    exact sX5_nextToken_L228 h
def fX5_nextToken_L136 : Nat → St → Option (Unit × St)
  | 0 => fun _ => none
  | n + 1 => fun S =>
    if (S 41 11) = 2 then
      cl (fX5_byteAt (S 41 13) S) fun v1 S1 =>
      cl (fX5_isDigit v1 S1) fun v2 S2 =>
      if v2 = 0 then
        fX5_nextToken_L210 S2
      else
        if (S2 41 14) ≤ 99999 then
          cl (fX5_byteAt (S2 41 13) S2) fun v3 S3 =>
          fX5_nextToken_L194 (fun S => fX5_nextToken_L136 n S) (((10 * (S2 41 14)) + v3) - 48) S3
        else
          fX5_nextToken_L194 (fun S => fX5_nextToken_L136 n S) (S2 41 14) S2
    else
      fX5_nextToken_L210 S
theorem sX5_nextToken_L136 {r : Unit} {S9 : St} : ∀ (n : Nat) (S : St), fX5_nextToken_L136 n S = some (r, S9) → PW mX5_nextToken (none, S9) 136 [some (.ref 41), none] [] S := by
  intro n
  induction n with
  | zero => intro S h; cases h
  | succ n ih =>
    intro S h
    unfold fX5_nextToken_L136 at h
    refine p_aload_n (k := 68) (i := 0) rfl rfl rfl ?_
    refine p_geti (k := 69) rfl lay_X5 rfl fl_RX5_228 ?_
    refine p_iconst (k := 70) 2 rfl (by decide) ?_
    refine p_icmp_ne (k := 71) 210 rfl (by decide) (fun hc => ?_) (fun hc => ?_)
    · rw [if_neg hc] at h
      refine p_msk [true, false] (L2 := [some (.ref 41), none]) rfl ?_
      exact sX5_nextToken_L210 h
    · rw [if_pos hc] at h
      refine p_aload_n (k := 72) (i := 0) rfl rfl rfl ?_
      refine p_aload_n (k := 73) (i := 0) rfl rfl rfl ?_
      refine p_geti (k := 74) rfl lay_X5 rfl fl_RX5_213 ?_
      obtain ⟨v1, S1, hcS1, h⟩ := cl_some h
      refine p_callV (k := 75) [.int (S 41 13)] [] rfl (tX5_byteAt hcS1) lay_X5 rfl lc_X5_byteAt ml_RX5_219 mi_X5_byteAt mv_X5_byteAt (by decide) (by decide) (Nat.le_of_ble_eq_true rfl) rfl ?_
      obtain ⟨v2, S2, hcS2, h⟩ := cl_some h
      refine p_callS (k := 76) [.int v1] [] rfl (tX5_isDigit hcS2) lc_X5_isDigit ml_RX5_225 ms_X5_isDigit (by decide) (by decide) (Nat.le_of_ble_eq_true rfl) rfl ?_
      refine p_if_eq (k := 77) 210 rfl (by decide) (fun hc => ?_) (fun hc => ?_)
      · rw [if_pos hc] at h
        refine p_msk [true, false] (L2 := [some (.ref 41), none]) rfl ?_
        exact sX5_nextToken_L210 h
      · rw [if_neg hc] at h
        refine p_aload_n (k := 78) (i := 0) rfl rfl rfl ?_
        refine p_aload_n (k := 79) (i := 0) rfl rfl rfl ?_
        refine p_geti (k := 80) rfl lay_X5 rfl fl_RX5_231 ?_
        refine p_ldc (k := 81) rfl k_RX5_147 ?_
        refine p_icmp_le (k := 82) 175 rfl (by decide) (fun hc => ?_) (fun hc => ?_)
        · rw [if_pos hc] at h
          refine p_bipush (k := 86) 10 rfl (by decide) ?_
          refine p_aload_n (k := 87) (i := 0) rfl rfl rfl ?_
          refine p_geti (k := 88) rfl lay_X5 rfl fl_RX5_231 ?_
          refine p_imul (k := 89) rfl ?_
          refine p_aload_n (k := 90) (i := 0) rfl rfl rfl ?_
          refine p_aload_n (k := 91) (i := 0) rfl rfl rfl ?_
          refine p_geti (k := 92) rfl lay_X5 rfl fl_RX5_213 ?_
          obtain ⟨v3, S3, hcS3, h⟩ := cl_some h
          refine p_callV (k := 93) [.int (S2 41 13)] [.int (10 * (S2 41 14)), .ref 41] rfl (tX5_byteAt hcS3) lay_X5 rfl lc_X5_byteAt ml_RX5_219 mi_X5_byteAt mv_X5_byteAt (by decide) (by decide) (Nat.le_of_ble_eq_true rfl) rfl ?_
          refine p_iadd (k := 94) rfl ?_
          refine p_bipush (k := 95) 48 rfl (by decide) ?_
          refine p_isub (k := 96) rfl ?_
          refine p_msk [true, false] (L2 := [some (.ref 41), none]) rfl ?_
          exact sX5_nextToken_L194 ih h
        · rw [if_neg hc] at h
          refine p_aload_n (k := 83) (i := 0) rfl rfl rfl ?_
          refine p_geti (k := 84) rfl lay_X5 rfl fl_RX5_231 ?_
          refine p_goto (k := 85) 194 rfl (by decide) ?_
          refine p_msk [true, false] (L2 := [some (.ref 41), none]) rfl ?_
          exact sX5_nextToken_L194 ih h
def fX5_nextToken_L101 : Nat → St → Option (Unit × St)
  | 0 => fun _ => none
  | n + 1 => fun S =>
    if (S 41 11) = 1 then
      cl (fX5_byteAt (S 41 13) S) fun v1 S1 =>
      cl (fX5_isLetter v1 S1) fun v2 S2 =>
      if v2 = 0 then
        fX5_nextToken_L136 FU S2
      else
        bnd (up2 S2 41 13 ((S2 41 13) + 1)) fun S3 =>
        fX5_nextToken_L101 n S3
    else
      fX5_nextToken_L136 FU S
theorem sX5_nextToken_L101 {r : Unit} {S9 : St} : ∀ (n : Nat) (S : St), fX5_nextToken_L101 n S = some (r, S9) → PW mX5_nextToken (none, S9) 101 [some (.ref 41), none] [] S := by
  intro n
  induction n with
  | zero => intro S h; cases h
  | succ n ih =>
    intro S h
    unfold fX5_nextToken_L101 at h
    refine p_aload_n (k := 51) (i := 0) rfl rfl rfl ?_
    refine p_geti (k := 52) rfl lay_X5 rfl fl_RX5_228 ?_
    refine p_iconst (k := 53) 1 rfl (by decide) ?_
    refine p_icmp_ne (k := 54) 136 rfl (by decide) (fun hc => ?_) (fun hc => ?_)
    · rw [if_neg hc] at h
      refine p_msk [true, false] (L2 := [some (.ref 41), none]) rfl ?_
      exact sX5_nextToken_L136 _ _ h
    · rw [if_pos hc] at h
      refine p_aload_n (k := 55) (i := 0) rfl rfl rfl ?_
      refine p_aload_n (k := 56) (i := 0) rfl rfl rfl ?_
      refine p_geti (k := 57) rfl lay_X5 rfl fl_RX5_213 ?_
      obtain ⟨v1, S1, hcS1, h⟩ := cl_some h
      refine p_callV (k := 58) [.int (S 41 13)] [] rfl (tX5_byteAt hcS1) lay_X5 rfl lc_X5_byteAt ml_RX5_219 mi_X5_byteAt mv_X5_byteAt (by decide) (by decide) (Nat.le_of_ble_eq_true rfl) rfl ?_
      obtain ⟨v2, S2, hcS2, h⟩ := cl_some h
      refine p_callS (k := 59) [.int v1] [] rfl (tX5_isLetter hcS2) lc_X5_isLetter ml_RX5_222 ms_X5_isLetter (by decide) (by decide) (Nat.le_of_ble_eq_true rfl) rfl ?_
      refine p_if_eq (k := 60) 136 rfl (by decide) (fun hc => ?_) (fun hc => ?_)
      · rw [if_pos hc] at h
        refine p_msk [true, false] (L2 := [some (.ref 41), none]) rfl ?_
        exact sX5_nextToken_L136 _ _ h
      · rw [if_neg hc] at h
        refine p_aload_n (k := 61) (i := 0) rfl rfl rfl ?_
        refine p_dup (k := 62) rfl rfl ?_
        refine p_geti (k := 63) rfl lay_X5 rfl fl_RX5_213 ?_
        refine p_iconst (k := 64) 1 rfl (by decide) ?_
        refine p_iadd (k := 65) rfl ?_
        refine s_put h (k := 66) rfl lay_X5 rfl fl_RX5_213 fp_5_13 rfl rfl (fun S3 h => ?_)
        refine p_goto (k := 67) 101 rfl (by decide) ?_
        refine p_msk [true, false] (L2 := [some (.ref 41), none]) rfl ?_
        exact ih _ h
def fX5_nextToken_L93 (y1 : Int32) (S : St) : Option (Unit × St) :=
  bnd (up2 S 41 11 y1) fun S1 =>
  bnd (up2 S1 41 14 0) fun S2 =>
  fX5_nextToken_L101 FU S2
theorem sX5_nextToken_L93 {r : Unit} {S9 : St} {y1 : Int32} {S : St} (h : fX5_nextToken_L93 y1 S = some (r, S9)) : PW mX5_nextToken (none, S9) 93 [some (.ref 41), none] [.int y1, .ref 41] S := by
  unfold fX5_nextToken_L93 at h
  refine s_put h (k := 47) rfl lay_X5 rfl fl_RX5_228 fp_5_11 rfl rfl (fun S1 h => ?_)
  refine p_aload_n (k := 48) (i := 0) rfl rfl rfl ?_
  refine p_iconst (k := 49) 0 rfl (by decide) ?_
  refine s_put h (k := 50) rfl lay_X5 rfl fl_RX5_231 fp_5_14 rfl rfl (fun S2 h => ?_)
  refine p_msk [true, false] (L2 := [some (.ref 41), none]) rfl ?_
  exact sX5_nextToken_L101 _ _ h
def fX5_nextToken_L8 : Nat → St → Option (Unit × St)
  | 0 => fun _ => none
  | n + 1 => fun S =>
    cl (fX5_byteAt (S 41 12) S) fun v1 S1 =>
    if v1 = 32 then
      bnd (up2 S1 41 12 ((S1 41 12) + 1)) fun S6 =>
      fX5_nextToken_L8 n S6
    else
      bnd (up2 S1 41 13 (S1 41 12)) fun S2 =>
      cl (fX5_byteAt (S2 41 12) S2) fun v2 S3 =>
      if 0 ≤ v2 then
        cl (fX5_isLetter v2 S3) fun v3 S4 =>
        if v3 = 0 then
          cl (fX5_isDigit v2 S4) fun v4 S5 =>
          if v4 = 0 then
            if v2 = 59 then
              fX5_nextToken_L93 3 S5
            else
              fX5_nextToken_L93 4 S5
          else
            fX5_nextToken_L93 2 S5
        else
          fX5_nextToken_L93 1 S4
      else
        fX5_nextToken_L93 0 S3
theorem sX5_nextToken_L8 {r : Unit} {S9 : St} : ∀ (n : Nat) (S : St), fX5_nextToken_L8 n S = some (r, S9) → PW mX5_nextToken (none, S9) 8 [some (.ref 41), none] [] S := by
  intro n
  induction n with
  | zero => intro S h; cases h
  | succ n ih =>
    intro S h
    unfold fX5_nextToken_L8 at h
    refine p_aload_n (k := 4) (i := 0) rfl rfl rfl ?_
    refine p_aload_n (k := 5) (i := 0) rfl rfl rfl ?_
    refine p_geti (k := 6) rfl lay_X5 rfl fl_RX5_216 ?_
    obtain ⟨v1, S1, hcS1, h⟩ := cl_some h
    refine p_callV (k := 7) [.int (S 41 12)] [] rfl (tX5_byteAt hcS1) lay_X5 rfl lc_X5_byteAt ml_RX5_219 mi_X5_byteAt mv_X5_byteAt (by decide) (by decide) (Nat.le_of_ble_eq_true rfl) rfl ?_
    refine p_bipush (k := 8) 32 rfl (by decide) ?_
    refine p_icmp_ne (k := 9) 34 rfl (by decide) (fun hc => ?_) (fun hc => ?_)
    · rw [if_neg hc] at h
      refine p_aload_n (k := 17) (i := 0) rfl rfl rfl ?_
      refine p_aload_n (k := 18) (i := 0) rfl rfl rfl ?_
      refine p_geti (k := 19) rfl lay_X5 rfl fl_RX5_216 ?_
      refine s_put h (k := 20) rfl lay_X5 rfl fl_RX5_213 fp_5_13 rfl rfl (fun S2 h => ?_)
      refine p_aload_n (k := 21) (i := 0) rfl rfl rfl ?_
      refine p_aload_n (k := 22) (i := 0) rfl rfl rfl ?_
      refine p_geti (k := 23) rfl lay_X5 rfl fl_RX5_216 ?_
      obtain ⟨v2, S3, hcS3, h⟩ := cl_some h
      refine p_callV (k := 24) [.int (S2 41 12)] [] rfl (tX5_byteAt hcS3) lay_X5 rfl lc_X5_byteAt ml_RX5_219 mi_X5_byteAt mv_X5_byteAt (by decide) (by decide) (Nat.le_of_ble_eq_true rfl) rfl ?_
      refine p_istore_n (k := 25) 1 [some (.ref 41), some (.int v2)] rfl rfl rfl (by decide) rfl ?_
      refine p_aload_n (k := 26) (i := 0) rfl rfl rfl ?_
      refine p_iload_n (k := 27) (i := 1) rfl rfl rfl ?_
      refine p_if_ge (k := 28) 60 rfl (by decide) (fun hc => ?_) (fun hc => ?_)
      · rw [if_pos hc] at h
        refine p_iload_n (k := 31) (i := 1) rfl rfl rfl ?_
        obtain ⟨v3, S4, hcS4, h⟩ := cl_some h
        refine p_callS (k := 32) [.int v2] [.ref 41] rfl (tX5_isLetter hcS4) lc_X5_isLetter ml_RX5_222 ms_X5_isLetter (by decide) (by decide) (Nat.le_of_ble_eq_true rfl) rfl ?_
        refine p_if_eq (k := 33) 71 rfl (by decide) (fun hc => ?_) (fun hc => ?_)
        · rw [if_pos hc] at h
          refine p_iload_n (k := 36) (i := 1) rfl rfl rfl ?_
          obtain ⟨v4, S5, hcS5, h⟩ := cl_some h
          refine p_callS (k := 37) [.int v2] [.ref 41] rfl (tX5_isDigit hcS5) lc_X5_isDigit ml_RX5_225 ms_X5_isDigit (by decide) (by decide) (Nat.le_of_ble_eq_true rfl) rfl ?_
          refine p_if_eq (k := 38) 82 rfl (by decide) (fun hc => ?_) (fun hc => ?_)
          · rw [if_pos hc] at h
            refine p_iload_n (k := 41) (i := 1) rfl rfl rfl ?_
            refine p_bipush (k := 42) 59 rfl (by decide) ?_
            refine p_icmp_ne (k := 43) 92 rfl (by decide) (fun hc => ?_) (fun hc => ?_)
            · rw [if_neg hc] at h
              refine p_iconst (k := 46) 4 rfl (by decide) ?_
              refine p_msk [true, false] (L2 := [some (.ref 41), none]) rfl ?_
              exact sX5_nextToken_L93 h
            · rw [if_pos hc] at h
              refine p_iconst (k := 44) 3 rfl (by decide) ?_
              refine p_goto (k := 45) 93 rfl (by decide) ?_
              refine p_msk [true, false] (L2 := [some (.ref 41), none]) rfl ?_
              exact sX5_nextToken_L93 h
          · rw [if_neg hc] at h
            refine p_iconst (k := 39) 2 rfl (by decide) ?_
            refine p_goto (k := 40) 93 rfl (by decide) ?_
            refine p_msk [true, false] (L2 := [some (.ref 41), none]) rfl ?_
            exact sX5_nextToken_L93 h
        · rw [if_neg hc] at h
          refine p_iconst (k := 34) 1 rfl (by decide) ?_
          refine p_goto (k := 35) 93 rfl (by decide) ?_
          refine p_msk [true, false] (L2 := [some (.ref 41), none]) rfl ?_
          exact sX5_nextToken_L93 h
      · rw [if_neg hc] at h
        refine p_iconst (k := 29) 0 rfl (by decide) ?_
        refine p_goto (k := 30) 93 rfl (by decide) ?_
        refine p_msk [true, false] (L2 := [some (.ref 41), none]) rfl ?_
        exact sX5_nextToken_L93 h
    · rw [if_pos hc] at h
      refine p_aload_n (k := 10) (i := 0) rfl rfl rfl ?_
      refine p_dup (k := 11) rfl rfl ?_
      refine p_geti (k := 12) rfl lay_X5 rfl fl_RX5_216 ?_
      refine p_iconst (k := 13) 1 rfl (by decide) ?_
      refine p_iadd (k := 14) rfl ?_
      refine s_put h (k := 15) rfl lay_X5 rfl fl_RX5_216 fp_5_12 rfl rfl (fun S6 h => ?_)
      refine p_goto (k := 16) 8 rfl (by decide) ?_
      refine p_msk [true, false] (L2 := [some (.ref 41), none]) rfl ?_
      exact ih _ h
def fX5_nextToken (S : St) : Option (Unit × St) :=
  bnd (up2 S 41 12 (S 41 13)) fun S1 =>
  fX5_nextToken_L8 FU S1
theorem sX5_nextToken {S : St} {r : Unit} {S9 : St} (h : fX5_nextToken S = some (r, S9)) : PW mX5_nextToken (none, S9) 0 [some (.ref 41), none] [] S := by
  unfold fX5_nextToken at h
  refine p_aload_n (k := 0) (i := 0) rfl rfl rfl ?_
  refine p_aload_n (k := 1) (i := 0) rfl rfl rfl ?_
  refine p_geti (k := 2) rfl lay_X5 rfl fl_RX5_213 ?_
  refine s_put h (k := 3) rfl lay_X5 rfl fl_RX5_216 fp_5_12 rfl rfl (fun S1 h => ?_)
  refine p_msk [true, false] (L2 := [some (.ref 41), none]) rfl ?_
  exact sX5_nextToken_L8 _ _ h
theorem tX5_nextToken {S : St} {r : Unit} {S9 : St} (h : fX5_nextToken S = some (r, S9)) : MR yX5_nextToken cX5_nextToken mX5_nextToken [.ref 41] S (none, S9) := MR.of (n := 1) okX5_nextToken rfl rfl (sX5_nextToken h)
-- has3(IIII)Z
def fX5_has3_L52 (y0 : Int32) (S : St) : Option (Int32 × St) :=
  retN .boolean y0 S
theorem sX5_has3_L52 {r : Int32} {S9 : St} {y0 : Int32} {S : St} (h : fX5_has3_L52 y0 S = some (r, S9)) : PW mX5_has3 (some (.int r), S9) 52 [none, none, none, none, none] [.int y0] S := by
  unfold fX5_has3_L52 at h
  exact s_zret h (k := 31) rfl rfl
def fX5_has3_L51 (S : St) : Option (Int32 × St) :=
  fX5_has3_L52 0 S
theorem sX5_has3_L51 {r : Int32} {S9 : St}  {S : St} (h : fX5_has3_L51 S = some (r, S9)) : PW mX5_has3 (some (.int r), S9) 51 [none, none, none, none, none] [] S := by
  unfold fX5_has3_L51 at h
  refine p_iconst (k := 30) 0 rfl (by decide) ?_
  refine p_msk [false, false, false, false, false] (L2 := [none, none, none, none, none]) rfl ?_
  exact sX5_has3_L52 h
def fX5_has3 (a1 : Int32) (a2 : Int32) (a3 : Int32) (a4 : Int32) (S : St) : Option (Int32 × St) :=
  cl (fX5_byteAt ((S 41 12) + a1) S) fun v1 S1 =>
  if v1 = a2 then
    cl (fX5_byteAt (((S1 41 12) + a1) + 1) S1) fun v2 S2 =>
    if v2 = a3 then
      cl (fX5_byteAt (((S2 41 12) + a1) + 2) S2) fun v3 S3 =>
      if v3 = a4 then
        fX5_has3_L52 1 S3
      else
        fX5_has3_L51 S3
    else
      fX5_has3_L51 S2
  else
    fX5_has3_L51 S1
theorem sX5_has3 {a1 : Int32} {a2 : Int32} {a3 : Int32} {a4 : Int32} {S : St} {r : Int32} {S9 : St} (h : fX5_has3 a1 a2 a3 a4 S = some (r, S9)) : PW mX5_has3 (some (.int r), S9) 0 [some (.ref 41), some (.int a1), some (.int a2), some (.int a3), some (.int a4)] [] S := by
  unfold fX5_has3 at h
  refine p_aload_n (k := 0) (i := 0) rfl rfl rfl ?_
  refine p_aload_n (k := 1) (i := 0) rfl rfl rfl ?_
  refine p_geti (k := 2) rfl lay_X5 rfl fl_RX5_216 ?_
  refine p_iload_n (k := 3) (i := 1) rfl rfl rfl ?_
  refine p_iadd (k := 4) rfl ?_
  obtain ⟨v1, S1, hcS1, h⟩ := cl_some h
  refine p_callV (k := 5) [.int ((S 41 12) + a1)] [] rfl (tX5_byteAt hcS1) lay_X5 rfl lc_X5_byteAt ml_RX5_219 mi_X5_byteAt mv_X5_byteAt (by decide) (by decide) (Nat.le_of_ble_eq_true rfl) rfl ?_
  refine p_iload_n (k := 6) (i := 2) rfl rfl rfl ?_
  refine p_icmp_ne (k := 7) 51 rfl (by decide) (fun hc => ?_) (fun hc => ?_)
  · rw [if_neg hc] at h
    refine p_msk [false, false, false, false, false] (L2 := [none, none, none, none, none]) rfl ?_
    exact sX5_has3_L51 h
  · rw [if_pos hc] at h
    refine p_aload_n (k := 8) (i := 0) rfl rfl rfl ?_
    refine p_aload_n (k := 9) (i := 0) rfl rfl rfl ?_
    refine p_geti (k := 10) rfl lay_X5 rfl fl_RX5_216 ?_
    refine p_iload_n (k := 11) (i := 1) rfl rfl rfl ?_
    refine p_iadd (k := 12) rfl ?_
    refine p_iconst (k := 13) 1 rfl (by decide) ?_
    refine p_iadd (k := 14) rfl ?_
    obtain ⟨v2, S2, hcS2, h⟩ := cl_some h
    refine p_callV (k := 15) [.int (((S1 41 12) + a1) + 1)] [] rfl (tX5_byteAt hcS2) lay_X5 rfl lc_X5_byteAt ml_RX5_219 mi_X5_byteAt mv_X5_byteAt (by decide) (by decide) (Nat.le_of_ble_eq_true rfl) rfl ?_
    refine p_iload_n (k := 16) (i := 3) rfl rfl rfl ?_
    refine p_icmp_ne (k := 17) 51 rfl (by decide) (fun hc => ?_) (fun hc => ?_)
    · rw [if_neg hc] at h
      refine p_msk [false, false, false, false, false] (L2 := [none, none, none, none, none]) rfl ?_
      exact sX5_has3_L51 h
    · rw [if_pos hc] at h
      refine p_aload_n (k := 18) (i := 0) rfl rfl rfl ?_
      refine p_aload_n (k := 19) (i := 0) rfl rfl rfl ?_
      refine p_geti (k := 20) rfl lay_X5 rfl fl_RX5_216 ?_
      refine p_iload_n (k := 21) (i := 1) rfl rfl rfl ?_
      refine p_iadd (k := 22) rfl ?_
      refine p_iconst (k := 23) 2 rfl (by decide) ?_
      refine p_iadd (k := 24) rfl ?_
      obtain ⟨v3, S3, hcS3, h⟩ := cl_some h
      refine p_callV (k := 25) [.int (((S2 41 12) + a1) + 2)] [] rfl (tX5_byteAt hcS3) lay_X5 rfl lc_X5_byteAt ml_RX5_219 mi_X5_byteAt mv_X5_byteAt (by decide) (by decide) (Nat.le_of_ble_eq_true rfl) rfl ?_
      refine p_iload (k := 26) rfl rfl ?_
      refine p_icmp_ne (k := 27) 51 rfl (by decide) (fun hc => ?_) (fun hc => ?_)
      · rw [if_neg hc] at h
        refine p_msk [false, false, false, false, false] (L2 := [none, none, none, none, none]) rfl ?_
        exact sX5_has3_L51 h
      · rw [if_pos hc] at h
        refine p_iconst (k := 28) 1 rfl (by decide) ?_
        refine p_goto (k := 29) 52 rfl (by decide) ?_
        refine p_msk [false, false, false, false, false] (L2 := [none, none, none, none, none]) rfl ?_
        exact sX5_has3_L52 h
theorem tX5_has3 {a1 : Int32} {a2 : Int32} {a3 : Int32} {a4 : Int32} {S : St} {r : Int32} {S9 : St} (h : fX5_has3 a1 a2 a3 a4 S = some (r, S9)) : MR yX5_has3 cX5_has3 mX5_has3 [.ref 41, .int a1, .int a2, .int a3, .int a4] S (some (.int r), S9) := MR.of (n := 0) okX5_has3 rfl rfl (sX5_has3 h)
-- isWord(I)Z
def fX5_isWord_L26 (y0 : Int32) (S : St) : Option (Int32 × St) :=
  retN .boolean y0 S
theorem sX5_isWord_L26 {r : Int32} {S9 : St} {y0 : Int32} {S : St} (h : fX5_isWord_L26 y0 S = some (r, S9)) : PW mX5_isWord (some (.int r), S9) 26 [none, none] [.int y0] S := by
  unfold fX5_isWord_L26 at h
  exact s_zret h (k := 14) rfl rfl
def fX5_isWord_L25 (S : St) : Option (Int32 × St) :=
  fX5_isWord_L26 0 S
theorem sX5_isWord_L25 {r : Int32} {S9 : St}  {S : St} (h : fX5_isWord_L25 S = some (r, S9)) : PW mX5_isWord (some (.int r), S9) 25 [none, none] [] S := by
  unfold fX5_isWord_L25 at h
  refine p_iconst (k := 13) 0 rfl (by decide) ?_
  refine p_msk [false, false] (L2 := [none, none]) rfl ?_
  exact sX5_isWord_L26 h
def fX5_isWord (a1 : Int32) (S : St) : Option (Int32 × St) :=
  if (S 41 11) = 1 then
    if ((S 41 13) - (S 41 12)) = a1 then
      fX5_isWord_L26 1 S
    else
      fX5_isWord_L25 S
  else
    fX5_isWord_L25 S
theorem sX5_isWord {a1 : Int32} {S : St} {r : Int32} {S9 : St} (h : fX5_isWord a1 S = some (r, S9)) : PW mX5_isWord (some (.int r), S9) 0 [some (.ref 41), some (.int a1)] [] S := by
  unfold fX5_isWord at h
  refine p_aload_n (k := 0) (i := 0) rfl rfl rfl ?_
  refine p_geti (k := 1) rfl lay_X5 rfl fl_RX5_228 ?_
  refine p_iconst (k := 2) 1 rfl (by decide) ?_
  refine p_icmp_ne (k := 3) 25 rfl (by decide) (fun hc => ?_) (fun hc => ?_)
  · rw [if_neg hc] at h
    refine p_msk [false, false] (L2 := [none, none]) rfl ?_
    exact sX5_isWord_L25 h
  · rw [if_pos hc] at h
    refine p_aload_n (k := 4) (i := 0) rfl rfl rfl ?_
    refine p_geti (k := 5) rfl lay_X5 rfl fl_RX5_213 ?_
    refine p_aload_n (k := 6) (i := 0) rfl rfl rfl ?_
    refine p_geti (k := 7) rfl lay_X5 rfl fl_RX5_216 ?_
    refine p_isub (k := 8) rfl ?_
    refine p_iload_n (k := 9) (i := 1) rfl rfl rfl ?_
    refine p_icmp_ne (k := 10) 25 rfl (by decide) (fun hc => ?_) (fun hc => ?_)
    · rw [if_neg hc] at h
      refine p_msk [false, false] (L2 := [none, none]) rfl ?_
      exact sX5_isWord_L25 h
    · rw [if_pos hc] at h
      refine p_iconst (k := 11) 1 rfl (by decide) ?_
      refine p_goto (k := 12) 26 rfl (by decide) ?_
      refine p_msk [false, false] (L2 := [none, none]) rfl ?_
      exact sX5_isWord_L26 h
theorem tX5_isWord {a1 : Int32} {S : St} {r : Int32} {S9 : St} (h : fX5_isWord a1 S = some (r, S9)) : MR yX5_isWord cX5_isWord mX5_isWord [.ref 41, .int a1] S (some (.int r), S9) := MR.of (n := 0) okX5_isWord rfl rfl (sX5_isWord h)
-- fails()Z
def fX5_fails (S : St) : Option (Int32 × St) :=
  bnd (up2 S 41 15 (S 41 12)) fun S1 =>
  retN .boolean 0 S1
theorem sX5_fails {S : St} {r : Int32} {S9 : St} (h : fX5_fails S = some (r, S9)) : PW mX5_fails (some (.int r), S9) 0 [some (.ref 41)] [] S := by
  unfold fX5_fails at h
  refine p_aload_n (k := 0) (i := 0) rfl rfl rfl ?_
  refine p_aload_n (k := 1) (i := 0) rfl rfl rfl ?_
  refine p_geti (k := 2) rfl lay_X5 rfl fl_RX5_216 ?_
  refine s_put h (k := 3) rfl lay_X5 rfl fl_RX5_234 fp_5_15 rfl rfl (fun S1 h => ?_)
  refine p_iconst (k := 4) 0 rfl (by decide) ?_
  exact s_zret h (k := 5) rfl rfl
theorem tX5_fails {S : St} {r : Int32} {S9 : St} (h : fX5_fails S = some (r, S9)) : MR yX5_fails cX5_fails mX5_fails [.ref 41] S (some (.int r), S9) := MR.of (n := 0) okX5_fails rfl rfl (sX5_fails h)
-- isFour(IIII)Z
def fX5_isFour_L36 (y0 : Int32) (S : St) : Option (Int32 × St) :=
  retN .boolean y0 S
theorem sX5_isFour_L36 {r : Int32} {S9 : St} {y0 : Int32} {S : St} (h : fX5_isFour_L36 y0 S = some (r, S9)) : PW mX5_isFour (some (.int r), S9) 36 [none, none, none, none, none] [.int y0] S := by
  unfold fX5_isFour_L36 at h
  exact s_zret h (k := 21) rfl rfl
def fX5_isFour_L35 (S : St) : Option (Int32 × St) :=
  fX5_isFour_L36 0 S
theorem sX5_isFour_L35 {r : Int32} {S9 : St}  {S : St} (h : fX5_isFour_L35 S = some (r, S9)) : PW mX5_isFour (some (.int r), S9) 35 [none, none, none, none, none] [] S := by
  unfold fX5_isFour_L35 at h
  refine p_iconst (k := 20) 0 rfl (by decide) ?_
  refine p_msk [false, false, false, false, false] (L2 := [none, none, none, none, none]) rfl ?_
  exact sX5_isFour_L36 h
def fX5_isFour (a1 : Int32) (a2 : Int32) (a3 : Int32) (a4 : Int32) (S : St) : Option (Int32 × St) :=
  cl (fX5_isWord 4 S) fun v1 S1 =>
  if v1 = 0 then
    fX5_isFour_L35 S1
  else
    cl (fX5_has3 0 a1 a2 a3 S1) fun v2 S2 =>
    if v2 = 0 then
      fX5_isFour_L35 S2
    else
      cl (fX5_has3 1 a2 a3 a4 S2) fun v3 S3 =>
      if v3 = 0 then
        fX5_isFour_L35 S3
      else
        fX5_isFour_L36 1 S3
theorem sX5_isFour {a1 : Int32} {a2 : Int32} {a3 : Int32} {a4 : Int32} {S : St} {r : Int32} {S9 : St} (h : fX5_isFour a1 a2 a3 a4 S = some (r, S9)) : PW mX5_isFour (some (.int r), S9) 0 [some (.ref 41), some (.int a1), some (.int a2), some (.int a3), some (.int a4)] [] S := by
  unfold fX5_isFour at h
  refine p_aload_n (k := 0) (i := 0) rfl rfl rfl ?_
  refine p_iconst (k := 1) 4 rfl (by decide) ?_
  obtain ⟨v1, S1, hcS1, h⟩ := cl_some h
  refine p_callV (k := 2) [.int 4] [] rfl (tX5_isWord hcS1) lay_X5 rfl lc_X5_isWord ml_RX5_237 mi_X5_isWord mv_X5_isWord (by decide) (by decide) (Nat.le_of_ble_eq_true rfl) rfl ?_
  refine p_if_eq (k := 3) 35 rfl (by decide) (fun hc => ?_) (fun hc => ?_)
  · rw [if_pos hc] at h
    refine p_msk [false, false, false, false, false] (L2 := [none, none, none, none, none]) rfl ?_
    exact sX5_isFour_L35 h
  · rw [if_neg hc] at h
    refine p_aload_n (k := 4) (i := 0) rfl rfl rfl ?_
    refine p_iconst (k := 5) 0 rfl (by decide) ?_
    refine p_iload_n (k := 6) (i := 1) rfl rfl rfl ?_
    refine p_iload_n (k := 7) (i := 2) rfl rfl rfl ?_
    refine p_iload_n (k := 8) (i := 3) rfl rfl rfl ?_
    obtain ⟨v2, S2, hcS2, h⟩ := cl_some h
    refine p_callV (k := 9) [.int 0, .int a1, .int a2, .int a3] [] rfl (tX5_has3 hcS2) lay_X5 rfl lc_X5_has3 ml_RX5_240 mi_X5_has3 mv_X5_has3 (by decide) (by decide) (Nat.le_of_ble_eq_true rfl) rfl ?_
    refine p_if_eq (k := 10) 35 rfl (by decide) (fun hc => ?_) (fun hc => ?_)
    · rw [if_pos hc] at h
      refine p_msk [false, false, false, false, false] (L2 := [none, none, none, none, none]) rfl ?_
      exact sX5_isFour_L35 h
    · rw [if_neg hc] at h
      refine p_aload_n (k := 11) (i := 0) rfl rfl rfl ?_
      refine p_iconst (k := 12) 1 rfl (by decide) ?_
      refine p_iload_n (k := 13) (i := 2) rfl rfl rfl ?_
      refine p_iload_n (k := 14) (i := 3) rfl rfl rfl ?_
      refine p_iload (k := 15) rfl rfl ?_
      obtain ⟨v3, S3, hcS3, h⟩ := cl_some h
      refine p_callV (k := 16) [.int 1, .int a2, .int a3, .int a4] [] rfl (tX5_has3 hcS3) lay_X5 rfl lc_X5_has3 ml_RX5_240 mi_X5_has3 mv_X5_has3 (by decide) (by decide) (Nat.le_of_ble_eq_true rfl) rfl ?_
      refine p_if_eq (k := 17) 35 rfl (by decide) (fun hc => ?_) (fun hc => ?_)
      · rw [if_pos hc] at h
        refine p_msk [false, false, false, false, false] (L2 := [none, none, none, none, none]) rfl ?_
        exact sX5_isFour_L35 h
      · rw [if_neg hc] at h
        refine p_iconst (k := 18) 1 rfl (by decide) ?_
        refine p_goto (k := 19) 36 rfl (by decide) ?_
        refine p_msk [false, false, false, false, false] (L2 := [none, none, none, none, none]) rfl ?_
        exact sX5_isFour_L36 h
theorem tX5_isFour {a1 : Int32} {a2 : Int32} {a3 : Int32} {a4 : Int32} {S : St} {r : Int32} {S9 : St} (h : fX5_isFour a1 a2 a3 a4 S = some (r, S9)) : MR yX5_isFour cX5_isFour mX5_isFour [.ref 41, .int a1, .int a2, .int a3, .int a4] S (some (.int r), S9) := MR.of (n := 0) okX5_isFour rfl rfl (sX5_isFour h)
-- isFive(IIIII)Z
def fX5_isFive_L37 (y0 : Int32) (S : St) : Option (Int32 × St) :=
  retN .boolean y0 S
theorem sX5_isFive_L37 {r : Int32} {S9 : St} {y0 : Int32} {S : St} (h : fX5_isFive_L37 y0 S = some (r, S9)) : PW mX5_isFive (some (.int r), S9) 37 [none, none, none, none, none, none] [.int y0] S := by
  unfold fX5_isFive_L37 at h
  exact s_zret h (k := 21) rfl rfl
def fX5_isFive_L36 (S : St) : Option (Int32 × St) :=
  fX5_isFive_L37 0 S
theorem sX5_isFive_L36 {r : Int32} {S9 : St}  {S : St} (h : fX5_isFive_L36 S = some (r, S9)) : PW mX5_isFive (some (.int r), S9) 36 [none, none, none, none, none, none] [] S := by
  unfold fX5_isFive_L36 at h
  refine p_iconst (k := 20) 0 rfl (by decide) ?_
  refine p_msk [false, false, false, false, false, false] (L2 := [none, none, none, none, none, none]) rfl ?_
  exact sX5_isFive_L37 h
def fX5_isFive (a1 : Int32) (a2 : Int32) (a3 : Int32) (a4 : Int32) (a5 : Int32) (S : St) : Option (Int32 × St) :=
  cl (fX5_isWord 5 S) fun v1 S1 =>
  if v1 = 0 then
    fX5_isFive_L36 S1
  else
    cl (fX5_has3 0 a1 a2 a3 S1) fun v2 S2 =>
    if v2 = 0 then
      fX5_isFive_L36 S2
    else
      cl (fX5_has3 2 a3 a4 a5 S2) fun v3 S3 =>
      if v3 = 0 then
        fX5_isFive_L36 S3
      else
        fX5_isFive_L37 1 S3
theorem sX5_isFive {a1 : Int32} {a2 : Int32} {a3 : Int32} {a4 : Int32} {a5 : Int32} {S : St} {r : Int32} {S9 : St} (h : fX5_isFive a1 a2 a3 a4 a5 S = some (r, S9)) : PW mX5_isFive (some (.int r), S9) 0 [some (.ref 41), some (.int a1), some (.int a2), some (.int a3), some (.int a4), some (.int a5)] [] S := by
  unfold fX5_isFive at h
  refine p_aload_n (k := 0) (i := 0) rfl rfl rfl ?_
  refine p_iconst (k := 1) 5 rfl (by decide) ?_
  obtain ⟨v1, S1, hcS1, h⟩ := cl_some h
  refine p_callV (k := 2) [.int 5] [] rfl (tX5_isWord hcS1) lay_X5 rfl lc_X5_isWord ml_RX5_237 mi_X5_isWord mv_X5_isWord (by decide) (by decide) (Nat.le_of_ble_eq_true rfl) rfl ?_
  refine p_if_eq (k := 3) 36 rfl (by decide) (fun hc => ?_) (fun hc => ?_)
  · rw [if_pos hc] at h
    refine p_msk [false, false, false, false, false, false] (L2 := [none, none, none, none, none, none]) rfl ?_
    exact sX5_isFive_L36 h
  · rw [if_neg hc] at h
    refine p_aload_n (k := 4) (i := 0) rfl rfl rfl ?_
    refine p_iconst (k := 5) 0 rfl (by decide) ?_
    refine p_iload_n (k := 6) (i := 1) rfl rfl rfl ?_
    refine p_iload_n (k := 7) (i := 2) rfl rfl rfl ?_
    refine p_iload_n (k := 8) (i := 3) rfl rfl rfl ?_
    obtain ⟨v2, S2, hcS2, h⟩ := cl_some h
    refine p_callV (k := 9) [.int 0, .int a1, .int a2, .int a3] [] rfl (tX5_has3 hcS2) lay_X5 rfl lc_X5_has3 ml_RX5_240 mi_X5_has3 mv_X5_has3 (by decide) (by decide) (Nat.le_of_ble_eq_true rfl) rfl ?_
    refine p_if_eq (k := 10) 36 rfl (by decide) (fun hc => ?_) (fun hc => ?_)
    · rw [if_pos hc] at h
      refine p_msk [false, false, false, false, false, false] (L2 := [none, none, none, none, none, none]) rfl ?_
      exact sX5_isFive_L36 h
    · rw [if_neg hc] at h
      refine p_aload_n (k := 11) (i := 0) rfl rfl rfl ?_
      refine p_iconst (k := 12) 2 rfl (by decide) ?_
      refine p_iload_n (k := 13) (i := 3) rfl rfl rfl ?_
      refine p_iload (k := 14) rfl rfl ?_
      refine p_iload (k := 15) rfl rfl ?_
      obtain ⟨v3, S3, hcS3, h⟩ := cl_some h
      refine p_callV (k := 16) [.int 2, .int a3, .int a4, .int a5] [] rfl (tX5_has3 hcS3) lay_X5 rfl lc_X5_has3 ml_RX5_240 mi_X5_has3 mv_X5_has3 (by decide) (by decide) (Nat.le_of_ble_eq_true rfl) rfl ?_
      refine p_if_eq (k := 17) 36 rfl (by decide) (fun hc => ?_) (fun hc => ?_)
      · rw [if_pos hc] at h
        refine p_msk [false, false, false, false, false, false] (L2 := [none, none, none, none, none, none]) rfl ?_
        exact sX5_isFive_L36 h
      · rw [if_neg hc] at h
        refine p_iconst (k := 18) 1 rfl (by decide) ?_
        refine p_goto (k := 19) 37 rfl (by decide) ?_
        refine p_msk [false, false, false, false, false, false] (L2 := [none, none, none, none, none, none]) rfl ?_
        exact sX5_isFive_L37 h
theorem tX5_isFive {a1 : Int32} {a2 : Int32} {a3 : Int32} {a4 : Int32} {a5 : Int32} {S : St} {r : Int32} {S9 : St} (h : fX5_isFive a1 a2 a3 a4 a5 S = some (r, S9)) : MR yX5_isFive cX5_isFive mX5_isFive [.ref 41, .int a1, .int a2, .int a3, .int a4, .int a5] S (some (.int r), S9) := MR.of (n := 0) okX5_isFive rfl rfl (sX5_isFive h)
-- isNumber(II)Z
def fX5_isNumber_L35 (y0 : Int32) (S : St) : Option (Int32 × St) :=
  retN .boolean y0 S
theorem sX5_isNumber_L35 {r : Int32} {S9 : St} {y0 : Int32} {S : St} (h : fX5_isNumber_L35 y0 S = some (r, S9)) : PW mX5_isNumber (some (.int r), S9) 35 [none, none, none] [.int y0] S := by
  unfold fX5_isNumber_L35 at h
  exact s_zret h (k := 19) rfl rfl
def fX5_isNumber_L30 (S : St) : Option (Int32 × St) :=
  fX5_isNumber_L35 1 S
theorem sX5_isNumber_L30 {r : Int32} {S9 : St}  {S : St} (h : fX5_isNumber_L30 S = some (r, S9)) : PW mX5_isNumber (some (.int r), S9) 30 [none, none, none] [] S := by
  unfold fX5_isNumber_L30 at h
  refine p_iconst (k := 16) 1 rfl (by decide) ?_
  refine p_goto (k := 17) 35 rfl (by decide) ?_
  refine p_msk [false, false, false] (L2 := [none, none, none]) rfl ?_
  exact sX5_isNumber_L35 h
def fX5_isNumber_L23 (S : St) : Option (Int32 × St) :=
  cl (fX5_fails S) fun v1 S1 =>
  if v1 = 0 then
    fX5_isNumber_L35 0 S1
  else
    fX5_isNumber_L30 S1
theorem sX5_isNumber_L23 {r : Int32} {S9 : St}  {S : St} (h : fX5_isNumber_L23 S = some (r, S9)) : PW mX5_isNumber (some (.int r), S9) 23 [some (.ref 41), none, none] [] S := by
  unfold fX5_isNumber_L23 at h
  refine p_aload_n (k := 13) (i := 0) rfl rfl rfl ?_
  obtain ⟨v1, S1, hcS1, h⟩ := cl_some h
  refine p_callV (k := 14) [] [] rfl (tX5_fails hcS1) lay_X5 rfl lc_X5_fails ml_RX5_244 mi_X5_fails mv_X5_fails (by decide) (by decide) (Nat.le_of_ble_eq_true rfl) rfl ?_
  refine p_if_eq (k := 15) 34 rfl (by decide) (fun hc => ?_) (fun hc => ?_)
  · rw [if_pos hc] at h
    refine p_iconst (k := 18) 0 rfl (by decide) ?_
    refine p_msk [false, false, false] (L2 := [none, none, none]) rfl ?_
    exact sX5_isNumber_L35 h
  · rw [if_neg hc] at h
    refine p_msk [false, false, false] (L2 := [none, none, none]) rfl ?_
    exact sX5_isNumber_L30 h
def fX5_isNumber (a1 : Int32) (a2 : Int32) (S : St) : Option (Int32 × St) :=
  if (S 41 11) = 2 then
    cl (fX5_isIn (Int32.toInt64 (S 41 14)) (Int32.toInt64 a1) (Int32.toInt64 a2) S) fun v1 S1 =>
    if v1 = 0 then
      fX5_isNumber_L23 S1
    else
      fX5_isNumber_L30 S1
  else
    fX5_isNumber_L23 S
theorem sX5_isNumber {a1 : Int32} {a2 : Int32} {S : St} {r : Int32} {S9 : St} (h : fX5_isNumber a1 a2 S = some (r, S9)) : PW mX5_isNumber (some (.int r), S9) 0 [some (.ref 41), some (.int a1), some (.int a2)] [] S := by
  unfold fX5_isNumber at h
  refine p_aload_n (k := 0) (i := 0) rfl rfl rfl ?_
  refine p_geti (k := 1) rfl lay_X5 rfl fl_RX5_228 ?_
  refine p_iconst (k := 2) 2 rfl (by decide) ?_
  refine p_icmp_ne (k := 3) 23 rfl (by decide) (fun hc => ?_) (fun hc => ?_)
  · rw [if_neg hc] at h
    refine p_msk [true, false, false] (L2 := [some (.ref 41), none, none]) rfl ?_
    exact sX5_isNumber_L23 h
  · rw [if_pos hc] at h
    refine p_aload_n (k := 4) (i := 0) rfl rfl rfl ?_
    refine p_geti (k := 5) rfl lay_X5 rfl fl_RX5_231 ?_
    refine p_i2l (k := 6) rfl ?_
    refine p_iload_n (k := 7) (i := 1) rfl rfl rfl ?_
    refine p_i2l (k := 8) rfl ?_
    refine p_iload_n (k := 9) (i := 2) rfl rfl rfl ?_
    refine p_i2l (k := 10) rfl ?_
    obtain ⟨v1, S1, hcS1, h⟩ := cl_some h
    refine p_callS (k := 11) [.long (Int32.toInt64 (S 41 14)), .long (Int32.toInt64 a1), .long (Int32.toInt64 a2)] [] rfl (tX5_isIn hcS1) lc_X5_isIn ml_RX5_49 ms_X5_isIn (by decide) (by decide) (Nat.le_of_ble_eq_true rfl) rfl ?_
    refine p_if_ne (k := 12) 30 rfl (by decide) (fun hc => ?_) (fun hc => ?_)
    · rw [if_neg hc] at h
      refine p_msk [false, false, false] (L2 := [none, none, none]) rfl ?_
      exact sX5_isNumber_L30 h
    · rw [if_pos hc] at h
      refine p_msk [true, false, false] (L2 := [some (.ref 41), none, none]) rfl ?_
      exact sX5_isNumber_L23 h
theorem tX5_isNumber {a1 : Int32} {a2 : Int32} {S : St} {r : Int32} {S9 : St} (h : fX5_isNumber a1 a2 S = some (r, S9)) : MR yX5_isNumber cX5_isNumber mX5_isNumber [.ref 41, .int a1, .int a2] S (some (.int r), S9) := MR.of (n := 0) okX5_isNumber rfl rfl (sX5_isNumber h)
-- kindHere()I
def fX5_kindHere_L143 (y0 : Int32) (S : St) : Option (Int32 × St) :=
  some (y0, S)
theorem sX5_kindHere_L143 {r : Int32} {S9 : St} {y0 : Int32} {S : St} (h : fX5_kindHere_L143 y0 S = some (r, S9)) : PW mX5_kindHere (some (.int r), S9) 143 [none] [.int y0] S := by
  unfold fX5_kindHere_L143 at h
  exact s_iret h (k := 75) rfl rfl
def fX5_kindHere_L142 (S : St) : Option (Int32 × St) :=
  fX5_kindHere_L143 (-1) S
theorem sX5_kindHere_L142 {r : Int32} {S9 : St}  {S : St} (h : fX5_kindHere_L142 S = some (r, S9)) : PW mX5_kindHere (some (.int r), S9) 142 [none] [] S := by
  unfold fX5_kindHere_L142 at h
  refine p_iconst (k := 74) (-1) rfl (by decide) ?_
  refine p_msk [false] (L2 := [none]) rfl ?_
  exact sX5_kindHere_L143 h
def fX5_kindHere_L96 (S : St) : Option (Int32 × St) :=
  cl (fX5_isFive 119 104 105 116 101 S) fun v1 S1 =>
  if v1 = 0 then
    cl (fX5_isWord 3 S1) fun v2 S2 =>
    if v2 = 0 then
      fX5_kindHere_L142 S2
    else
      cl (fX5_has3 0 107 105 100 S2) fun v3 S3 =>
      if v3 = 0 then
        fX5_kindHere_L142 S3
      else
        fX5_kindHere_L143 6 S3
  else
    some (5, S1)
theorem sX5_kindHere_L96 {r : Int32} {S9 : St}  {S : St} (h : fX5_kindHere_L96 S = some (r, S9)) : PW mX5_kindHere (some (.int r), S9) 96 [some (.ref 41)] [] S := by
  unfold fX5_kindHere_L96 at h
  refine p_aload_n (k := 51) (i := 0) rfl rfl rfl ?_
  refine p_bipush (k := 52) 119 rfl (by decide) ?_
  refine p_bipush (k := 53) 104 rfl (by decide) ?_
  refine p_bipush (k := 54) 105 rfl (by decide) ?_
  refine p_bipush (k := 55) 116 rfl (by decide) ?_
  refine p_bipush (k := 56) 101 rfl (by decide) ?_
  obtain ⟨v1, S1, hcS1, h⟩ := cl_some h
  refine p_callV (k := 57) [.int 119, .int 104, .int 105, .int 116, .int 101] [] rfl (tX5_isFive hcS1) lay_X5 rfl lc_X5_isFive ml_RX5_251 mi_X5_isFive mv_X5_isFive (by decide) (by decide) (Nat.le_of_ble_eq_true rfl) rfl ?_
  refine p_if_eq (k := 58) 115 rfl (by decide) (fun hc => ?_) (fun hc => ?_)
  · rw [if_pos hc] at h
    refine p_aload_n (k := 61) (i := 0) rfl rfl rfl ?_
    refine p_iconst (k := 62) 3 rfl (by decide) ?_
    obtain ⟨v2, S2, hcS2, h⟩ := cl_some h
    refine p_callV (k := 63) [.int 3] [] rfl (tX5_isWord hcS2) lay_X5 rfl lc_X5_isWord ml_RX5_237 mi_X5_isWord mv_X5_isWord (by decide) (by decide) (Nat.le_of_ble_eq_true rfl) rfl ?_
    refine p_if_eq (k := 64) 142 rfl (by decide) (fun hc => ?_) (fun hc => ?_)
    · rw [if_pos hc] at h
      refine p_msk [false] (L2 := [none]) rfl ?_
      exact sX5_kindHere_L142 h
    · rw [if_neg hc] at h
      refine p_aload_n (k := 65) (i := 0) rfl rfl rfl ?_
      refine p_iconst (k := 66) 0 rfl (by decide) ?_
      refine p_bipush (k := 67) 107 rfl (by decide) ?_
      refine p_bipush (k := 68) 105 rfl (by decide) ?_
      refine p_bipush (k := 69) 100 rfl (by decide) ?_
      obtain ⟨v3, S3, hcS3, h⟩ := cl_some h
      refine p_callV (k := 70) [.int 0, .int 107, .int 105, .int 100] [] rfl (tX5_has3 hcS3) lay_X5 rfl lc_X5_has3 ml_RX5_240 mi_X5_has3 mv_X5_has3 (by decide) (by decide) (Nat.le_of_ble_eq_true rfl) rfl ?_
      refine p_if_eq (k := 71) 142 rfl (by decide) (fun hc => ?_) (fun hc => ?_)
      · rw [if_pos hc] at h
        refine p_msk [false] (L2 := [none]) rfl ?_
        exact sX5_kindHere_L142 h
      · rw [if_neg hc] at h
        refine p_bipush (k := 72) 6 rfl (by decide) ?_
        refine p_goto (k := 73) 143 rfl (by decide) ?_
        refine p_msk [false] (L2 := [none]) rfl ?_
        exact sX5_kindHere_L143 h
  · rw [if_neg hc] at h
    refine p_iconst (k := 59) 5 rfl (by decide) ?_
    exact s_iret h (k := 60) rfl rfl
def fX5_kindHere (S : St) : Option (Int32 × St) :=
  cl (fX5_isFour 103 111 97 116 S) fun v1 S1 =>
  if v1 = 0 then
    cl (fX5_isFive 110 97 110 110 121 S1) fun v2 S2 =>
    if v2 = 0 then
      cl (fX5_isFive 98 105 108 108 121 S2) fun v3 S3 =>
      if v3 = 0 then
        cl (fX5_isFour 103 114 101 121 S3) fun v4 S4 =>
        if v4 = 0 then
          cl (fX5_isWord 3 S4) fun v5 S5 =>
          if v5 = 0 then
            fX5_kindHere_L96 S5
          else
            cl (fX5_has3 0 111 108 100 S5) fun v6 S6 =>
            if v6 = 0 then
              fX5_kindHere_L96 S6
            else
              some (4, S6)
        else
          some (3, S4)
      else
        some (2, S3)
    else
      some (1, S2)
  else
    some (0, S1)
theorem sX5_kindHere {S : St} {r : Int32} {S9 : St} (h : fX5_kindHere S = some (r, S9)) : PW mX5_kindHere (some (.int r), S9) 0 [some (.ref 41)] [] S := by
  unfold fX5_kindHere at h
  refine p_aload_n (k := 0) (i := 0) rfl rfl rfl ?_
  refine p_bipush (k := 1) 103 rfl (by decide) ?_
  refine p_bipush (k := 2) 111 rfl (by decide) ?_
  refine p_bipush (k := 3) 97 rfl (by decide) ?_
  refine p_bipush (k := 4) 116 rfl (by decide) ?_
  obtain ⟨v1, S1, hcS1, h⟩ := cl_some h
  refine p_callV (k := 5) [.int 103, .int 111, .int 97, .int 116] [] rfl (tX5_isFour hcS1) lay_X5 rfl lc_X5_isFour ml_RX5_248 mi_X5_isFour mv_X5_isFour (by decide) (by decide) (Nat.le_of_ble_eq_true rfl) rfl ?_
  refine p_if_eq (k := 6) 17 rfl (by decide) (fun hc => ?_) (fun hc => ?_)
  · rw [if_pos hc] at h
    refine p_aload_n (k := 9) (i := 0) rfl rfl rfl ?_
    refine p_bipush (k := 10) 110 rfl (by decide) ?_
    refine p_bipush (k := 11) 97 rfl (by decide) ?_
    refine p_bipush (k := 12) 110 rfl (by decide) ?_
    refine p_bipush (k := 13) 110 rfl (by decide) ?_
    refine p_bipush (k := 14) 121 rfl (by decide) ?_
    obtain ⟨v2, S2, hcS2, h⟩ := cl_some h
    refine p_callV (k := 15) [.int 110, .int 97, .int 110, .int 110, .int 121] [] rfl (tX5_isFive hcS2) lay_X5 rfl lc_X5_isFive ml_RX5_251 mi_X5_isFive mv_X5_isFive (by decide) (by decide) (Nat.le_of_ble_eq_true rfl) rfl ?_
    refine p_if_eq (k := 16) 36 rfl (by decide) (fun hc => ?_) (fun hc => ?_)
    · rw [if_pos hc] at h
      refine p_aload_n (k := 19) (i := 0) rfl rfl rfl ?_
      refine p_bipush (k := 20) 98 rfl (by decide) ?_
      refine p_bipush (k := 21) 105 rfl (by decide) ?_
      refine p_bipush (k := 22) 108 rfl (by decide) ?_
      refine p_bipush (k := 23) 108 rfl (by decide) ?_
      refine p_bipush (k := 24) 121 rfl (by decide) ?_
      obtain ⟨v3, S3, hcS3, h⟩ := cl_some h
      refine p_callV (k := 25) [.int 98, .int 105, .int 108, .int 108, .int 121] [] rfl (tX5_isFive hcS3) lay_X5 rfl lc_X5_isFive ml_RX5_251 mi_X5_isFive mv_X5_isFive (by decide) (by decide) (Nat.le_of_ble_eq_true rfl) rfl ?_
      refine p_if_eq (k := 26) 55 rfl (by decide) (fun hc => ?_) (fun hc => ?_)
      · rw [if_pos hc] at h
        refine p_aload_n (k := 29) (i := 0) rfl rfl rfl ?_
        refine p_bipush (k := 30) 103 rfl (by decide) ?_
        refine p_bipush (k := 31) 114 rfl (by decide) ?_
        refine p_bipush (k := 32) 101 rfl (by decide) ?_
        refine p_bipush (k := 33) 121 rfl (by decide) ?_
        obtain ⟨v4, S4, hcS4, h⟩ := cl_some h
        refine p_callV (k := 34) [.int 103, .int 114, .int 101, .int 121] [] rfl (tX5_isFour hcS4) lay_X5 rfl lc_X5_isFour ml_RX5_248 mi_X5_isFour mv_X5_isFour (by decide) (by decide) (Nat.le_of_ble_eq_true rfl) rfl ?_
        refine p_if_eq (k := 35) 72 rfl (by decide) (fun hc => ?_) (fun hc => ?_)
        · rw [if_pos hc] at h
          refine p_aload_n (k := 38) (i := 0) rfl rfl rfl ?_
          refine p_iconst (k := 39) 3 rfl (by decide) ?_
          obtain ⟨v5, S5, hcS5, h⟩ := cl_some h
          refine p_callV (k := 40) [.int 3] [] rfl (tX5_isWord hcS5) lay_X5 rfl lc_X5_isWord ml_RX5_237 mi_X5_isWord mv_X5_isWord (by decide) (by decide) (Nat.le_of_ble_eq_true rfl) rfl ?_
          refine p_if_eq (k := 41) 96 rfl (by decide) (fun hc => ?_) (fun hc => ?_)
          · rw [if_pos hc] at h
            refine p_msk [true] (L2 := [some (.ref 41)]) rfl ?_
            exact sX5_kindHere_L96 h
          · rw [if_neg hc] at h
            refine p_aload_n (k := 42) (i := 0) rfl rfl rfl ?_
            refine p_iconst (k := 43) 0 rfl (by decide) ?_
            refine p_bipush (k := 44) 111 rfl (by decide) ?_
            refine p_bipush (k := 45) 108 rfl (by decide) ?_
            refine p_bipush (k := 46) 100 rfl (by decide) ?_
            obtain ⟨v6, S6, hcS6, h⟩ := cl_some h
            refine p_callV (k := 47) [.int 0, .int 111, .int 108, .int 100] [] rfl (tX5_has3 hcS6) lay_X5 rfl lc_X5_has3 ml_RX5_240 mi_X5_has3 mv_X5_has3 (by decide) (by decide) (Nat.le_of_ble_eq_true rfl) rfl ?_
            refine p_if_eq (k := 48) 96 rfl (by decide) (fun hc => ?_) (fun hc => ?_)
            · rw [if_pos hc] at h
              refine p_msk [true] (L2 := [some (.ref 41)]) rfl ?_
              exact sX5_kindHere_L96 h
            · rw [if_neg hc] at h
              refine p_iconst (k := 49) 4 rfl (by decide) ?_
              exact s_iret h (k := 50) rfl rfl
        · rw [if_neg hc] at h
          refine p_iconst (k := 36) 3 rfl (by decide) ?_
          exact s_iret h (k := 37) rfl rfl
      · rw [if_neg hc] at h
        refine p_iconst (k := 27) 2 rfl (by decide) ?_
        exact s_iret h (k := 28) rfl rfl
    · rw [if_neg hc] at h
      refine p_iconst (k := 17) 1 rfl (by decide) ?_
      exact s_iret h (k := 18) rfl rfl
  · rw [if_neg hc] at h
    refine p_iconst (k := 7) 0 rfl (by decide) ?_
    exact s_iret h (k := 8) rfl rfl
theorem tX5_kindHere {S : St} {r : Int32} {S9 : St} (h : fX5_kindHere S = some (r, S9)) : MR yX5_kindHere cX5_kindHere mX5_kindHere [.ref 41] S (some (.int r), S9) := MR.of (n := 0) okX5_kindHere rfl rfl (sX5_kindHere h)
-- perhaps(ZII)Z
def fX5_perhaps (a1 : Int32) (a2 : Int32) (a3 : Int32) (S : St) : Option (Int32 × St) :=
  if a1 = 0 then
    retN .boolean 1 S
  else
    cl (fX5_nextToken S) fun _ S1 =>
    cl (fX5_isNumber 0 a3 S1) fun v1 S2 =>
    if v1 = 0 then
      retN .boolean 0 S2
    else
      wr S2 42 75 a2 (S2 41 14) fun S3 =>
      cl (fX5_nextToken S3) fun _ S4 =>
      retN .boolean 1 S4
theorem sX5_perhaps {a1 : Int32} {a2 : Int32} {a3 : Int32} {S : St} {r : Int32} {S9 : St} (h : fX5_perhaps a1 a2 a3 S = some (r, S9)) : PW mX5_perhaps (some (.int r), S9) 0 [some (.ref 41), some (.int a1), some (.int a2), some (.int a3)] [] S := by
  unfold fX5_perhaps at h
  refine p_iload_n (k := 0) (i := 1) rfl rfl rfl ?_
  refine p_if_ne (k := 1) 6 rfl (by decide) (fun hc => ?_) (fun hc => ?_)
  · rw [if_neg hc] at h
    refine p_aload_n (k := 4) (i := 0) rfl rfl rfl ?_
    obtain ⟨_, S1, hcS1, h⟩ := cl_some h
    refine p_callV (k := 5) [] [] rfl (tX5_nextToken hcS1) lay_X5 rfl lc_X5_nextToken ml_RX5_255 mi_X5_nextToken mv_X5_nextToken (by decide) (by decide) (Nat.le_of_ble_eq_true rfl) rfl ?_
    refine p_aload_n (k := 6) (i := 0) rfl rfl rfl ?_
    refine p_iconst (k := 7) 0 rfl (by decide) ?_
    refine p_iload_n (k := 8) (i := 3) rfl rfl rfl ?_
    obtain ⟨v1, S2, hcS2, h⟩ := cl_some h
    refine p_callV (k := 9) [.int 0, .int a3] [] rfl (tX5_isNumber hcS2) lay_X5 rfl lc_X5_isNumber ml_RX5_258 mi_X5_isNumber mv_X5_isNumber (by decide) (by decide) (Nat.le_of_ble_eq_true rfl) rfl ?_
    refine p_if_ne (k := 10) 21 rfl (by decide) (fun hc => ?_) (fun hc => ?_)
    · rw [if_neg hc] at h
      refine p_aload_n (k := 13) (i := 0) rfl rfl rfl ?_
      refine p_getr (k := 14) rfl lay_X5 rfl fl_RX5_7 ?_
      refine p_iload_n (k := 15) (i := 2) rfl rfl rfl ?_
      refine p_aload_n (k := 16) (i := 0) rfl rfl rfl ?_
      refine p_geti (k := 17) rfl lay_X5 rfl fl_RX5_231 ?_
      refine s_wr h (k := 18) rfl lay_42 (fun S3 h => ?_)
      refine p_aload_n (k := 19) (i := 0) rfl rfl rfl ?_
      obtain ⟨_, S4, hcS4, h⟩ := cl_some h
      refine p_callV (k := 20) [] [] rfl (tX5_nextToken hcS4) lay_X5 rfl lc_X5_nextToken ml_RX5_255 mi_X5_nextToken mv_X5_nextToken (by decide) (by decide) (Nat.le_of_ble_eq_true rfl) rfl ?_
      refine p_iconst (k := 21) 1 rfl (by decide) ?_
      exact s_zret h (k := 22) rfl rfl
    · rw [if_pos hc] at h
      refine p_iconst (k := 11) 0 rfl (by decide) ?_
      exact s_zret h (k := 12) rfl rfl
  · rw [if_pos hc] at h
    refine p_iconst (k := 2) 1 rfl (by decide) ?_
    exact s_zret h (k := 3) rfl rfl
theorem tX5_perhaps {a1 : Int32} {a2 : Int32} {a3 : Int32} {S : St} {r : Int32} {S9 : St} (h : fX5_perhaps a1 a2 a3 S = some (r, S9)) : MR yX5_perhaps cX5_perhaps mX5_perhaps [.ref 41, .int a1, .int a2, .int a3] S (some (.int r), S9) := MR.of (n := 0) okX5_perhaps rfl rfl (sX5_perhaps h)
-- goatHere(I)Z
def fX5_goatHere_L165 (y0 : Int32) (S : St) : Option (Int32 × St) :=
  retN .boolean y0 S
theorem sX5_goatHere_L165 {r : Int32} {S9 : St} {y0 : Int32} {S : St} (h : fX5_goatHere_L165 y0 S = some (r, S9)) : PW mX5_goatHere (some (.int r), S9) 165 [none, none, none] [.int y0] S := by
  unfold fX5_goatHere_L165 at h
  exact s_zret h (k := 89) rfl rfl
def fX5_goatHere_L164 (S : St) : Option (Int32 × St) :=
  fX5_goatHere_L165 0 S
theorem sX5_goatHere_L164 {r : Int32} {S9 : St}  {S : St} (h : fX5_goatHere_L164 S = some (r, S9)) : PW mX5_goatHere (some (.int r), S9) 164 [none, none, none] [] S := by
  unfold fX5_goatHere_L164 at h
  refine p_iconst (k := 88) 0 rfl (by decide) ?_
  refine p_msk [false, false, false] (L2 := [none, none, none]) rfl ?_
  exact sX5_goatHere_L165 h
def fX5_goatHere_L147 (x2 : Int32) (y1 : Int32) (S : St) : Option (Int32 × St) :=
  cl (fX5_at x2 4 S) fun v1 S1 =>
  cl (fX5_perhaps y1 v1 99 S1) fun v2 S2 =>
  if v2 = 0 then
    fX5_goatHere_L164 S2
  else
    fX5_goatHere_L165 1 S2
theorem sX5_goatHere_L147 {r : Int32} {S9 : St} {x2 : Int32} {y1 : Int32} {S : St} (h : fX5_goatHere_L147 x2 y1 S = some (r, S9)) : PW mX5_goatHere (some (.int r), S9) 147 [none, none, some (.int x2)] [.int y1, .ref 41] S := by
  unfold fX5_goatHere_L147 at h
  refine p_iload_n (k := 80) (i := 2) rfl rfl rfl ?_
  refine p_iconst (k := 81) 4 rfl (by decide) ?_
  obtain ⟨v1, S1, hcS1, h⟩ := cl_some h
  refine p_callS (k := 82) [.int x2, .int 4] [.int y1, .ref 41] rfl (tX5_at hcS1) lc_X5_at ml_RX5_72 ms_X5_at (by decide) (by decide) (Nat.le_of_ble_eq_true rfl) rfl ?_
  refine p_bipush (k := 83) 99 rfl (by decide) ?_
  obtain ⟨v2, S2, hcS2, h⟩ := cl_some h
  refine p_callV (k := 84) [.int y1, .int v1, .int 99] [] rfl (tX5_perhaps hcS2) lay_X5 rfl lc_X5_perhaps ml_RX5_261 mi_X5_perhaps mv_X5_perhaps (by decide) (by decide) (Nat.le_of_ble_eq_true rfl) rfl ?_
  refine p_if_eq (k := 85) 164 rfl (by decide) (fun hc => ?_) (fun hc => ?_)
  · rw [if_pos hc] at h
    refine p_msk [false, false, false] (L2 := [none, none, none]) rfl ?_
    exact sX5_goatHere_L164 h
  · rw [if_neg hc] at h
    refine p_iconst (k := 86) 1 rfl (by decide) ?_
    refine p_goto (k := 87) 165 rfl (by decide) ?_
    refine p_msk [false, false, false] (L2 := [none, none, none]) rfl ?_
    exact sX5_goatHere_L165 h
def fX5_goatHere_L146 (x2 : Int32) (S : St) : Option (Int32 × St) :=
  fX5_goatHere_L147 x2 0 S
theorem sX5_goatHere_L146 {r : Int32} {S9 : St} {x2 : Int32} {S : St} (h : fX5_goatHere_L146 x2 S = some (r, S9)) : PW mX5_goatHere (some (.int r), S9) 146 [none, none, some (.int x2)] [.ref 41] S := by
  unfold fX5_goatHere_L146 at h
  refine p_iconst (k := 79) 0 rfl (by decide) ?_
  refine p_msk [false, false, true] (L2 := [none, none, some (.int x2)]) rfl ?_
  exact sX5_goatHere_L147 h
def fX5_goatHere_L78 (x2 : Int32) (y1 : Int32) (S : St) : Option (Int32 × St) :=
  cl (fX5_at x2 1 S) fun v1 S1 =>
  cl (fX5_perhaps y1 v1 11 S1) fun v2 S2 =>
  if v2 = 0 then
    fX5_goatHere_L164 S2
  else
    cl (fX5_isFive 107 110 111 119 115 S2) fun v3 S3 =>
    cl (fX5_at x2 2 S3) fun v4 S4 =>
    cl (fX5_perhaps v3 v4 65535 S4) fun v5 S5 =>
    if v5 = 0 then
      fX5_goatHere_L164 S5
    else
      cl (fX5_isWord 3 S5) fun v6 S6 =>
      if v6 = 0 then
        fX5_goatHere_L146 x2 S6
      else
        cl (fX5_has3 0 102 101 100 S6) fun v7 S7 =>
        if v7 = 0 then
          fX5_goatHere_L146 x2 S7
        else
          fX5_goatHere_L147 x2 1 S7
theorem sX5_goatHere_L78 {r : Int32} {S9 : St} {x2 : Int32} {y1 : Int32} {S : St} (h : fX5_goatHere_L78 x2 y1 S = some (r, S9)) : PW mX5_goatHere (some (.int r), S9) 78 [some (.ref 41), none, some (.int x2)] [.int y1, .ref 41] S := by
  unfold fX5_goatHere_L78 at h
  refine p_iload_n (k := 45) (i := 2) rfl rfl rfl ?_
  refine p_iconst (k := 46) 1 rfl (by decide) ?_
  obtain ⟨v1, S1, hcS1, h⟩ := cl_some h
  refine p_callS (k := 47) [.int x2, .int 1] [.int y1, .ref 41] rfl (tX5_at hcS1) lc_X5_at ml_RX5_72 ms_X5_at (by decide) (by decide) (Nat.le_of_ble_eq_true rfl) rfl ?_
  refine p_bipush (k := 48) 11 rfl (by decide) ?_
  obtain ⟨v2, S2, hcS2, h⟩ := cl_some h
  refine p_callV (k := 49) [.int y1, .int v1, .int 11] [] rfl (tX5_perhaps hcS2) lay_X5 rfl lc_X5_perhaps ml_RX5_261 mi_X5_perhaps mv_X5_perhaps (by decide) (by decide) (Nat.le_of_ble_eq_true rfl) rfl ?_
  refine p_if_eq (k := 50) 164 rfl (by decide) (fun hc => ?_) (fun hc => ?_)
  · rw [if_pos hc] at h
    refine p_msk [false, false, false] (L2 := [none, none, none]) rfl ?_
    exact sX5_goatHere_L164 h
  · rw [if_neg hc] at h
    refine p_aload_n (k := 51) (i := 0) rfl rfl rfl ?_
    refine p_aload_n (k := 52) (i := 0) rfl rfl rfl ?_
    refine p_bipush (k := 53) 107 rfl (by decide) ?_
    refine p_bipush (k := 54) 110 rfl (by decide) ?_
    refine p_bipush (k := 55) 111 rfl (by decide) ?_
    refine p_bipush (k := 56) 119 rfl (by decide) ?_
    refine p_bipush (k := 57) 115 rfl (by decide) ?_
    obtain ⟨v3, S3, hcS3, h⟩ := cl_some h
    refine p_callV (k := 58) [.int 107, .int 110, .int 111, .int 119, .int 115] [.ref 41] rfl (tX5_isFive hcS3) lay_X5 rfl lc_X5_isFive ml_RX5_251 mi_X5_isFive mv_X5_isFive (by decide) (by decide) (Nat.le_of_ble_eq_true rfl) rfl ?_
    refine p_iload_n (k := 59) (i := 2) rfl rfl rfl ?_
    refine p_iconst (k := 60) 2 rfl (by decide) ?_
    obtain ⟨v4, S4, hcS4, h⟩ := cl_some h
    refine p_callS (k := 61) [.int x2, .int 2] [.int v3, .ref 41] rfl (tX5_at hcS4) lc_X5_at ml_RX5_72 ms_X5_at (by decide) (by decide) (Nat.le_of_ble_eq_true rfl) rfl ?_
    refine p_ldc (k := 62) rfl k_RX5_112 ?_
    obtain ⟨v5, S5, hcS5, h⟩ := cl_some h
    refine p_callV (k := 63) [.int v3, .int v4, .int 65535] [] rfl (tX5_perhaps hcS5) lay_X5 rfl lc_X5_perhaps ml_RX5_261 mi_X5_perhaps mv_X5_perhaps (by decide) (by decide) (Nat.le_of_ble_eq_true rfl) rfl ?_
    refine p_if_eq (k := 64) 164 rfl (by decide) (fun hc => ?_) (fun hc => ?_)
    · rw [if_pos hc] at h
      refine p_msk [false, false, false] (L2 := [none, none, none]) rfl ?_
      exact sX5_goatHere_L164 h
    · rw [if_neg hc] at h
      refine p_aload_n (k := 65) (i := 0) rfl rfl rfl ?_
      refine p_aload_n (k := 66) (i := 0) rfl rfl rfl ?_
      refine p_iconst (k := 67) 3 rfl (by decide) ?_
      obtain ⟨v6, S6, hcS6, h⟩ := cl_some h
      refine p_callV (k := 68) [.int 3] [.ref 41] rfl (tX5_isWord hcS6) lay_X5 rfl lc_X5_isWord ml_RX5_237 mi_X5_isWord mv_X5_isWord (by decide) (by decide) (Nat.le_of_ble_eq_true rfl) rfl ?_
      refine p_if_eq (k := 69) 146 rfl (by decide) (fun hc => ?_) (fun hc => ?_)
      · rw [if_pos hc] at h
        refine p_msk [false, false, true] (L2 := [none, none, some (.int x2)]) rfl ?_
        exact sX5_goatHere_L146 h
      · rw [if_neg hc] at h
        refine p_aload_n (k := 70) (i := 0) rfl rfl rfl ?_
        refine p_iconst (k := 71) 0 rfl (by decide) ?_
        refine p_bipush (k := 72) 102 rfl (by decide) ?_
        refine p_bipush (k := 73) 101 rfl (by decide) ?_
        refine p_bipush (k := 74) 100 rfl (by decide) ?_
        obtain ⟨v7, S7, hcS7, h⟩ := cl_some h
        refine p_callV (k := 75) [.int 0, .int 102, .int 101, .int 100] [.ref 41] rfl (tX5_has3 hcS7) lay_X5 rfl lc_X5_has3 ml_RX5_240 mi_X5_has3 mv_X5_has3 (by decide) (by decide) (Nat.le_of_ble_eq_true rfl) rfl ?_
        refine p_if_eq (k := 76) 146 rfl (by decide) (fun hc => ?_) (fun hc => ?_)
        · rw [if_pos hc] at h
          refine p_msk [false, false, true] (L2 := [none, none, some (.int x2)]) rfl ?_
          exact sX5_goatHere_L146 h
        · rw [if_neg hc] at h
          refine p_iconst (k := 77) 1 rfl (by decide) ?_
          refine p_goto (k := 78) 147 rfl (by decide) ?_
          refine p_msk [false, false, true] (L2 := [none, none, some (.int x2)]) rfl ?_
          exact sX5_goatHere_L147 h
def fX5_goatHere_L77 (x2 : Int32) (S : St) : Option (Int32 × St) :=
  fX5_goatHere_L78 x2 0 S
theorem sX5_goatHere_L77 {r : Int32} {S9 : St} {x2 : Int32} {S : St} (h : fX5_goatHere_L77 x2 S = some (r, S9)) : PW mX5_goatHere (some (.int r), S9) 77 [some (.ref 41), none, some (.int x2)] [.ref 41] S := by
  unfold fX5_goatHere_L77 at h
  refine p_iconst (k := 44) 0 rfl (by decide) ?_
  refine p_msk [true, false, true] (L2 := [some (.ref 41), none, some (.int x2)]) rfl ?_
  exact sX5_goatHere_L78 h
def fX5_goatHere (a1 : Int32) (S : St) : Option (Int32 × St) :=
  rd S 42 75 0 fun v1 =>
  if v1 = 8 then
    cl (fX5_fails S) fun v7 S6 =>
    retN .boolean v7 S6
  else
    cl (fX5_comes a1 0 0 S) fun _ S1 =>
    rd S1 42 75 0 fun v2 =>
    bnd (v2 - 1) fun v3 =>
    cl (fX5_nextToken S1) fun _ S2 =>
    cl (fX5_isWord 2 S2) fun v4 S3 =>
    if v4 = 0 then
      fX5_goatHere_L77 v3 S3
    else
      cl (fX5_byteAt (S3 41 12) S3) fun v5 S4 =>
      if v5 = 111 then
        cl (fX5_byteAt ((S4 41 12) + 1) S4) fun v6 S5 =>
        if v6 = 110 then
          fX5_goatHere_L78 v3 1 S5
        else
          fX5_goatHere_L77 v3 S5
      else
        fX5_goatHere_L77 v3 S4
theorem sX5_goatHere {a1 : Int32} {S : St} {r : Int32} {S9 : St} (h : fX5_goatHere a1 S = some (r, S9)) : PW mX5_goatHere (some (.int r), S9) 0 [some (.ref 41), some (.int a1), none] [] S := by
  unfold fX5_goatHere at h
  refine p_aload_n (k := 0) (i := 0) rfl rfl rfl ?_
  refine p_getr (k := 1) rfl lay_X5 rfl fl_RX5_7 ?_
  refine p_iconst (k := 2) 0 rfl (by decide) ?_
  refine s_rd h (k := 3) rfl lay_42 (fun v1 h => ?_)
  refine p_bipush (k := 4) 8 rfl (by decide) ?_
  refine p_icmp_ne (k := 5) 16 rfl (by decide) (fun hc => ?_) (fun hc => ?_)
  · rw [if_neg hc] at h
    refine p_aload_n (k := 9) (i := 0) rfl rfl rfl ?_
    refine p_iload_n (k := 10) (i := 1) rfl rfl rfl ?_
    refine p_iconst (k := 11) 0 rfl (by decide) ?_
    refine p_iconst (k := 12) 0 rfl (by decide) ?_
    obtain ⟨_, S1, hcS1, h⟩ := cl_some h
    refine p_callV (k := 13) [.int a1, .int 0, .int 0] [] rfl (tX5_comes hcS1) lay_X5 rfl lc_X5_comes ml_RX5_78 mi_X5_comes mv_X5_comes (by decide) (by decide) (Nat.le_of_ble_eq_true rfl) rfl ?_
    refine p_aload_n (k := 14) (i := 0) rfl rfl rfl ?_
    refine p_getr (k := 15) rfl lay_X5 rfl fl_RX5_7 ?_
    refine p_iconst (k := 16) 0 rfl (by decide) ?_
    refine s_rd h (k := 17) rfl lay_42 (fun v2 h => ?_)
    refine p_iconst (k := 18) 1 rfl (by decide) ?_
    refine p_isub (k := 19) rfl ?_
    refine s_bnd h (fun v3 h => ?_)
    refine p_istore_n (k := 20) 2 [some (.ref 41), some (.int a1), some (.int v3)] rfl rfl rfl (by decide) rfl ?_
    refine p_aload_n (k := 21) (i := 0) rfl rfl rfl ?_
    obtain ⟨_, S2, hcS2, h⟩ := cl_some h
    refine p_callV (k := 22) [] [] rfl (tX5_nextToken hcS2) lay_X5 rfl lc_X5_nextToken ml_RX5_255 mi_X5_nextToken mv_X5_nextToken (by decide) (by decide) (Nat.le_of_ble_eq_true rfl) rfl ?_
    refine p_aload_n (k := 23) (i := 0) rfl rfl rfl ?_
    refine p_aload_n (k := 24) (i := 0) rfl rfl rfl ?_
    refine p_iconst (k := 25) 2 rfl (by decide) ?_
    obtain ⟨v4, S3, hcS3, h⟩ := cl_some h
    refine p_callV (k := 26) [.int 2] [.ref 41] rfl (tX5_isWord hcS3) lay_X5 rfl lc_X5_isWord ml_RX5_237 mi_X5_isWord mv_X5_isWord (by decide) (by decide) (Nat.le_of_ble_eq_true rfl) rfl ?_
    refine p_if_eq (k := 27) 77 rfl (by decide) (fun hc => ?_) (fun hc => ?_)
    · rw [if_pos hc] at h
      refine p_msk [true, false, true] (L2 := [some (.ref 41), none, some (.int v3)]) rfl ?_
      exact sX5_goatHere_L77 h
    · rw [if_neg hc] at h
      refine p_aload_n (k := 28) (i := 0) rfl rfl rfl ?_
      refine p_aload_n (k := 29) (i := 0) rfl rfl rfl ?_
      refine p_geti (k := 30) rfl lay_X5 rfl fl_RX5_216 ?_
      obtain ⟨v5, S4, hcS4, h⟩ := cl_some h
      refine p_callV (k := 31) [.int (S3 41 12)] [.ref 41] rfl (tX5_byteAt hcS4) lay_X5 rfl lc_X5_byteAt ml_RX5_219 mi_X5_byteAt mv_X5_byteAt (by decide) (by decide) (Nat.le_of_ble_eq_true rfl) rfl ?_
      refine p_bipush (k := 32) 111 rfl (by decide) ?_
      refine p_icmp_ne (k := 33) 77 rfl (by decide) (fun hc => ?_) (fun hc => ?_)
      · rw [if_neg hc] at h
        refine p_msk [true, false, true] (L2 := [some (.ref 41), none, some (.int v3)]) rfl ?_
        exact sX5_goatHere_L77 h
      · rw [if_pos hc] at h
        refine p_aload_n (k := 34) (i := 0) rfl rfl rfl ?_
        refine p_aload_n (k := 35) (i := 0) rfl rfl rfl ?_
        refine p_geti (k := 36) rfl lay_X5 rfl fl_RX5_216 ?_
        refine p_iconst (k := 37) 1 rfl (by decide) ?_
        refine p_iadd (k := 38) rfl ?_
        obtain ⟨v6, S5, hcS5, h⟩ := cl_some h
        refine p_callV (k := 39) [.int ((S4 41 12) + 1)] [.ref 41] rfl (tX5_byteAt hcS5) lay_X5 rfl lc_X5_byteAt ml_RX5_219 mi_X5_byteAt mv_X5_byteAt (by decide) (by decide) (Nat.le_of_ble_eq_true rfl) rfl ?_
        refine p_bipush (k := 40) 110 rfl (by decide) ?_
        refine p_icmp_ne (k := 41) 77 rfl (by decide) (fun hc => ?_) (fun hc => ?_)
        · rw [if_neg hc] at h
          refine p_msk [true, false, true] (L2 := [some (.ref 41), none, some (.int v3)]) rfl ?_
          exact sX5_goatHere_L77 h
        · rw [if_pos hc] at h
          refine p_iconst (k := 42) 1 rfl (by decide) ?_
          refine p_goto (k := 43) 78 rfl (by decide) ?_
          refine p_msk [true, false, true] (L2 := [some (.ref 41), none, some (.int v3)]) rfl ?_
          exact sX5_goatHere_L78 h
  · rw [if_pos hc] at h
    refine p_aload_n (k := 6) (i := 0) rfl rfl rfl ?_
    obtain ⟨v7, S6, hcS6, h⟩ := cl_some h
    refine p_callV (k := 7) [] [] rfl (tX5_fails hcS6) lay_X5 rfl lc_X5_fails ml_RX5_244 mi_X5_fails mv_X5_fails (by decide) (by decide) (Nat.le_of_ble_eq_true rfl) rfl ?_
    exact s_zret h (k := 8) rfl rfl
theorem tX5_goatHere {a1 : Int32} {S : St} {r : Int32} {S9 : St} (h : fX5_goatHere a1 S = some (r, S9)) : MR yX5_goatHere cX5_goatHere mX5_goatHere [.ref 41, .int a1] S (some (.int r), S9) := MR.of (n := 1) okX5_goatHere rfl rfl (sX5_goatHere h)
-- grassHere()Z
def fX5_grassHere_L35 (y0 : Int32) (S : St) : Option (Int32 × St) :=
  retN .boolean y0 S
theorem sX5_grassHere_L35 {r : Int32} {S9 : St} {y0 : Int32} {S : St} (h : fX5_grassHere_L35 y0 S = some (r, S9)) : PW mX5_grassHere (some (.int r), S9) 35 [none] [.int y0] S := by
  unfold fX5_grassHere_L35 at h
  exact s_zret h (k := 19) rfl rfl
def fX5_grassHere_L34 (S : St) : Option (Int32 × St) :=
  fX5_grassHere_L35 0 S
theorem sX5_grassHere_L34 {r : Int32} {S9 : St}  {S : St} (h : fX5_grassHere_L34 S = some (r, S9)) : PW mX5_grassHere (some (.int r), S9) 34 [none] [] S := by
  unfold fX5_grassHere_L34 at h
  refine p_iconst (k := 18) 0 rfl (by decide) ?_
  refine p_msk [false] (L2 := [none]) rfl ?_
  exact sX5_grassHere_L35 h
def fX5_grassHere (S : St) : Option (Int32 × St) :=
  cl (fX5_nextToken S) fun _ S1 =>
  cl (fX5_isNumber 0 11 S1) fun v1 S2 =>
  if v1 = 0 then
    fX5_grassHere_L34 S2
  else
    cl (fX5_perhaps 1 (5 + (S2 41 14)) 99 S2) fun v2 S3 =>
    if v2 = 0 then
      fX5_grassHere_L34 S3
    else
      fX5_grassHere_L35 1 S3
theorem sX5_grassHere {S : St} {r : Int32} {S9 : St} (h : fX5_grassHere S = some (r, S9)) : PW mX5_grassHere (some (.int r), S9) 0 [some (.ref 41)] [] S := by
  unfold fX5_grassHere at h
  refine p_aload_n (k := 0) (i := 0) rfl rfl rfl ?_
  obtain ⟨_, S1, hcS1, h⟩ := cl_some h
  refine p_callV (k := 1) [] [] rfl (tX5_nextToken hcS1) lay_X5 rfl lc_X5_nextToken ml_RX5_255 mi_X5_nextToken mv_X5_nextToken (by decide) (by decide) (Nat.le_of_ble_eq_true rfl) rfl ?_
  refine p_aload_n (k := 2) (i := 0) rfl rfl rfl ?_
  refine p_iconst (k := 3) 0 rfl (by decide) ?_
  refine p_bipush (k := 4) 11 rfl (by decide) ?_
  obtain ⟨v1, S2, hcS2, h⟩ := cl_some h
  refine p_callV (k := 5) [.int 0, .int 11] [] rfl (tX5_isNumber hcS2) lay_X5 rfl lc_X5_isNumber ml_RX5_258 mi_X5_isNumber mv_X5_isNumber (by decide) (by decide) (Nat.le_of_ble_eq_true rfl) rfl ?_
  refine p_if_eq (k := 6) 34 rfl (by decide) (fun hc => ?_) (fun hc => ?_)
  · rw [if_pos hc] at h
    refine p_msk [false] (L2 := [none]) rfl ?_
    exact sX5_grassHere_L34 h
  · rw [if_neg hc] at h
    refine p_aload_n (k := 7) (i := 0) rfl rfl rfl ?_
    refine p_iconst (k := 8) 1 rfl (by decide) ?_
    refine p_iconst (k := 9) 5 rfl (by decide) ?_
    refine p_aload_n (k := 10) (i := 0) rfl rfl rfl ?_
    refine p_geti (k := 11) rfl lay_X5 rfl fl_RX5_231 ?_
    refine p_iadd (k := 12) rfl ?_
    refine p_bipush (k := 13) 99 rfl (by decide) ?_
    obtain ⟨v2, S3, hcS3, h⟩ := cl_some h
    refine p_callV (k := 14) [.int 1, .int (5 + (S2 41 14)), .int 99] [] rfl (tX5_perhaps hcS3) lay_X5 rfl lc_X5_perhaps ml_RX5_261 mi_X5_perhaps mv_X5_perhaps (by decide) (by decide) (Nat.le_of_ble_eq_true rfl) rfl ?_
    refine p_if_eq (k := 15) 34 rfl (by decide) (fun hc => ?_) (fun hc => ?_)
    · rw [if_pos hc] at h
      refine p_msk [false] (L2 := [none]) rfl ?_
      exact sX5_grassHere_L34 h
    · rw [if_neg hc] at h
      refine p_iconst (k := 16) 1 rfl (by decide) ?_
      refine p_goto (k := 17) 35 rfl (by decide) ?_
      refine p_msk [false] (L2 := [none]) rfl ?_
      exact sX5_grassHere_L35 h
theorem tX5_grassHere {S : St} {r : Int32} {S9 : St} (h : fX5_grassHere S = some (r, S9)) : MR yX5_grassHere cX5_grassHere mX5_grassHere [.ref 41] S (some (.int r), S9) := MR.of (n := 0) okX5_grassHere rfl rfl (sX5_grassHere h)
-- itemHere()Z
def fX5_itemHere_L94 (y0 : Int32) (S : St) : Option (Int32 × St) :=
  retN .boolean y0 S
theorem sX5_itemHere_L94 {r : Int32} {S9 : St} {y0 : Int32} {S : St} (h : fX5_itemHere_L94 y0 S = some (r, S9)) : PW mX5_itemHere (some (.int r), S9) 94 [none, none] [.int y0] S := by
  unfold fX5_itemHere_L94 at h
  exact s_zret h (k := 49) rfl rfl
def fX5_itemHere (S : St) : Option (Int32 × St) :=
  cl (fX5_kindHere S) fun v1 S1 =>
  if v1 < 0 then
    cl (fX5_isFive 103 114 97 115 115 S1) fun v2 S2 =>
    if v2 = 0 then
      cl (fX5_isFive 103 114 111 119 115 S2) fun v3 S3 =>
      if v3 = 0 then
        cl (fX5_isFour 115 97 108 116 S3) fun v4 S4 =>
        if v4 = 0 then
          cl (fX5_fails S4) fun v5 S5 =>
          fX5_itemHere_L94 v5 S5
        else
          cl (fX5_perhaps 1 4 9999 S4) fun v6 S6 =>
          fX5_itemHere_L94 v6 S6
      else
        cl (fX5_perhaps 1 3 20 S3) fun v7 S7 =>
        retN .boolean v7 S7
    else
      cl (fX5_grassHere S2) fun v8 S8 =>
      retN .boolean v8 S8
  else
    cl (fX5_goatHere v1 S1) fun v9 S9 =>
    retN .boolean v9 S9
theorem sX5_itemHere {S : St} {r : Int32} {S9 : St} (h : fX5_itemHere S = some (r, S9)) : PW mX5_itemHere (some (.int r), S9) 0 [some (.ref 41), none] [] S := by
  unfold fX5_itemHere at h
  refine p_aload_n (k := 0) (i := 0) rfl rfl rfl ?_
  obtain ⟨v1, S1, hcS1, h⟩ := cl_some h
  refine p_callV (k := 1) [] [] rfl (tX5_kindHere hcS1) lay_X5 rfl lc_X5_kindHere ml_RX5_265 mi_X5_kindHere mv_X5_kindHere (by decide) (by decide) (Nat.le_of_ble_eq_true rfl) rfl ?_
  refine p_istore_n (k := 2) 1 [some (.ref 41), some (.int v1)] rfl rfl rfl (by decide) rfl ?_
  refine p_iload_n (k := 3) (i := 1) rfl rfl rfl ?_
  refine p_if_lt (k := 4) 15 rfl (by decide) (fun hc => ?_) (fun hc => ?_)
  · rw [if_pos hc] at h
    refine p_aload_n (k := 9) (i := 0) rfl rfl rfl ?_
    refine p_bipush (k := 10) 103 rfl (by decide) ?_
    refine p_bipush (k := 11) 114 rfl (by decide) ?_
    refine p_bipush (k := 12) 97 rfl (by decide) ?_
    refine p_bipush (k := 13) 115 rfl (by decide) ?_
    refine p_bipush (k := 14) 115 rfl (by decide) ?_
    obtain ⟨v2, S2, hcS2, h⟩ := cl_some h
    refine p_callV (k := 15) [.int 103, .int 114, .int 97, .int 115, .int 115] [] rfl (tX5_isFive hcS2) lay_X5 rfl lc_X5_isFive ml_RX5_251 mi_X5_isFive mv_X5_isFive (by decide) (by decide) (Nat.le_of_ble_eq_true rfl) rfl ?_
    refine p_if_eq (k := 16) 37 rfl (by decide) (fun hc => ?_) (fun hc => ?_)
    · rw [if_pos hc] at h
      refine p_aload_n (k := 20) (i := 0) rfl rfl rfl ?_
      refine p_bipush (k := 21) 103 rfl (by decide) ?_
      refine p_bipush (k := 22) 114 rfl (by decide) ?_
      refine p_bipush (k := 23) 111 rfl (by decide) ?_
      refine p_bipush (k := 24) 119 rfl (by decide) ?_
      refine p_bipush (k := 25) 115 rfl (by decide) ?_
      obtain ⟨v3, S3, hcS3, h⟩ := cl_some h
      refine p_callV (k := 26) [.int 103, .int 114, .int 111, .int 119, .int 115] [] rfl (tX5_isFive hcS3) lay_X5 rfl lc_X5_isFive ml_RX5_251 mi_X5_isFive mv_X5_isFive (by decide) (by decide) (Nat.le_of_ble_eq_true rfl) rfl ?_
      refine p_if_eq (k := 27) 63 rfl (by decide) (fun hc => ?_) (fun hc => ?_)
      · rw [if_pos hc] at h
        refine p_aload_n (k := 34) (i := 0) rfl rfl rfl ?_
        refine p_bipush (k := 35) 115 rfl (by decide) ?_
        refine p_bipush (k := 36) 97 rfl (by decide) ?_
        refine p_bipush (k := 37) 108 rfl (by decide) ?_
        refine p_bipush (k := 38) 116 rfl (by decide) ?_
        obtain ⟨v4, S4, hcS4, h⟩ := cl_some h
        refine p_callV (k := 39) [.int 115, .int 97, .int 108, .int 116] [] rfl (tX5_isFour hcS4) lay_X5 rfl lc_X5_isFour ml_RX5_248 mi_X5_isFour mv_X5_isFour (by decide) (by decide) (Nat.le_of_ble_eq_true rfl) rfl ?_
        refine p_if_eq (k := 40) 90 rfl (by decide) (fun hc => ?_) (fun hc => ?_)
        · rw [if_pos hc] at h
          refine p_aload_n (k := 47) (i := 0) rfl rfl rfl ?_
          obtain ⟨v5, S5, hcS5, h⟩ := cl_some h
          refine p_callV (k := 48) [] [] rfl (tX5_fails hcS5) lay_X5 rfl lc_X5_fails ml_RX5_244 mi_X5_fails mv_X5_fails (by decide) (by decide) (Nat.le_of_ble_eq_true rfl) rfl ?_
          refine p_msk [false, false] (L2 := [none, none]) rfl ?_
          exact sX5_itemHere_L94 h
        · rw [if_neg hc] at h
          refine p_aload_n (k := 41) (i := 0) rfl rfl rfl ?_
          refine p_iconst (k := 42) 1 rfl (by decide) ?_
          refine p_iconst (k := 43) 4 rfl (by decide) ?_
          refine p_sipush (k := 44) 9999 rfl (by decide) ?_
          obtain ⟨v6, S6, hcS6, h⟩ := cl_some h
          refine p_callV (k := 45) [.int 1, .int 4, .int 9999] [] rfl (tX5_perhaps hcS6) lay_X5 rfl lc_X5_perhaps ml_RX5_261 mi_X5_perhaps mv_X5_perhaps (by decide) (by decide) (Nat.le_of_ble_eq_true rfl) rfl ?_
          refine p_goto (k := 46) 94 rfl (by decide) ?_
          refine p_msk [false, false] (L2 := [none, none]) rfl ?_
          exact sX5_itemHere_L94 h
      · rw [if_neg hc] at h
        refine p_aload_n (k := 28) (i := 0) rfl rfl rfl ?_
        refine p_iconst (k := 29) 1 rfl (by decide) ?_
        refine p_iconst (k := 30) 3 rfl (by decide) ?_
        refine p_bipush (k := 31) 20 rfl (by decide) ?_
        obtain ⟨v7, S7, hcS7, h⟩ := cl_some h
        refine p_callV (k := 32) [.int 1, .int 3, .int 20] [] rfl (tX5_perhaps hcS7) lay_X5 rfl lc_X5_perhaps ml_RX5_261 mi_X5_perhaps mv_X5_perhaps (by decide) (by decide) (Nat.le_of_ble_eq_true rfl) rfl ?_
        exact s_zret h (k := 33) rfl rfl
    · rw [if_neg hc] at h
      refine p_aload_n (k := 17) (i := 0) rfl rfl rfl ?_
      obtain ⟨v8, S8, hcS8, h⟩ := cl_some h
      refine p_callV (k := 18) [] [] rfl (tX5_grassHere hcS8) lay_X5 rfl lc_X5_grassHere ml_RX5_271 mi_X5_grassHere mv_X5_grassHere (by decide) (by decide) (Nat.le_of_ble_eq_true rfl) rfl ?_
      exact s_zret h (k := 19) rfl rfl
  · rw [if_neg hc] at h
    refine p_aload_n (k := 5) (i := 0) rfl rfl rfl ?_
    refine p_iload_n (k := 6) (i := 1) rfl rfl rfl ?_
    obtain ⟨v9, S9, hcS9, h⟩ := cl_some h
    refine p_callV (k := 7) [.int v1] [] rfl (tX5_goatHere hcS9) lay_X5 rfl lc_X5_goatHere ml_RX5_268 mi_X5_goatHere mv_X5_goatHere (by decide) (by decide) (Nat.le_of_ble_eq_true rfl) rfl ?_
    exact s_zret h (k := 8) rfl rfl
theorem tX5_itemHere {S : St} {r : Int32} {S9 : St} (h : fX5_itemHere S = some (r, S9)) : MR yX5_itemHere cX5_itemHere mX5_itemHere [.ref 41] S (some (.int r), S9) := MR.of (n := 1) okX5_itemHere rfl rfl (sX5_itemHere h)
-- text()I
def fX5_text_L112 (y0 : Int32) (S : St) : Option (Int32 × St) :=
  some (y0, S)
theorem sX5_text_L112 {r : Int32} {S9 : St} {y0 : Int32} {S : St} (h : fX5_text_L112 y0 S = some (r, S9)) : PW mX5_text (some (.int r), S9) 112 [none, none, none] [.int y0] S := by
  unfold fX5_text_L112 at h
  exact s_iret h (k := 58) rfl rfl
def fX5_text_L98 (x1 : Int32) (x2 : Int32) (S : St) : Option (Int32 × St) :=
  if x2 = 0 then
    fX5_text_L112 ((-1) - (S 41 15)) S
  else
    fX5_text_L112 x1 S
theorem sX5_text_L98 {r : Int32} {S9 : St} {x1 : Int32} {x2 : Int32} {S : St} (h : fX5_text_L98 x1 x2 S = some (r, S9)) : PW mX5_text (some (.int r), S9) 98 [some (.ref 41), some (.int x1), some (.int x2)] [] S := by
  unfold fX5_text_L98 at h
  refine p_iload_n (k := 50) (i := 2) rfl rfl rfl ?_
  refine p_if_eq (k := 51) 106 rfl (by decide) (fun hc => ?_) (fun hc => ?_)
  · rw [if_pos hc] at h
    refine p_iconst (k := 54) (-1) rfl (by decide) ?_
    refine p_aload_n (k := 55) (i := 0) rfl rfl rfl ?_
    refine p_geti (k := 56) rfl lay_X5 rfl fl_RX5_234 ?_
    refine p_isub (k := 57) rfl ?_
    refine p_msk [false, false, false] (L2 := [none, none, none]) rfl ?_
    exact sX5_text_L112 h
  · rw [if_neg hc] at h
    refine p_iload_n (k := 52) (i := 1) rfl rfl rfl ?_
    refine p_goto (k := 53) 112 rfl (by decide) ?_
    refine p_msk [false, false, false] (L2 := [none, none, none]) rfl ?_
    exact sX5_text_L112 h
def fX5_text_L77 (x1 : Int32) (y0 : Int32) (S : St) : Option (Int32 × St) :=
  bnd (up2 S 41 7 0) fun S1 =>
  if y0 = 0 then
    cl (fX5_copyRow 44 42 S1) fun _ S2 =>
    fX5_text_L98 x1 y0 S2
  else
    fX5_text_L98 x1 y0 S1
theorem sX5_text_L77 {r : Int32} {S9 : St} {x1 : Int32} {y0 : Int32} {S : St} (h : fX5_text_L77 x1 y0 S = some (r, S9)) : PW mX5_text (some (.int r), S9) 77 [some (.ref 41), some (.int x1), none] [.int y0] S := by
  unfold fX5_text_L77 at h
  refine p_istore_n (k := 39) 2 [some (.ref 41), some (.int x1), some (.int y0)] rfl rfl rfl (by decide) rfl ?_
  refine p_aload_n (k := 40) (i := 0) rfl rfl rfl ?_
  refine p_iconst (k := 41) 0 rfl (by decide) ?_
  refine s_put h (k := 42) rfl lay_X5 rfl fl_RX5_209 fp_5_7 rfl rfl (fun S1 h => ?_)
  refine p_iload_n (k := 43) (i := 2) rfl rfl rfl ?_
  refine p_if_ne (k := 44) 98 rfl (by decide) (fun hc => ?_) (fun hc => ?_)
  · rw [if_neg hc] at h
    refine p_msk [true, true, true] (L2 := [some (.ref 41), some (.int x1), some (.int y0)]) rfl ?_
    exact sX5_text_L98 h
  · rw [if_pos hc] at h
    refine p_aload_n (k := 45) (i := 0) rfl rfl rfl ?_
    refine p_getr (k := 46) rfl lay_X5 rfl fl_RX5_16 ?_
    refine p_aload_n (k := 47) (i := 0) rfl rfl rfl ?_
    refine p_getr (k := 48) rfl lay_X5 rfl fl_RX5_7 ?_
    obtain ⟨_, S2, hcS2, h⟩ := cl_some h
    refine p_callS (k := 49) [.ref 44, .ref 42] [] rfl (tX5_copyRow lay_44 lay_42 hcS2) lc_X5_copyRow ml_RX5_164 ms_X5_copyRow (by decide) (by decide) (Nat.le_of_ble_eq_true rfl) rfl ?_
    refine p_msk [true, true, true] (L2 := [some (.ref 41), some (.int x1), some (.int y0)]) rfl ?_
    exact sX5_text_L98 h
def fX5_text_L72 (x1 : Int32) (S : St) : Option (Int32 × St) :=
  fX5_text_L77 x1 1 S
theorem sX5_text_L72 {r : Int32} {S9 : St} {x1 : Int32} {S : St} (h : fX5_text_L72 x1 S = some (r, S9)) : PW mX5_text (some (.int r), S9) 72 [some (.ref 41), some (.int x1), none] [] S := by
  unfold fX5_text_L72 at h
  refine p_iconst (k := 36) 1 rfl (by decide) ?_
  refine p_goto (k := 37) 77 rfl (by decide) ?_
  refine p_msk [true, true, false] (L2 := [some (.ref 41), some (.int x1), none]) rfl ?_
  exact sX5_text_L77 h
def fX5_text_L76 (x1 : Int32) (S : St) : Option (Int32 × St) :=
  fX5_text_L77 x1 0 S
theorem sX5_text_L76 {r : Int32} {S9 : St} {x1 : Int32} {S : St} (h : fX5_text_L76 x1 S = some (r, S9)) : PW mX5_text (some (.int r), S9) 76 [some (.ref 41), some (.int x1), none] [] S := by
  unfold fX5_text_L76 at h
  refine p_iconst (k := 38) 0 rfl (by decide) ?_
  refine p_msk [true, true, false] (L2 := [some (.ref 41), some (.int x1), none]) rfl ?_
  exact sX5_text_L77 h
def fX5_text_L54 (x1 : Int32) (x2 : Int32) (S : St) : Option (Int32 × St) :=
  if x2 = 0 then
    fX5_text_L76 x1 S
  else
    if (S 41 11) = 0 then
      fX5_text_L72 x1 S
    else
      cl (fX5_fails S) fun v1 S1 =>
      if v1 = 0 then
        fX5_text_L76 x1 S1
      else
        fX5_text_L72 x1 S1
theorem sX5_text_L54 {r : Int32} {S9 : St} {x1 : Int32} {x2 : Int32} {S : St} (h : fX5_text_L54 x1 x2 S = some (r, S9)) : PW mX5_text (some (.int r), S9) 54 [some (.ref 41), some (.int x1), some (.int x2)] [] S := by
  unfold fX5_text_L54 at h
  refine p_iload_n (k := 28) (i := 2) rfl rfl rfl ?_
  refine p_if_eq (k := 29) 76 rfl (by decide) (fun hc => ?_) (fun hc => ?_)
  · rw [if_pos hc] at h
    refine p_msk [true, true, false] (L2 := [some (.ref 41), some (.int x1), none]) rfl ?_
    exact sX5_text_L76 h
  · rw [if_neg hc] at h
    refine p_aload_n (k := 30) (i := 0) rfl rfl rfl ?_
    refine p_geti (k := 31) rfl lay_X5 rfl fl_RX5_228 ?_
    refine p_if_eq (k := 32) 72 rfl (by decide) (fun hc => ?_) (fun hc => ?_)
    · rw [if_pos hc] at h
      refine p_msk [true, true, false] (L2 := [some (.ref 41), some (.int x1), none]) rfl ?_
      exact sX5_text_L72 h
    · rw [if_neg hc] at h
      refine p_aload_n (k := 33) (i := 0) rfl rfl rfl ?_
      obtain ⟨v1, S1, hcS1, h⟩ := cl_some h
      refine p_callV (k := 34) [] [] rfl (tX5_fails hcS1) lay_X5 rfl lc_X5_fails ml_RX5_244 mi_X5_fails mv_X5_fails (by decide) (by decide) (Nat.le_of_ble_eq_true rfl) rfl ?_
      refine p_if_eq (k := 35) 76 rfl (by decide) (fun hc => ?_) (fun hc => ?_)
      · rw [if_pos hc] at h
        refine p_msk [true, true, false] (L2 := [some (.ref 41), some (.int x1), none]) rfl ?_
        exact sX5_text_L76 h
      · rw [if_neg hc] at h
        refine p_msk [true, true, false] (L2 := [some (.ref 41), some (.int x1), none]) rfl ?_
        exact sX5_text_L72 h
def fX5_text_L27 : Nat → Int32 → Int32 → St → Option (Int32 × St)
  | 0 => fun _ _ _ => none
  | n + 1 => fun x1 x2 S =>
    if x2 = 0 then
      fX5_text_L54 x1 x2 S
    else
      if (S 41 11) = 3 then
        cl (fX5_nextToken S) fun _ S1 =>
        cl (fX5_itemHere S1) fun v1 S2 =>
        bnd (x1 + 1) fun v2 =>
        fX5_text_L27 n v2 v1 S2
      else
        fX5_text_L54 x1 x2 S
theorem sX5_text_L27 {r : Int32} {S9 : St} : ∀ (n : Nat) (x1 : Int32) (x2 : Int32) (S : St), fX5_text_L27 n x1 x2 S = some (r, S9) → PW mX5_text (some (.int r), S9) 27 [some (.ref 41), some (.int x1), some (.int x2)] [] S := by
  intro n
  induction n with
  | zero => intro x1 x2 S h; cases h
  | succ n ih =>
    intro x1 x2 S h
    unfold fX5_text_L27 at h
    refine p_iload_n (k := 15) (i := 2) rfl rfl rfl ?_
    refine p_if_eq (k := 16) 54 rfl (by decide) (fun hc => ?_) (fun hc => ?_)
    · rw [if_pos hc] at h
      refine p_msk [true, true, true] (L2 := [some (.ref 41), some (.int x1), some (.int x2)]) rfl ?_
      exact sX5_text_L54 h
    · rw [if_neg hc] at h
      refine p_aload_n (k := 17) (i := 0) rfl rfl rfl ?_
      refine p_geti (k := 18) rfl lay_X5 rfl fl_RX5_228 ?_
      refine p_iconst (k := 19) 3 rfl (by decide) ?_
      refine p_icmp_ne (k := 20) 54 rfl (by decide) (fun hc => ?_) (fun hc => ?_)
      · rw [if_neg hc] at h
        refine p_msk [true, true, true] (L2 := [some (.ref 41), some (.int x1), some (.int x2)]) rfl ?_
        exact sX5_text_L54 h
      · rw [if_pos hc] at h
        refine p_aload_n (k := 21) (i := 0) rfl rfl rfl ?_
        obtain ⟨_, S1, hcS1, h⟩ := cl_some h
        refine p_callV (k := 22) [] [] rfl (tX5_nextToken hcS1) lay_X5 rfl lc_X5_nextToken ml_RX5_255 mi_X5_nextToken mv_X5_nextToken (by decide) (by decide) (Nat.le_of_ble_eq_true rfl) rfl ?_
        refine p_aload_n (k := 23) (i := 0) rfl rfl rfl ?_
        obtain ⟨v1, S2, hcS2, h⟩ := cl_some h
        refine p_callV (k := 24) [] [] rfl (tX5_itemHere hcS2) lay_X5 rfl lc_X5_itemHere ml_RX5_274 mi_X5_itemHere mv_X5_itemHere (by decide) (by decide) (Nat.le_of_ble_eq_true rfl) rfl ?_
        refine p_istore_n (k := 25) 2 [some (.ref 41), some (.int x1), some (.int v1)] rfl rfl rfl (by decide) rfl ?_
        obtain ⟨v2, ev2, h⟩ := bnd_ex h
        refine p_iinc (k := 26) v2 [some (.ref 41), some (.int v2), some (.int v1)] rfl rfl (by rw [← ev2]; rfl) rfl (by decide) rfl ?_
        refine p_goto (k := 27) 27 rfl (by decide) ?_
        refine p_msk [true, true, true] (L2 := [some (.ref 41), some (.int v2), some (.int v1)]) rfl ?_
        exact ih _ _ _ h
def fX5_text (S : St) : Option (Int32 × St) :=
  cl (fX5_copyRow 42 44 S) fun _ S1 =>
  bnd (up2 S1 41 13 0) fun S2 =>
  cl (fX5_nextToken S2) fun _ S3 =>
  cl (fX5_itemHere S3) fun v1 S4 =>
  fX5_text_L27 FU 1 v1 S4
theorem sX5_text {S : St} {r : Int32} {S9 : St} (h : fX5_text S = some (r, S9)) : PW mX5_text (some (.int r), S9) 0 [some (.ref 41), none, none] [] S := by
  unfold fX5_text at h
  refine p_aload_n (k := 0) (i := 0) rfl rfl rfl ?_
  refine p_getr (k := 1) rfl lay_X5 rfl fl_RX5_7 ?_
  refine p_aload_n (k := 2) (i := 0) rfl rfl rfl ?_
  refine p_getr (k := 3) rfl lay_X5 rfl fl_RX5_16 ?_
  obtain ⟨_, S1, hcS1, h⟩ := cl_some h
  refine p_callS (k := 4) [.ref 42, .ref 44] [] rfl (tX5_copyRow lay_42 lay_44 hcS1) lc_X5_copyRow ml_RX5_164 ms_X5_copyRow (by decide) (by decide) (Nat.le_of_ble_eq_true rfl) rfl ?_
  refine p_aload_n (k := 5) (i := 0) rfl rfl rfl ?_
  refine p_iconst (k := 6) 0 rfl (by decide) ?_
  refine s_put h (k := 7) rfl lay_X5 rfl fl_RX5_213 fp_5_13 rfl rfl (fun S2 h => ?_)
  refine p_aload_n (k := 8) (i := 0) rfl rfl rfl ?_
  obtain ⟨_, S3, hcS3, h⟩ := cl_some h
  refine p_callV (k := 9) [] [] rfl (tX5_nextToken hcS3) lay_X5 rfl lc_X5_nextToken ml_RX5_255 mi_X5_nextToken mv_X5_nextToken (by decide) (by decide) (Nat.le_of_ble_eq_true rfl) rfl ?_
  refine p_iconst (k := 10) 1 rfl (by decide) ?_
  refine p_istore_n (k := 11) 1 [some (.ref 41), some (.int 1), none] rfl rfl rfl (by decide) rfl ?_
  refine p_aload_n (k := 12) (i := 0) rfl rfl rfl ?_
  obtain ⟨v1, S4, hcS4, h⟩ := cl_some h
  refine p_callV (k := 13) [] [] rfl (tX5_itemHere hcS4) lay_X5 rfl lc_X5_itemHere ml_RX5_274 mi_X5_itemHere mv_X5_itemHere (by decide) (by decide) (Nat.le_of_ble_eq_true rfl) rfl ?_
  refine p_istore_n (k := 14) 2 [some (.ref 41), some (.int 1), some (.int v1)] rfl rfl rfl (by decide) rfl ?_
  refine p_msk [true, true, true] (L2 := [some (.ref 41), some (.int 1), some (.int v1)]) rfl ?_
  exact sX5_text_L27 _ _ _ _ h
theorem tX5_text {S : St} {r : Int32} {S9 : St} (h : fX5_text S = some (r, S9)) : MR yX5_text cX5_text mX5_text [.ref 41] S (some (.int r), S9) := MR.of (n := 2) okX5_text rfl rfl (sX5_text h)
-- hold(II)I
def fX5_hold_L25 (S : St) : Option (Int32 × St) :=
  cl (fX5_finds (-1000001) S) fun v1 S1 =>
  some (v1, S1)
theorem sX5_hold_L25 {r : Int32} {S9 : St}  {S : St} (h : fX5_hold_L25 S = some (r, S9)) : PW mX5_hold (some (.int r), S9) 25 [some (.ref 41), none, none] [] S := by
  unfold fX5_hold_L25 at h
  refine p_aload_n (k := 13) (i := 0) rfl rfl rfl ?_
  refine p_ldc (k := 14) rfl k_RX5_37 ?_
  obtain ⟨v1, S1, hcS1, h⟩ := cl_some h
  refine p_callV (k := 15) [.int (-1000001)] [] rfl (tX5_finds hcS1) lay_X5 rfl lc_X5_finds ml_RX5_39 mi_X5_finds mv_X5_finds (by decide) (by decide) (Nat.le_of_ble_eq_true rfl) rfl ?_
  exact s_iret h (k := 16) rfl rfl
def fX5_hold_L32 (x1 : Int32) (x2 : Int32) (S : St) : Option (Int32 × St) :=
  wr S 42 75 (65 + x1) x2 fun S1 =>
  some (1, S1)
theorem sX5_hold_L32 {r : Int32} {S9 : St} {x1 : Int32} {x2 : Int32} {S : St} (h : fX5_hold_L32 x1 x2 S = some (r, S9)) : PW mX5_hold (some (.int r), S9) 32 [some (.ref 41), some (.int x1), some (.int x2)] [] S := by
  unfold fX5_hold_L32 at h
  refine p_aload_n (k := 17) (i := 0) rfl rfl rfl ?_
  refine p_getr (k := 18) rfl lay_X5 rfl fl_RX5_7 ?_
  refine p_bipush (k := 19) 65 rfl (by decide) ?_
  refine p_iload_n (k := 20) (i := 1) rfl rfl rfl ?_
  refine p_iadd (k := 21) rfl ?_
  refine p_iload_n (k := 22) (i := 2) rfl rfl rfl ?_
  refine s_wr h (k := 23) rfl lay_42 (fun S1 h => ?_)
  refine p_iconst (k := 24) 1 rfl (by decide) ?_
  exact s_iret h (k := 25) rfl rfl
def fX5_hold (a1 : Int32) (a2 : Int32) (S : St) : Option (Int32 × St) :=
  cl (fX5_isIn (Int32.toInt64 a1) 0 9 S) fun v1 S1 =>
  if v1 = 0 then
    fX5_hold_L25 S1
  else
    if a2 = (-1) then
      fX5_hold_L32 a1 a2 S1
    else
      cl (fX5_isGoat a2 S1) fun v2 S2 =>
      if v2 = 0 then
        fX5_hold_L25 S2
      else
        fX5_hold_L32 a1 a2 S2
theorem sX5_hold {a1 : Int32} {a2 : Int32} {S : St} {r : Int32} {S9 : St} (h : fX5_hold a1 a2 S = some (r, S9)) : PW mX5_hold (some (.int r), S9) 0 [some (.ref 41), some (.int a1), some (.int a2)] [] S := by
  unfold fX5_hold at h
  refine p_iload_n (k := 0) (i := 1) rfl rfl rfl ?_
  refine p_i2l (k := 1) rfl ?_
  refine p_lconst (k := 2) 0 rfl (by decide) ?_
  refine p_ldc2 (k := 3) rfl k_RX5_98 ?_
  obtain ⟨v1, S1, hcS1, h⟩ := cl_some h
  refine p_callS (k := 4) [.long (Int32.toInt64 a1), .long 0, .long 9] [] rfl (tX5_isIn hcS1) lc_X5_isIn ml_RX5_49 ms_X5_isIn (by decide) (by decide) (Nat.le_of_ble_eq_true rfl) rfl ?_
  refine p_if_eq (k := 5) 25 rfl (by decide) (fun hc => ?_) (fun hc => ?_)
  · rw [if_pos hc] at h
    refine p_msk [true, false, false] (L2 := [some (.ref 41), none, none]) rfl ?_
    exact sX5_hold_L25 h
  · rw [if_neg hc] at h
    refine p_iload_n (k := 6) (i := 2) rfl rfl rfl ?_
    refine p_iconst (k := 7) (-1) rfl (by decide) ?_
    refine p_icmp_eq (k := 8) 32 rfl (by decide) (fun hc => ?_) (fun hc => ?_)
    · rw [if_pos hc] at h
      refine p_msk [true, true, true] (L2 := [some (.ref 41), some (.int a1), some (.int a2)]) rfl ?_
      exact sX5_hold_L32 h
    · rw [if_neg hc] at h
      refine p_aload_n (k := 9) (i := 0) rfl rfl rfl ?_
      refine p_iload_n (k := 10) (i := 2) rfl rfl rfl ?_
      obtain ⟨v2, S2, hcS2, h⟩ := cl_some h
      refine p_callV (k := 11) [.int a2] [] rfl (tX5_isGoat hcS2) lay_X5 rfl lc_X5_isGoat ml_RX5_95 mi_X5_isGoat mv_X5_isGoat (by decide) (by decide) (Nat.le_of_ble_eq_true rfl) rfl ?_
      refine p_if_ne (k := 12) 32 rfl (by decide) (fun hc => ?_) (fun hc => ?_)
      · rw [if_neg hc] at h
        refine p_msk [true, true, true] (L2 := [some (.ref 41), some (.int a1), some (.int a2)]) rfl ?_
        exact sX5_hold_L32 h
      · rw [if_pos hc] at h
        refine p_msk [true, false, false] (L2 := [some (.ref 41), none, none]) rfl ?_
        exact sX5_hold_L25 h
theorem tX5_hold {a1 : Int32} {a2 : Int32} {S : St} {r : Int32} {S9 : St} (h : fX5_hold a1 a2 S = some (r, S9)) : MR yX5_hold cX5_hold mX5_hold [.ref 41, .int a1, .int a2] S (some (.int r), S9) := MR.of (n := 0) okX5_hold rfl rfl (sX5_hold h)
-- isUnder(II)Z
def fX5_isUnder_L50 (y0 : Int32) (S : St) : Option (Int32 × St) :=
  retN .boolean y0 S
theorem sX5_isUnder_L50 {r : Int32} {S9 : St} {y0 : Int32} {S : St} (h : fX5_isUnder_L50 y0 S = some (r, S9)) : PW mX5_isUnder (some (.int r), S9) 50 [none, none] [.int y0] S := by
  unfold fX5_isUnder_L50 at h
  exact s_zret h (k := 29) rfl rfl
def fX5_isUnder_L45 (S : St) : Option (Int32 × St) :=
  fX5_isUnder_L50 1 S
theorem sX5_isUnder_L45 {r : Int32} {S9 : St}  {S : St} (h : fX5_isUnder_L45 S = some (r, S9)) : PW mX5_isUnder (some (.int r), S9) 45 [none, none] [] S := by
  unfold fX5_isUnder_L45 at h
  refine p_iconst (k := 26) 1 rfl (by decide) ?_
  refine p_goto (k := 27) 50 rfl (by decide) ?_
  refine p_msk [false, false] (L2 := [none, none]) rfl ?_
  exact sX5_isUnder_L50 h
def fX5_isUnder_L49 (S : St) : Option (Int32 × St) :=
  fX5_isUnder_L50 0 S
theorem sX5_isUnder_L49 {r : Int32} {S9 : St}  {S : St} (h : fX5_isUnder_L49 S = some (r, S9)) : PW mX5_isUnder (some (.int r), S9) 49 [none, none] [] S := by
  unfold fX5_isUnder_L49 at h
  refine p_iconst (k := 28) 0 rfl (by decide) ?_
  refine p_msk [false, false] (L2 := [none, none]) rfl ?_
  exact sX5_isUnder_L50 h
def fX5_isUnder_L34 (x0 : Int32) (x1 : Int32) (S : St) : Option (Int32 × St) :=
  if x1 = 1 then
    if x0 = 6 then
      fX5_isUnder_L45 S
    else
      fX5_isUnder_L49 S
  else
    fX5_isUnder_L49 S
theorem sX5_isUnder_L34 {r : Int32} {S9 : St} {x0 : Int32} {x1 : Int32} {S : St} (h : fX5_isUnder_L34 x0 x1 S = some (r, S9)) : PW mX5_isUnder (some (.int r), S9) 34 [some (.int x0), some (.int x1)] [] S := by
  unfold fX5_isUnder_L34 at h
  refine p_iload_n (k := 20) (i := 1) rfl rfl rfl ?_
  refine p_iconst (k := 21) 1 rfl (by decide) ?_
  refine p_icmp_ne (k := 22) 49 rfl (by decide) (fun hc => ?_) (fun hc => ?_)
  · rw [if_neg hc] at h
    refine p_msk [false, false] (L2 := [none, none]) rfl ?_
    exact sX5_isUnder_L49 h
  · rw [if_pos hc] at h
    refine p_iload_n (k := 23) (i := 0) rfl rfl rfl ?_
    refine p_bipush (k := 24) 6 rfl (by decide) ?_
    refine p_icmp_ne (k := 25) 49 rfl (by decide) (fun hc => ?_) (fun hc => ?_)
    · rw [if_neg hc] at h
      refine p_msk [false, false] (L2 := [none, none]) rfl ?_
      exact sX5_isUnder_L49 h
    · rw [if_pos hc] at h
      refine p_msk [false, false] (L2 := [none, none]) rfl ?_
      exact sX5_isUnder_L45 h
def fX5_isUnder_L24 (x0 : Int32) (x1 : Int32) (S : St) : Option (Int32 × St) :=
  if x1 = 3 then
    if x0 = 4 then
      fX5_isUnder_L45 S
    else
      fX5_isUnder_L34 x0 x1 S
  else
    fX5_isUnder_L34 x0 x1 S
theorem sX5_isUnder_L24 {r : Int32} {S9 : St} {x0 : Int32} {x1 : Int32} {S : St} (h : fX5_isUnder_L24 x0 x1 S = some (r, S9)) : PW mX5_isUnder (some (.int r), S9) 24 [some (.int x0), some (.int x1)] [] S := by
  unfold fX5_isUnder_L24 at h
  refine p_iload_n (k := 14) (i := 1) rfl rfl rfl ?_
  refine p_iconst (k := 15) 3 rfl (by decide) ?_
  refine p_icmp_ne (k := 16) 34 rfl (by decide) (fun hc => ?_) (fun hc => ?_)
  · rw [if_neg hc] at h
    refine p_msk [true, true] (L2 := [some (.int x0), some (.int x1)]) rfl ?_
    exact sX5_isUnder_L34 h
  · rw [if_pos hc] at h
    refine p_iload_n (k := 17) (i := 0) rfl rfl rfl ?_
    refine p_iconst (k := 18) 4 rfl (by decide) ?_
    refine p_icmp_eq (k := 19) 45 rfl (by decide) (fun hc => ?_) (fun hc => ?_)
    · rw [if_pos hc] at h
      refine p_msk [false, false] (L2 := [none, none]) rfl ?_
      exact sX5_isUnder_L45 h
    · rw [if_neg hc] at h
      refine p_msk [true, true] (L2 := [some (.int x0), some (.int x1)]) rfl ?_
      exact sX5_isUnder_L34 h
def fX5_isUnder (a1 : Int32) (a2 : Int32) (S : St) : Option (Int32 × St) :=
  if a2 = 0 then
    fX5_isUnder_L45 S
  else
    if a1 = a2 then
      fX5_isUnder_L45 S
    else
      if a2 = 2 then
        if a1 = 3 then
          fX5_isUnder_L45 S
        else
          if a1 = 4 then
            fX5_isUnder_L45 S
          else
            fX5_isUnder_L24 a1 a2 S
      else
        fX5_isUnder_L24 a1 a2 S
theorem sX5_isUnder {a1 : Int32} {a2 : Int32} {S : St} {r : Int32} {S9 : St} (h : fX5_isUnder a1 a2 S = some (r, S9)) : PW mX5_isUnder (some (.int r), S9) 0 [some (.int a1), some (.int a2)] [] S := by
  unfold fX5_isUnder at h
  refine p_iload_n (k := 0) (i := 1) rfl rfl rfl ?_
  refine p_if_eq (k := 1) 45 rfl (by decide) (fun hc => ?_) (fun hc => ?_)
  · rw [if_pos hc] at h
    refine p_msk [false, false] (L2 := [none, none]) rfl ?_
    exact sX5_isUnder_L45 h
  · rw [if_neg hc] at h
    refine p_iload_n (k := 2) (i := 0) rfl rfl rfl ?_
    refine p_iload_n (k := 3) (i := 1) rfl rfl rfl ?_
    refine p_icmp_eq (k := 4) 45 rfl (by decide) (fun hc => ?_) (fun hc => ?_)
    · rw [if_pos hc] at h
      refine p_msk [false, false] (L2 := [none, none]) rfl ?_
      exact sX5_isUnder_L45 h
    · rw [if_neg hc] at h
      refine p_iload_n (k := 5) (i := 1) rfl rfl rfl ?_
      refine p_iconst (k := 6) 2 rfl (by decide) ?_
      refine p_icmp_ne (k := 7) 24 rfl (by decide) (fun hc => ?_) (fun hc => ?_)
      · rw [if_neg hc] at h
        refine p_msk [true, true] (L2 := [some (.int a1), some (.int a2)]) rfl ?_
        exact sX5_isUnder_L24 h
      · rw [if_pos hc] at h
        refine p_iload_n (k := 8) (i := 0) rfl rfl rfl ?_
        refine p_iconst (k := 9) 3 rfl (by decide) ?_
        refine p_icmp_eq (k := 10) 45 rfl (by decide) (fun hc => ?_) (fun hc => ?_)
        · rw [if_pos hc] at h
          refine p_msk [false, false] (L2 := [none, none]) rfl ?_
          exact sX5_isUnder_L45 h
        · rw [if_neg hc] at h
          refine p_iload_n (k := 11) (i := 0) rfl rfl rfl ?_
          refine p_iconst (k := 12) 4 rfl (by decide) ?_
          refine p_icmp_eq (k := 13) 45 rfl (by decide) (fun hc => ?_) (fun hc => ?_)
          · rw [if_pos hc] at h
            refine p_msk [false, false] (L2 := [none, none]) rfl ?_
            exact sX5_isUnder_L45 h
          · rw [if_neg hc] at h
            refine p_msk [true, true] (L2 := [some (.int a1), some (.int a2)]) rfl ?_
            exact sX5_isUnder_L24 h
theorem tX5_isUnder {a1 : Int32} {a2 : Int32} {S : St} {r : Int32} {S9 : St} (h : fX5_isUnder a1 a2 S = some (r, S9)) : MR yX5_isUnder cX5_isUnder mX5_isUnder [.int a1, .int a2] S (some (.int r), S9) := MR.of (n := 0) okX5_isUnder rfl rfl (sX5_isUnder h)
-- as(II)I
def fX5_as_L24 (S : St) : Option (Int32 × St) :=
  cl (fX5_finds (-1000001) S) fun v1 S1 =>
  some (v1, S1)
theorem sX5_as_L24 {r : Int32} {S9 : St}  {S : St} (h : fX5_as_L24 S = some (r, S9)) : PW mX5_as (some (.int r), S9) 24 [some (.ref 41), none, none, none] [] S := by
  unfold fX5_as_L24 at h
  refine p_aload_n (k := 12) (i := 0) rfl rfl rfl ?_
  refine p_ldc (k := 13) rfl k_RX5_37 ?_
  obtain ⟨v1, S1, hcS1, h⟩ := cl_some h
  refine p_callV (k := 14) [.int (-1000001)] [] rfl (tX5_finds hcS1) lay_X5 rfl lc_X5_finds ml_RX5_39 mi_X5_finds mv_X5_finds (by decide) (by decide) (Nat.le_of_ble_eq_true rfl) rfl ?_
  exact s_iret h (k := 15) rfl rfl
def fX5_as_L77 (y0 : Int32) (S : St) : Option (Int32 × St) :=
  some (y0, S)
theorem sX5_as_L77 {r : Int32} {S9 : St} {y0 : Int32} {S : St} (h : fX5_as_L77 y0 S = some (r, S9)) : PW mX5_as (some (.int r), S9) 77 [none, none, none, none] [.int y0] S := by
  unfold fX5_as_L77 at h
  exact s_iret h (k := 41) rfl rfl
def fX5_as (a1 : Int32) (a2 : Int32) (S : St) : Option (Int32 × St) :=
  cl (fX5_isIn (Int32.toInt64 a1) 0 9 S) fun v1 S1 =>
  if v1 = 0 then
    fX5_as_L24 S1
  else
    cl (fX5_isIn (Int32.toInt64 a2) 0 6 S1) fun v2 S2 =>
    if v2 = 0 then
      fX5_as_L24 S2
    else
      rd S2 42 75 (65 + a1) fun v3 =>
      if 0 ≤ v3 then
        cl (fX5_its v3 0 S2) fun v4 S3 =>
        cl (fX5_isUnder v4 a2 S3) fun v5 S4 =>
        if v5 = 0 then
          cl (fX5_finds (-1000003) S4) fun v6 S5 =>
          fX5_as_L77 v6 S5
        else
          fX5_as_L77 v3 S4
      else
        cl (fX5_finds (-1000006) S2) fun v7 S6 =>
        some (v7, S6)
theorem sX5_as {a1 : Int32} {a2 : Int32} {S : St} {r : Int32} {S9 : St} (h : fX5_as a1 a2 S = some (r, S9)) : PW mX5_as (some (.int r), S9) 0 [some (.ref 41), some (.int a1), some (.int a2), none] [] S := by
  unfold fX5_as at h
  refine p_iload_n (k := 0) (i := 1) rfl rfl rfl ?_
  refine p_i2l (k := 1) rfl ?_
  refine p_lconst (k := 2) 0 rfl (by decide) ?_
  refine p_ldc2 (k := 3) rfl k_RX5_98 ?_
  obtain ⟨v1, S1, hcS1, h⟩ := cl_some h
  refine p_callS (k := 4) [.long (Int32.toInt64 a1), .long 0, .long 9] [] rfl (tX5_isIn hcS1) lc_X5_isIn ml_RX5_49 ms_X5_isIn (by decide) (by decide) (Nat.le_of_ble_eq_true rfl) rfl ?_
  refine p_if_eq (k := 5) 24 rfl (by decide) (fun hc => ?_) (fun hc => ?_)
  · rw [if_pos hc] at h
    refine p_msk [true, false, false, false] (L2 := [some (.ref 41), none, none, none]) rfl ?_
    exact sX5_as_L24 h
  · rw [if_neg hc] at h
    refine p_iload_n (k := 6) (i := 2) rfl rfl rfl ?_
    refine p_i2l (k := 7) rfl ?_
    refine p_lconst (k := 8) 0 rfl (by decide) ?_
    refine p_ldc2 (k := 9) rfl k_RX5_75 ?_
    obtain ⟨v2, S2, hcS2, h⟩ := cl_some h
    refine p_callS (k := 10) [.long (Int32.toInt64 a2), .long 0, .long 6] [] rfl (tX5_isIn hcS2) lc_X5_isIn ml_RX5_49 ms_X5_isIn (by decide) (by decide) (Nat.le_of_ble_eq_true rfl) rfl ?_
    refine p_if_ne (k := 11) 31 rfl (by decide) (fun hc => ?_) (fun hc => ?_)
    · rw [if_neg hc] at h
      refine p_aload_n (k := 16) (i := 0) rfl rfl rfl ?_
      refine p_getr (k := 17) rfl lay_X5 rfl fl_RX5_7 ?_
      refine p_bipush (k := 18) 65 rfl (by decide) ?_
      refine p_iload_n (k := 19) (i := 1) rfl rfl rfl ?_
      refine p_iadd (k := 20) rfl ?_
      refine s_rd h (k := 21) rfl lay_42 (fun v3 h => ?_)
      refine p_istore_n (k := 22) 3 [some (.ref 41), some (.int a1), some (.int a2), some (.int v3)] rfl rfl rfl (by decide) rfl ?_
      refine p_iload_n (k := 23) (i := 3) rfl rfl rfl ?_
      refine p_if_ge (k := 24) 53 rfl (by decide) (fun hc => ?_) (fun hc => ?_)
      · rw [if_pos hc] at h
        refine p_aload_n (k := 29) (i := 0) rfl rfl rfl ?_
        refine p_iload_n (k := 30) (i := 3) rfl rfl rfl ?_
        refine p_iconst (k := 31) 0 rfl (by decide) ?_
        obtain ⟨v4, S3, hcS3, h⟩ := cl_some h
        refine p_callV (k := 32) [.int v3, .int 0] [] rfl (tX5_its hcS3) lay_X5 rfl lc_X5_its ml_RX5_57 mi_X5_its mv_X5_its (by decide) (by decide) (Nat.le_of_ble_eq_true rfl) rfl ?_
        refine p_iload_n (k := 33) (i := 2) rfl rfl rfl ?_
        obtain ⟨v5, S4, hcS4, h⟩ := cl_some h
        refine p_callS (k := 34) [.int v4, .int a2] [] rfl (tX5_isUnder hcS4) lc_X5_isUnder ml_RX5_278 ms_X5_isUnder (by decide) (by decide) (Nat.le_of_ble_eq_true rfl) rfl ?_
        refine p_if_eq (k := 35) 70 rfl (by decide) (fun hc => ?_) (fun hc => ?_)
        · rw [if_pos hc] at h
          refine p_aload_n (k := 38) (i := 0) rfl rfl rfl ?_
          refine p_ldcw (k := 39) rfl k_RX5_281 ?_
          obtain ⟨v6, S5, hcS5, h⟩ := cl_some h
          refine p_callV (k := 40) [.int (-1000003)] [] rfl (tX5_finds hcS5) lay_X5 rfl lc_X5_finds ml_RX5_39 mi_X5_finds mv_X5_finds (by decide) (by decide) (Nat.le_of_ble_eq_true rfl) rfl ?_
          refine p_msk [false, false, false, false] (L2 := [none, none, none, none]) rfl ?_
          exact sX5_as_L77 h
        · rw [if_neg hc] at h
          refine p_iload_n (k := 36) (i := 3) rfl rfl rfl ?_
          refine p_goto (k := 37) 77 rfl (by decide) ?_
          refine p_msk [false, false, false, false] (L2 := [none, none, none, none]) rfl ?_
          exact sX5_as_L77 h
      · rw [if_neg hc] at h
        refine p_aload_n (k := 25) (i := 0) rfl rfl rfl ?_
        refine p_ldcw (k := 26) rfl k_RX5_277 ?_
        obtain ⟨v7, S6, hcS6, h⟩ := cl_some h
        refine p_callV (k := 27) [.int (-1000006)] [] rfl (tX5_finds hcS6) lay_X5 rfl lc_X5_finds ml_RX5_39 mi_X5_finds mv_X5_finds (by decide) (by decide) (Nat.le_of_ble_eq_true rfl) rfl ?_
        exact s_iret h (k := 28) rfl rfl
    · rw [if_pos hc] at h
      refine p_msk [true, false, false, false] (L2 := [some (.ref 41), none, none, none]) rfl ?_
      exact sX5_as_L24 h
theorem tX5_as {a1 : Int32} {a2 : Int32} {S : St} {r : Int32} {S9 : St} (h : fX5_as a1 a2 S = some (r, S9)) : MR yX5_as cX5_as mX5_as [.ref 41, .int a1, .int a2] S (some (.int r), S9) := MR.of (n := 1) okX5_as rfl rfl (sX5_as h)
-- sheet(III)I
def fX5_sheet_L29 (S : St) : Option (Int32 × St) :=
  cl (fX5_finds (-1000001) S) fun v1 S1 =>
  some (v1, S1)
theorem sX5_sheet_L29 {r : Int32} {S9 : St}  {S : St} (h : fX5_sheet_L29 S = some (r, S9)) : PW mX5_sheet (some (.int r), S9) 29 [some (.ref 41), none, none, none, none] [] S := by
  unfold fX5_sheet_L29 at h
  refine p_aload_n (k := 14) (i := 0) rfl rfl rfl ?_
  refine p_ldc (k := 15) rfl k_RX5_37 ?_
  obtain ⟨v1, S1, hcS1, h⟩ := cl_some h
  refine p_callV (k := 16) [.int (-1000001)] [] rfl (tX5_finds hcS1) lay_X5 rfl lc_X5_finds ml_RX5_39 mi_X5_finds mv_X5_finds (by decide) (by decide) (Nat.le_of_ble_eq_true rfl) rfl ?_
  exact s_iret h (k := 17) rfl rfl
def fX5_sheet_L94 : Nat → Int32 → Int32 → St → Option (Int32 × St)
  | 0 => fun _ _ _ => none
  | n + 1 => fun x1 x4 S =>
    if 40 ≤ x4 then
      rd S 49 4 x1 fun v1 =>
      some (v1, S)
    else
      wr S 50 160 ((40 * x1) + x4) 0 fun S1 =>
      bnd (x4 + 1) fun v2 =>
      fX5_sheet_L94 n x1 v2 S1
theorem sX5_sheet_L94 {r : Int32} {S9 : St} : ∀ (n : Nat) (x1 : Int32) (x4 : Int32) (S : St), fX5_sheet_L94 n x1 x4 S = some (r, S9) → PW mX5_sheet (some (.int r), S9) 94 [some (.ref 41), some (.int x1), none, none, some (.int x4)] [] S := by
  intro n
  induction n with
  | zero => intro x1 x4 S h; cases h
  | succ n ih =>
    intro x1 x4 S h
    unfold fX5_sheet_L94 at h
    refine p_iload (k := 51) rfl rfl ?_
    refine p_bipush (k := 52) 40 rfl (by decide) ?_
    refine p_icmp_ge (k := 53) 120 rfl (by decide) (fun hc => ?_) (fun hc => ?_)
    · rw [if_pos hc] at h
      refine p_aload_n (k := 65) (i := 0) rfl rfl rfl ?_
      refine p_getr (k := 66) rfl lay_X5 rfl fl_RX5_31 ?_
      refine p_iload_n (k := 67) (i := 1) rfl rfl rfl ?_
      refine s_rd h (k := 68) rfl lay_49 (fun v1 h => ?_)
      exact s_iret h (k := 69) rfl rfl
    · rw [if_neg hc] at h
      refine p_aload_n (k := 54) (i := 0) rfl rfl rfl ?_
      refine p_getr (k := 55) rfl lay_X5 rfl fl_RX5_34 ?_
      refine p_bipush (k := 56) 40 rfl (by decide) ?_
      refine p_iload_n (k := 57) (i := 1) rfl rfl rfl ?_
      refine p_imul (k := 58) rfl ?_
      refine p_iload (k := 59) rfl rfl ?_
      refine p_iadd (k := 60) rfl ?_
      refine p_iconst (k := 61) 0 rfl (by decide) ?_
      refine s_wr h (k := 62) rfl lay_50 (fun S1 h => ?_)
      obtain ⟨v2, ev2, h⟩ := bnd_ex h
      refine p_iinc (k := 63) v2 [some (.ref 41), some (.int x1), none, none, some (.int v2)] rfl rfl (by rw [← ev2]; rfl) rfl (by decide) rfl ?_
      refine p_goto (k := 64) 94 rfl (by decide) ?_
      refine p_msk [true, true, false, false, true] (L2 := [some (.ref 41), some (.int x1), none, none, some (.int v2)]) rfl ?_
      exact ih _ _ _ h
def fX5_sheet_L90 (x1 : Int32) (y1 : Int32) (y2 : Int32) (S : St) : Option (Int32 × St) :=
  wr S 49 4 y1 y2 fun S1 =>
  fX5_sheet_L94 FU x1 0 S1
theorem sX5_sheet_L90 {r : Int32} {S9 : St} {x1 : Int32} {y1 : Int32} {y2 : Int32} {S : St} (h : fX5_sheet_L90 x1 y1 y2 S = some (r, S9)) : PW mX5_sheet (some (.int r), S9) 90 [some (.ref 41), some (.int x1), none, none, none] [.int y2, .int y1, .ref 49] S := by
  unfold fX5_sheet_L90 at h
  refine s_wr h (k := 48) rfl lay_49 (fun S1 h => ?_)
  refine p_iconst (k := 49) 0 rfl (by decide) ?_
  refine p_istore (k := 50) [some (.ref 41), some (.int x1), none, none, some (.int 0)] rfl rfl (by decide) rfl ?_
  refine p_msk [true, true, false, false, true] (L2 := [some (.ref 41), some (.int x1), none, none, some (.int 0)]) rfl ?_
  exact sX5_sheet_L94 _ _ _ _ h
def fX5_sheet_L75 (x1 : Int32) (x2 : Int32) (x3 : Int32) (y1 : Int32) (y2 : Int32) (S : St) : Option (Int32 × St) :=
  wr S 48 4 y1 y2 fun S1 =>
  if x2 = 0 then
    fX5_sheet_L90 x1 x1 0 S1
  else
    fX5_sheet_L90 x1 x1 x3 S1
theorem sX5_sheet_L75 {r : Int32} {S9 : St} {x1 : Int32} {x2 : Int32} {x3 : Int32} {y1 : Int32} {y2 : Int32} {S : St} (h : fX5_sheet_L75 x1 x2 x3 y1 y2 S = some (r, S9)) : PW mX5_sheet (some (.int r), S9) 75 [some (.ref 41), some (.int x1), some (.int x2), some (.int x3), none] [.int y2, .int y1, .ref 48] S := by
  unfold fX5_sheet_L75 at h
  refine s_wr h (k := 39) rfl lay_48 (fun S1 h => ?_)
  refine p_aload_n (k := 40) (i := 0) rfl rfl rfl ?_
  refine p_getr (k := 41) rfl lay_X5 rfl fl_RX5_31 ?_
  refine p_iload_n (k := 42) (i := 1) rfl rfl rfl ?_
  refine p_iload_n (k := 43) (i := 2) rfl rfl rfl ?_
  refine p_if_ne (k := 44) 89 rfl (by decide) (fun hc => ?_) (fun hc => ?_)
  · rw [if_neg hc] at h
    refine p_iload_n (k := 47) (i := 3) rfl rfl rfl ?_
    refine p_msk [true, true, false, false, false] (L2 := [some (.ref 41), some (.int x1), none, none, none]) rfl ?_
    exact sX5_sheet_L90 h
  · rw [if_pos hc] at h
    refine p_iconst (k := 45) 0 rfl (by decide) ?_
    refine p_goto (k := 46) 90 rfl (by decide) ?_
    refine p_msk [true, true, false, false, false] (L2 := [some (.ref 41), some (.int x1), none, none, none]) rfl ?_
    exact sX5_sheet_L90 h
def fX5_sheet_L36 (x1 : Int32) (x2 : Int32) (x3 : Int32) (S : St) : Option (Int32 × St) :=
  if 0 ≤ x3 then
    if x3 ≤ 40 then
      if x2 = 0 then
        fX5_sheet_L75 x1 x2 x3 x1 (-1) S
      else
        fX5_sheet_L75 x1 x2 x3 x1 x2 S
    else
      cl (fX5_finds (-1000001) S) fun v1 S1 =>
      some (v1, S1)
  else
    cl (fX5_finds (-1000007) S) fun v2 S2 =>
    some (v2, S2)
theorem sX5_sheet_L36 {r : Int32} {S9 : St} {x1 : Int32} {x2 : Int32} {x3 : Int32} {S : St} (h : fX5_sheet_L36 x1 x2 x3 S = some (r, S9)) : PW mX5_sheet (some (.int r), S9) 36 [some (.ref 41), some (.int x1), some (.int x2), some (.int x3), none] [] S := by
  unfold fX5_sheet_L36 at h
  refine p_iload_n (k := 18) (i := 3) rfl rfl rfl ?_
  refine p_if_ge (k := 19) 48 rfl (by decide) (fun hc => ?_) (fun hc => ?_)
  · rw [if_pos hc] at h
    refine p_iload_n (k := 24) (i := 3) rfl rfl rfl ?_
    refine p_bipush (k := 25) 40 rfl (by decide) ?_
    refine p_icmp_le (k := 26) 61 rfl (by decide) (fun hc => ?_) (fun hc => ?_)
    · rw [if_pos hc] at h
      refine p_aload_n (k := 31) (i := 0) rfl rfl rfl ?_
      refine p_getr (k := 32) rfl lay_X5 rfl fl_RX5_28 ?_
      refine p_iload_n (k := 33) (i := 1) rfl rfl rfl ?_
      refine p_iload_n (k := 34) (i := 2) rfl rfl rfl ?_
      refine p_if_ne (k := 35) 74 rfl (by decide) (fun hc => ?_) (fun hc => ?_)
      · rw [if_neg hc] at h
        refine p_iload_n (k := 38) (i := 2) rfl rfl rfl ?_
        refine p_msk [true, true, true, true, false] (L2 := [some (.ref 41), some (.int x1), some (.int x2), some (.int x3), none]) rfl ?_
        exact sX5_sheet_L75 h
      · rw [if_pos hc] at h
        refine p_iconst (k := 36) (-1) rfl (by decide) ?_
        refine p_goto (k := 37) 75 rfl (by decide) ?_
        refine p_msk [true, true, true, true, false] (L2 := [some (.ref 41), some (.int x1), some (.int x2), some (.int x3), none]) rfl ?_
        exact sX5_sheet_L75 h
    · rw [if_neg hc] at h
      refine p_aload_n (k := 27) (i := 0) rfl rfl rfl ?_
      refine p_ldc (k := 28) rfl k_RX5_37 ?_
      obtain ⟨v1, S1, hcS1, h⟩ := cl_some h
      refine p_callV (k := 29) [.int (-1000001)] [] rfl (tX5_finds hcS1) lay_X5 rfl lc_X5_finds ml_RX5_39 mi_X5_finds mv_X5_finds (by decide) (by decide) (Nat.le_of_ble_eq_true rfl) rfl ?_
      exact s_iret h (k := 30) rfl rfl
  · rw [if_neg hc] at h
    refine p_aload_n (k := 20) (i := 0) rfl rfl rfl ?_
    refine p_ldcw (k := 21) rfl k_RX5_285 ?_
    obtain ⟨v2, S2, hcS2, h⟩ := cl_some h
    refine p_callV (k := 22) [.int (-1000007)] [] rfl (tX5_finds hcS2) lay_X5 rfl lc_X5_finds ml_RX5_39 mi_X5_finds mv_X5_finds (by decide) (by decide) (Nat.le_of_ble_eq_true rfl) rfl ?_
    exact s_iret h (k := 23) rfl rfl
def fX5_sheet (a1 : Int32) (a2 : Int32) (a3 : Int32) (S : St) : Option (Int32 × St) :=
  cl (fX5_isSheet a1 S) fun v1 S1 =>
  if v1 = 0 then
    fX5_sheet_L29 S1
  else
    if a2 = 0 then
      fX5_sheet_L36 a1 a2 a3 S1
    else
      if a2 = 8 then
        fX5_sheet_L36 a1 a2 a3 S1
      else
        if a2 = 16 then
          fX5_sheet_L36 a1 a2 a3 S1
        else
          if a2 = 32 then
            fX5_sheet_L36 a1 a2 a3 S1
          else
            fX5_sheet_L29 S1
theorem sX5_sheet {a1 : Int32} {a2 : Int32} {a3 : Int32} {S : St} {r : Int32} {S9 : St} (h : fX5_sheet a1 a2 a3 S = some (r, S9)) : PW mX5_sheet (some (.int r), S9) 0 [some (.ref 41), some (.int a1), some (.int a2), some (.int a3), none] [] S := by
  unfold fX5_sheet at h
  refine p_iload_n (k := 0) (i := 1) rfl rfl rfl ?_
  obtain ⟨v1, S1, hcS1, h⟩ := cl_some h
  refine p_callS (k := 1) [.int a1] [] rfl (tX5_isSheet hcS1) lc_X5_isSheet ml_RX5_282 ms_X5_isSheet (by decide) (by decide) (Nat.le_of_ble_eq_true rfl) rfl ?_
  refine p_if_eq (k := 2) 29 rfl (by decide) (fun hc => ?_) (fun hc => ?_)
  · rw [if_pos hc] at h
    refine p_msk [true, false, false, false, false] (L2 := [some (.ref 41), none, none, none, none]) rfl ?_
    exact sX5_sheet_L29 h
  · rw [if_neg hc] at h
    refine p_iload_n (k := 3) (i := 2) rfl rfl rfl ?_
    refine p_if_eq (k := 4) 36 rfl (by decide) (fun hc => ?_) (fun hc => ?_)
    · rw [if_pos hc] at h
      refine p_msk [true, true, true, true, false] (L2 := [some (.ref 41), some (.int a1), some (.int a2), some (.int a3), none]) rfl ?_
      exact sX5_sheet_L36 h
    · rw [if_neg hc] at h
      refine p_iload_n (k := 5) (i := 2) rfl rfl rfl ?_
      refine p_bipush (k := 6) 8 rfl (by decide) ?_
      refine p_icmp_eq (k := 7) 36 rfl (by decide) (fun hc => ?_) (fun hc => ?_)
      · rw [if_pos hc] at h
        refine p_msk [true, true, true, true, false] (L2 := [some (.ref 41), some (.int a1), some (.int a2), some (.int a3), none]) rfl ?_
        exact sX5_sheet_L36 h
      · rw [if_neg hc] at h
        refine p_iload_n (k := 8) (i := 2) rfl rfl rfl ?_
        refine p_bipush (k := 9) 16 rfl (by decide) ?_
        refine p_icmp_eq (k := 10) 36 rfl (by decide) (fun hc => ?_) (fun hc => ?_)
        · rw [if_pos hc] at h
          refine p_msk [true, true, true, true, false] (L2 := [some (.ref 41), some (.int a1), some (.int a2), some (.int a3), none]) rfl ?_
          exact sX5_sheet_L36 h
        · rw [if_neg hc] at h
          refine p_iload_n (k := 11) (i := 2) rfl rfl rfl ?_
          refine p_bipush (k := 12) 32 rfl (by decide) ?_
          refine p_icmp_eq (k := 13) 36 rfl (by decide) (fun hc => ?_) (fun hc => ?_)
          · rw [if_pos hc] at h
            refine p_msk [true, true, true, true, false] (L2 := [some (.ref 41), some (.int a1), some (.int a2), some (.int a3), none]) rfl ?_
            exact sX5_sheet_L36 h
          · rw [if_neg hc] at h
            refine p_msk [true, false, false, false, false] (L2 := [some (.ref 41), none, none, none, none]) rfl ?_
            exact sX5_sheet_L29 h
theorem tX5_sheet {a1 : Int32} {a2 : Int32} {a3 : Int32} {S : St} {r : Int32} {S9 : St} (h : fX5_sheet a1 a2 a3 S = some (r, S9)) : MR yX5_sheet cX5_sheet mX5_sheet [.ref 41, .int a1, .int a2, .int a3] S (some (.int r), S9) := MR.of (n := 1) okX5_sheet rfl rfl (sX5_sheet h)
-- write(III)I
def fX5_write_L99 (y1 : Int32) (y2 : Int32) (S : St) : Option (Int32 × St) :=
  wr S 50 160 y1 y2 fun S1 =>
  some (1, S1)
theorem sX5_write_L99 {r : Int32} {S9 : St} {y1 : Int32} {y2 : Int32} {S : St} (h : fX5_write_L99 y1 y2 S = some (r, S9)) : PW mX5_write (some (.int r), S9) 99 [none, none, none, none] [.int y2, .int y1, .ref 50] S := by
  unfold fX5_write_L99 at h
  refine s_wr h (k := 58) rfl lay_50 (fun S1 h => ?_)
  refine p_iconst (k := 59) 1 rfl (by decide) ?_
  exact s_iret h (k := 60) rfl rfl
def fX5_write (a1 : Int32) (a2 : Int32) (a3 : Int32) (S : St) : Option (Int32 × St) :=
  cl (fX5_isSheet a1 S) fun v1 S1 =>
  if v1 = 0 then
    cl (fX5_finds (-1000001) S1) fun v9 S5 =>
    some (v9, S5)
  else
    rd S1 48 4 a1 fun v2 =>
    if 0 ≤ v2 then
      rd S1 49 4 a1 fun v3 =>
      cl (fX5_isIn (Int32.toInt64 a2) 0 (Int32.toInt64 (v3 - 1)) S1) fun v4 S2 =>
      if v4 = 0 then
        cl (fX5_finds (-1000001) S2) fun v7 S3 =>
        some (v7, S3)
      else
        rd S2 48 4 a1 fun v5 =>
        if v5 = 8 then
          fX5_write_L99 ((40 * a1) + a2) ((Int32.toInt8 a3).toInt32) S2
        else
          rd S2 48 4 a1 fun v6 =>
          if v6 = 16 then
            fX5_write_L99 ((40 * a1) + a2) ((Int32.toInt16 a3).toInt32) S2
          else
            fX5_write_L99 ((40 * a1) + a2) a3 S2
    else
      cl (fX5_finds (-1000006) S1) fun v8 S4 =>
      some (v8, S4)
theorem sX5_write {a1 : Int32} {a2 : Int32} {a3 : Int32} {S : St} {r : Int32} {S9 : St} (h : fX5_write a1 a2 a3 S = some (r, S9)) : PW mX5_write (some (.int r), S9) 0 [some (.ref 41), some (.int a1), some (.int a2), some (.int a3)] [] S := by
  unfold fX5_write at h
  refine p_iload_n (k := 0) (i := 1) rfl rfl rfl ?_
  obtain ⟨v1, S1, hcS1, h⟩ := cl_some h
  refine p_callS (k := 1) [.int a1] [] rfl (tX5_isSheet hcS1) lc_X5_isSheet ml_RX5_282 ms_X5_isSheet (by decide) (by decide) (Nat.le_of_ble_eq_true rfl) rfl ?_
  refine p_if_ne (k := 2) 14 rfl (by decide) (fun hc => ?_) (fun hc => ?_)
  · rw [if_neg hc] at h
    refine p_aload_n (k := 7) (i := 0) rfl rfl rfl ?_
    refine p_getr (k := 8) rfl lay_X5 rfl fl_RX5_28 ?_
    refine p_iload_n (k := 9) (i := 1) rfl rfl rfl ?_
    refine s_rd h (k := 10) rfl lay_48 (fun v2 h => ?_)
    refine p_if_ge (k := 11) 31 rfl (by decide) (fun hc => ?_) (fun hc => ?_)
    · rw [if_pos hc] at h
      refine p_iload_n (k := 16) (i := 2) rfl rfl rfl ?_
      refine p_i2l (k := 17) rfl ?_
      refine p_lconst (k := 18) 0 rfl (by decide) ?_
      refine p_aload_n (k := 19) (i := 0) rfl rfl rfl ?_
      refine p_getr (k := 20) rfl lay_X5 rfl fl_RX5_31 ?_
      refine p_iload_n (k := 21) (i := 1) rfl rfl rfl ?_
      refine s_rd h (k := 22) rfl lay_49 (fun v3 h => ?_)
      refine p_iconst (k := 23) 1 rfl (by decide) ?_
      refine p_isub (k := 24) rfl ?_
      refine p_i2l (k := 25) rfl ?_
      obtain ⟨v4, S2, hcS2, h⟩ := cl_some h
      refine p_callS (k := 26) [.long (Int32.toInt64 a2), .long 0, .long (Int32.toInt64 (v3 - 1))] [] rfl (tX5_isIn hcS2) lc_X5_isIn ml_RX5_49 ms_X5_isIn (by decide) (by decide) (Nat.le_of_ble_eq_true rfl) rfl ?_
      refine p_if_ne (k := 27) 56 rfl (by decide) (fun hc => ?_) (fun hc => ?_)
      · rw [if_neg hc] at h
        refine p_aload_n (k := 32) (i := 0) rfl rfl rfl ?_
        refine p_getr (k := 33) rfl lay_X5 rfl fl_RX5_34 ?_
        refine p_bipush (k := 34) 40 rfl (by decide) ?_
        refine p_iload_n (k := 35) (i := 1) rfl rfl rfl ?_
        refine p_imul (k := 36) rfl ?_
        refine p_iload_n (k := 37) (i := 2) rfl rfl rfl ?_
        refine p_iadd (k := 38) rfl ?_
        refine p_aload_n (k := 39) (i := 0) rfl rfl rfl ?_
        refine p_getr (k := 40) rfl lay_X5 rfl fl_RX5_28 ?_
        refine p_iload_n (k := 41) (i := 1) rfl rfl rfl ?_
        refine s_rd h (k := 42) rfl lay_48 (fun v5 h => ?_)
        refine p_bipush (k := 43) 8 rfl (by decide) ?_
        refine p_icmp_ne (k := 44) 82 rfl (by decide) (fun hc => ?_) (fun hc => ?_)
        · rw [if_neg hc] at h
          refine p_aload_n (k := 48) (i := 0) rfl rfl rfl ?_
          refine p_getr (k := 49) rfl lay_X5 rfl fl_RX5_28 ?_
          refine p_iload_n (k := 50) (i := 1) rfl rfl rfl ?_
          refine s_rd h (k := 51) rfl lay_48 (fun v6 h => ?_)
          refine p_bipush (k := 52) 16 rfl (by decide) ?_
          refine p_icmp_ne (k := 53) 98 rfl (by decide) (fun hc => ?_) (fun hc => ?_)
          · rw [if_neg hc] at h
            refine p_iload_n (k := 57) (i := 3) rfl rfl rfl ?_
            refine p_msk [false, false, false, false] (L2 := [none, none, none, none]) rfl ?_
            exact sX5_write_L99 h
          · rw [if_pos hc] at h
            refine p_iload_n (k := 54) (i := 3) rfl rfl rfl ?_
            refine p_i2s (k := 55) rfl ?_
            refine p_goto (k := 56) 99 rfl (by decide) ?_
            refine p_msk [false, false, false, false] (L2 := [none, none, none, none]) rfl ?_
            exact sX5_write_L99 h
        · rw [if_pos hc] at h
          refine p_iload_n (k := 45) (i := 3) rfl rfl rfl ?_
          refine p_i2b (k := 46) rfl ?_
          refine p_goto (k := 47) 99 rfl (by decide) ?_
          refine p_msk [false, false, false, false] (L2 := [none, none, none, none]) rfl ?_
          exact sX5_write_L99 h
      · rw [if_pos hc] at h
        refine p_aload_n (k := 28) (i := 0) rfl rfl rfl ?_
        refine p_ldc (k := 29) rfl k_RX5_37 ?_
        obtain ⟨v7, S3, hcS3, h⟩ := cl_some h
        refine p_callV (k := 30) [.int (-1000001)] [] rfl (tX5_finds hcS3) lay_X5 rfl lc_X5_finds ml_RX5_39 mi_X5_finds mv_X5_finds (by decide) (by decide) (Nat.le_of_ble_eq_true rfl) rfl ?_
        exact s_iret h (k := 31) rfl rfl
    · rw [if_neg hc] at h
      refine p_aload_n (k := 12) (i := 0) rfl rfl rfl ?_
      refine p_ldcw (k := 13) rfl k_RX5_277 ?_
      obtain ⟨v8, S4, hcS4, h⟩ := cl_some h
      refine p_callV (k := 14) [.int (-1000006)] [] rfl (tX5_finds hcS4) lay_X5 rfl lc_X5_finds ml_RX5_39 mi_X5_finds mv_X5_finds (by decide) (by decide) (Nat.le_of_ble_eq_true rfl) rfl ?_
      exact s_iret h (k := 15) rfl rfl
  · rw [if_pos hc] at h
    refine p_aload_n (k := 3) (i := 0) rfl rfl rfl ?_
    refine p_ldc (k := 4) rfl k_RX5_37 ?_
    obtain ⟨v9, S5, hcS5, h⟩ := cl_some h
    refine p_callV (k := 5) [.int (-1000001)] [] rfl (tX5_finds hcS5) lay_X5 rfl lc_X5_finds ml_RX5_39 mi_X5_finds mv_X5_finds (by decide) (by decide) (Nat.le_of_ble_eq_true rfl) rfl ?_
    exact s_iret h (k := 6) rfl rfl
theorem tX5_write {a1 : Int32} {a2 : Int32} {a3 : Int32} {S : St} {r : Int32} {S9 : St} (h : fX5_write a1 a2 a3 S = some (r, S9)) : MR yX5_write cX5_write mX5_write [.ref 41, .int a1, .int a2, .int a3] S (some (.int r), S9) := MR.of (n := 0) okX5_write rfl rfl (sX5_write h)
-- copy(IIIII)I
def fX5_copy_L14 (S : St) : Option (Int32 × St) :=
  cl (fX5_finds (-1000001) S) fun v1 S1 =>
  some (v1, S1)
theorem sX5_copy_L14 {r : Int32} {S9 : St}  {S : St} (h : fX5_copy_L14 S = some (r, S9)) : PW mX5_copy (some (.int r), S9) 14 [some (.ref 41), none, none, none, none, none, none, none, none, none] [] S := by
  unfold fX5_copy_L14 at h
  refine p_aload_n (k := 6) (i := 0) rfl rfl rfl ?_
  refine p_ldc (k := 7) rfl k_RX5_37 ?_
  obtain ⟨v1, S1, hcS1, h⟩ := cl_some h
  refine p_callV (k := 8) [.int (-1000001)] [] rfl (tX5_finds hcS1) lay_X5 rfl lc_X5_finds ml_RX5_39 mi_X5_finds mv_X5_finds (by decide) (by decide) (Nat.le_of_ble_eq_true rfl) rfl ?_
  exact s_iret h (k := 9) rfl rfl
def fX5_copy_L39 (S : St) : Option (Int32 × St) :=
  cl (fX5_finds (-1000006) S) fun v1 S1 =>
  some (v1, S1)
theorem sX5_copy_L39 {r : Int32} {S9 : St}  {S : St} (h : fX5_copy_L39 S = some (r, S9)) : PW mX5_copy (some (.int r), S9) 39 [some (.ref 41), none, none, none, none, none, none, none, none, none] [] S := by
  unfold fX5_copy_L39 at h
  refine p_aload_n (k := 20) (i := 0) rfl rfl rfl ?_
  refine p_ldcw (k := 21) rfl k_RX5_277 ?_
  obtain ⟨v1, S1, hcS1, h⟩ := cl_some h
  refine p_callV (k := 22) [.int (-1000006)] [] rfl (tX5_finds hcS1) lay_X5 rfl lc_X5_finds ml_RX5_39 mi_X5_finds mv_X5_finds (by decide) (by decide) (Nat.le_of_ble_eq_true rfl) rfl ?_
  exact s_iret h (k := 23) rfl rfl
def fX5_copy_L111 (S : St) : Option (Int32 × St) :=
  cl (fX5_finds (-1000001) S) fun v1 S1 =>
  some (v1, S1)
theorem sX5_copy_L111 {r : Int32} {S9 : St}  {S : St} (h : fX5_copy_L111 S = some (r, S9)) : PW mX5_copy (some (.int r), S9) 111 [some (.ref 41), none, none, none, none, none, none, none, none, none] [] S := by
  unfold fX5_copy_L111 at h
  refine p_aload_n (k := 59) (i := 0) rfl rfl rfl ?_
  refine p_ldc (k := 60) rfl k_RX5_37 ?_
  obtain ⟨v1, S1, hcS1, h⟩ := cl_some h
  refine p_callV (k := 61) [.int (-1000001)] [] rfl (tX5_finds hcS1) lay_X5 rfl lc_X5_finds ml_RX5_39 mi_X5_finds mv_X5_finds (by decide) (by decide) (Nat.le_of_ble_eq_true rfl) rfl ?_
  exact s_iret h (k := 62) rfl rfl
def fX5_copy_L164 (k138 : Int32 → Int32 → Int32 → Int32 → St → Option (Int32 × St)) (x5 : Int32) (x6 : Int32) (x7 : Int32) (x8 : Int32) (y0 : Int32) (S : St) : Option (Int32 × St) :=
  rd S 50 160 (x6 + y0) fun v1 =>
  wr S 50 160 (x7 + y0) v1 fun S1 =>
  bnd (x8 + 1) fun v2 =>
  k138 x5 x6 x7 v2 S1
theorem sX5_copy_L164 {r : Int32} {S9 : St} {k138 : Int32 → Int32 → Int32 → Int32 → St → Option (Int32 × St)} (hk138 : ∀ x5 x6 x7 x8 S, k138 x5 x6 x7 x8 S = some (r, S9) → PW mX5_copy (some (.int r), S9) 138 [some (.ref 41), none, none, none, none, some (.int x5), some (.int x6), some (.int x7), some (.int x8), none] [] S) {x5 : Int32} {x6 : Int32} {x7 : Int32} {x8 : Int32} {y0 : Int32} {S : St} (h : fX5_copy_L164 k138 x5 x6 x7 x8 y0 S = some (r, S9)) : PW mX5_copy (some (.int r), S9) 164 [some (.ref 41), none, none, none, none, some (.int x5), some (.int x6), some (.int x7), some (.int x8), none] [.int y0] S := by
  unfold fX5_copy_L164 at h
  refine p_istore (k := 90) [some (.ref 41), none, none, none, none, some (.int x5), some (.int x6), some (.int x7), some (.int x8), some (.int y0)] rfl rfl (by decide) rfl ?_
  refine p_aload_n (k := 91) (i := 0) rfl rfl rfl ?_
  refine p_getr (k := 92) rfl lay_X5 rfl fl_RX5_34 ?_
  refine p_iload (k := 93) rfl rfl ?_
  refine p_iload (k := 94) rfl rfl ?_
  refine p_iadd (k := 95) rfl ?_
  refine p_aload_n (k := 96) (i := 0) rfl rfl rfl ?_
  refine p_getr (k := 97) rfl lay_X5 rfl fl_RX5_34 ?_
  refine p_iload (k := 98) rfl rfl ?_
  refine p_iload (k := 99) rfl rfl ?_
  refine p_iadd (k := 100) rfl ?_
  refine s_rd h (k := 101) rfl lay_50 (fun v1 h => ?_)
  refine s_wr h (k := 102) rfl lay_50 (fun S1 h => ?_)
  obtain ⟨v2, ev2, h⟩ := bnd_ex h
  refine p_iinc (k := 103) v2 [some (.ref 41), none, none, none, none, some (.int x5), some (.int x6), some (.int x7), some (.int v2), some (.int y0)] rfl rfl (by rw [← ev2]; rfl) rfl (by decide) rfl ?_
  refine p_goto (k := 104) 138 rfl (by decide) ?_
  refine p_msk [true, false, false, false, false, true, true, true, true, false] (L2 := [some (.ref 41), none, none, none, none, some (.int x5), some (.int x6), some (.int x7), some (.int v2), none]) rfl ?_
  exact hk138 _ _ _ _ _ h
def fX5_copy_L138 : Nat → Int32 → Int32 → Int32 → Int32 → St → Option (Int32 × St)
  | 0 => fun _ _ _ _ _ => none
  | n + 1 => fun x5 x6 x7 x8 S =>
    if x5 ≤ x8 then
      some (x5, S)
    else
      if x7 ≤ x6 then
        fX5_copy_L164 (fun x5 x6 x7 x8 S => fX5_copy_L138 n x5 x6 x7 x8 S) x5 x6 x7 x8 x8 S
      else
        fX5_copy_L164 (fun x5 x6 x7 x8 S => fX5_copy_L138 n x5 x6 x7 x8 S) x5 x6 x7 x8 ((x5 - 1) - x8) S
theorem sX5_copy_L138 {r : Int32} {S9 : St} : ∀ (n : Nat) (x5 : Int32) (x6 : Int32) (x7 : Int32) (x8 : Int32) (S : St), fX5_copy_L138 n x5 x6 x7 x8 S = some (r, S9) → PW mX5_copy (some (.int r), S9) 138 [some (.ref 41), none, none, none, none, some (.int x5), some (.int x6), some (.int x7), some (.int x8), none] [] S := by
  intro n
  induction n with
  | zero => intro x5 x6 x7 x8 S h; cases h
  | succ n ih =>
    intro x5 x6 x7 x8 S h
    unfold fX5_copy_L138 at h
    refine p_iload (k := 77) rfl rfl ?_
    refine p_iload (k := 78) rfl rfl ?_
    refine p_icmp_ge (k := 79) 192 rfl (by decide) (fun hc => ?_) (fun hc => ?_)
    · rw [if_pos hc] at h
      refine p_iload (k := 105) rfl rfl ?_
      exact s_iret h (k := 106) rfl rfl
    · rw [if_neg hc] at h
      refine p_iload (k := 80) rfl rfl ?_
      refine p_iload (k := 81) rfl rfl ?_
      refine p_icmp_ge (k := 82) 162 rfl (by decide) (fun hc => ?_) (fun hc => ?_)
      · rw [if_pos hc] at h
        refine p_iload (k := 89) rfl rfl ?_
        refine p_msk [true, false, false, false, false, true, true, true, true, false] (L2 := [some (.ref 41), none, none, none, none, some (.int x5), some (.int x6), some (.int x7), some (.int x8), none]) rfl ?_
        exact sX5_copy_L164 ih h
      · rw [if_neg hc] at h
        refine p_iload (k := 83) rfl rfl ?_
        refine p_iconst (k := 84) 1 rfl (by decide) ?_
        refine p_isub (k := 85) rfl ?_
        refine p_iload (k := 86) rfl rfl ?_
        refine p_isub (k := 87) rfl ?_
        refine p_goto (k := 88) 164 rfl (by decide) ?_
        refine p_msk [true, false, false, false, false, true, true, true, true, false] (L2 := [some (.ref 41), none, none, none, none, some (.int x5), some (.int x6), some (.int x7), some (.int x8), none]) rfl ?_
        exact sX5_copy_L164 ih h
def fX5_copy (a1 : Int32) (a2 : Int32) (a3 : Int32) (a4 : Int32) (a5 : Int32) (S : St) : Option (Int32 × St) :=
  cl (fX5_isSheet a1 S) fun v1 S1 =>
  if v1 = 0 then
    fX5_copy_L14 S1
  else
    cl (fX5_isSheet a3 S1) fun v2 S2 =>
    if v2 = 0 then
      fX5_copy_L14 S2
    else
      rd S2 48 4 a1 fun v3 =>
      if v3 < 0 then
        fX5_copy_L39 S2
      else
        rd S2 48 4 a3 fun v4 =>
        if 0 ≤ v4 then
          rd S2 48 4 a1 fun v5 =>
          rd S2 48 4 a3 fun v6 =>
          if v5 = v6 then
            if a2 < 0 then
              fX5_copy_L111 S2
            else
              if a4 < 0 then
                fX5_copy_L111 S2
              else
                if a5 < 0 then
                  fX5_copy_L111 S2
                else
                  rd S2 49 4 a1 fun v7 =>
                  if (v7 - a2) < a5 then
                    fX5_copy_L111 S2
                  else
                    rd S2 49 4 a3 fun v8 =>
                    if a5 ≤ (v8 - a4) then
                      bnd ((40 * a1) + a2) fun v9 =>
                      bnd ((40 * a3) + a4) fun v10 =>
                      fX5_copy_L138 FU a5 v9 v10 0 S2
                    else
                      fX5_copy_L111 S2
          else
            cl (fX5_finds (-1000003) S2) fun v11 S3 =>
            some (v11, S3)
        else
          fX5_copy_L39 S2
theorem sX5_copy {a1 : Int32} {a2 : Int32} {a3 : Int32} {a4 : Int32} {a5 : Int32} {S : St} {r : Int32} {S9 : St} (h : fX5_copy a1 a2 a3 a4 a5 S = some (r, S9)) : PW mX5_copy (some (.int r), S9) 0 [some (.ref 41), some (.int a1), some (.int a2), some (.int a3), some (.int a4), some (.int a5), none, none, none, none] [] S := by
  unfold fX5_copy at h
  refine p_iload_n (k := 0) (i := 1) rfl rfl rfl ?_
  obtain ⟨v1, S1, hcS1, h⟩ := cl_some h
  refine p_callS (k := 1) [.int a1] [] rfl (tX5_isSheet hcS1) lc_X5_isSheet ml_RX5_282 ms_X5_isSheet (by decide) (by decide) (Nat.le_of_ble_eq_true rfl) rfl ?_
  refine p_if_eq (k := 2) 14 rfl (by decide) (fun hc => ?_) (fun hc => ?_)
  · rw [if_pos hc] at h
    refine p_msk [true, false, false, false, false, false, false, false, false, false] (L2 := [some (.ref 41), none, none, none, none, none, none, none, none, none]) rfl ?_
    exact sX5_copy_L14 h
  · rw [if_neg hc] at h
    refine p_iload_n (k := 3) (i := 3) rfl rfl rfl ?_
    obtain ⟨v2, S2, hcS2, h⟩ := cl_some h
    refine p_callS (k := 4) [.int a3] [] rfl (tX5_isSheet hcS2) lc_X5_isSheet ml_RX5_282 ms_X5_isSheet (by decide) (by decide) (Nat.le_of_ble_eq_true rfl) rfl ?_
    refine p_if_ne (k := 5) 21 rfl (by decide) (fun hc => ?_) (fun hc => ?_)
    · rw [if_neg hc] at h
      refine p_aload_n (k := 10) (i := 0) rfl rfl rfl ?_
      refine p_getr (k := 11) rfl lay_X5 rfl fl_RX5_28 ?_
      refine p_iload_n (k := 12) (i := 1) rfl rfl rfl ?_
      refine s_rd h (k := 13) rfl lay_48 (fun v3 h => ?_)
      refine p_if_lt (k := 14) 39 rfl (by decide) (fun hc => ?_) (fun hc => ?_)
      · rw [if_pos hc] at h
        refine p_msk [true, false, false, false, false, false, false, false, false, false] (L2 := [some (.ref 41), none, none, none, none, none, none, none, none, none]) rfl ?_
        exact sX5_copy_L39 h
      · rw [if_neg hc] at h
        refine p_aload_n (k := 15) (i := 0) rfl rfl rfl ?_
        refine p_getr (k := 16) rfl lay_X5 rfl fl_RX5_28 ?_
        refine p_iload_n (k := 17) (i := 3) rfl rfl rfl ?_
        refine s_rd h (k := 18) rfl lay_48 (fun v4 h => ?_)
        refine p_if_ge (k := 19) 47 rfl (by decide) (fun hc => ?_) (fun hc => ?_)
        · rw [if_pos hc] at h
          refine p_aload_n (k := 24) (i := 0) rfl rfl rfl ?_
          refine p_getr (k := 25) rfl lay_X5 rfl fl_RX5_28 ?_
          refine p_iload_n (k := 26) (i := 1) rfl rfl rfl ?_
          refine s_rd h (k := 27) rfl lay_48 (fun v5 h => ?_)
          refine p_aload_n (k := 28) (i := 0) rfl rfl rfl ?_
          refine p_getr (k := 29) rfl lay_X5 rfl fl_RX5_28 ?_
          refine p_iload_n (k := 30) (i := 3) rfl rfl rfl ?_
          refine s_rd h (k := 31) rfl lay_48 (fun v6 h => ?_)
          refine p_icmp_eq (k := 32) 70 rfl (by decide) (fun hc => ?_) (fun hc => ?_)
          · rw [if_pos hc] at h
            refine p_iload_n (k := 37) (i := 2) rfl rfl rfl ?_
            refine p_if_lt (k := 38) 111 rfl (by decide) (fun hc => ?_) (fun hc => ?_)
            · rw [if_pos hc] at h
              refine p_msk [true, false, false, false, false, false, false, false, false, false] (L2 := [some (.ref 41), none, none, none, none, none, none, none, none, none]) rfl ?_
              exact sX5_copy_L111 h
            · rw [if_neg hc] at h
              refine p_iload (k := 39) rfl rfl ?_
              refine p_if_lt (k := 40) 111 rfl (by decide) (fun hc => ?_) (fun hc => ?_)
              · rw [if_pos hc] at h
                refine p_msk [true, false, false, false, false, false, false, false, false, false] (L2 := [some (.ref 41), none, none, none, none, none, none, none, none, none]) rfl ?_
                exact sX5_copy_L111 h
              · rw [if_neg hc] at h
                refine p_iload (k := 41) rfl rfl ?_
                refine p_if_lt (k := 42) 111 rfl (by decide) (fun hc => ?_) (fun hc => ?_)
                · rw [if_pos hc] at h
                  refine p_msk [true, false, false, false, false, false, false, false, false, false] (L2 := [some (.ref 41), none, none, none, none, none, none, none, none, none]) rfl ?_
                  exact sX5_copy_L111 h
                · rw [if_neg hc] at h
                  refine p_iload (k := 43) rfl rfl ?_
                  refine p_aload_n (k := 44) (i := 0) rfl rfl rfl ?_
                  refine p_getr (k := 45) rfl lay_X5 rfl fl_RX5_31 ?_
                  refine p_iload_n (k := 46) (i := 1) rfl rfl rfl ?_
                  refine s_rd h (k := 47) rfl lay_49 (fun v7 h => ?_)
                  refine p_iload_n (k := 48) (i := 2) rfl rfl rfl ?_
                  refine p_isub (k := 49) rfl ?_
                  refine p_icmp_gt (k := 50) 111 rfl (by decide) (fun hc => ?_) (fun hc => ?_)
                  · rw [if_pos hc] at h
                    refine p_msk [true, false, false, false, false, false, false, false, false, false] (L2 := [some (.ref 41), none, none, none, none, none, none, none, none, none]) rfl ?_
                    exact sX5_copy_L111 h
                  · rw [if_neg hc] at h
                    refine p_iload (k := 51) rfl rfl ?_
                    refine p_aload_n (k := 52) (i := 0) rfl rfl rfl ?_
                    refine p_getr (k := 53) rfl lay_X5 rfl fl_RX5_31 ?_
                    refine p_iload_n (k := 54) (i := 3) rfl rfl rfl ?_
                    refine s_rd h (k := 55) rfl lay_49 (fun v8 h => ?_)
                    refine p_iload (k := 56) rfl rfl ?_
                    refine p_isub (k := 57) rfl ?_
                    refine p_icmp_le (k := 58) 118 rfl (by decide) (fun hc => ?_) (fun hc => ?_)
                    · rw [if_pos hc] at h
                      refine p_bipush (k := 63) 40 rfl (by decide) ?_
                      refine p_iload_n (k := 64) (i := 1) rfl rfl rfl ?_
                      refine p_imul (k := 65) rfl ?_
                      refine p_iload_n (k := 66) (i := 2) rfl rfl rfl ?_
                      refine p_iadd (k := 67) rfl ?_
                      refine s_bnd h (fun v9 h => ?_)
                      refine p_istore (k := 68) [some (.ref 41), some (.int a1), some (.int a2), some (.int a3), some (.int a4), some (.int a5), some (.int v9), none, none, none] rfl rfl (by decide) rfl ?_
                      refine p_bipush (k := 69) 40 rfl (by decide) ?_
                      refine p_iload_n (k := 70) (i := 3) rfl rfl rfl ?_
                      refine p_imul (k := 71) rfl ?_
                      refine p_iload (k := 72) rfl rfl ?_
                      refine p_iadd (k := 73) rfl ?_
                      refine s_bnd h (fun v10 h => ?_)
                      refine p_istore (k := 74) [some (.ref 41), some (.int a1), some (.int a2), some (.int a3), some (.int a4), some (.int a5), some (.int v9), some (.int v10), none, none] rfl rfl (by decide) rfl ?_
                      refine p_iconst (k := 75) 0 rfl (by decide) ?_
                      refine p_istore (k := 76) [some (.ref 41), some (.int a1), some (.int a2), some (.int a3), some (.int a4), some (.int a5), some (.int v9), some (.int v10), some (.int 0), none] rfl rfl (by decide) rfl ?_
                      refine p_msk [true, false, false, false, false, true, true, true, true, false] (L2 := [some (.ref 41), none, none, none, none, some (.int a5), some (.int v9), some (.int v10), some (.int 0), none]) rfl ?_
                      exact sX5_copy_L138 _ _ _ _ _ _ h
                    · rw [if_neg hc] at h
                      refine p_msk [true, false, false, false, false, false, false, false, false, false] (L2 := [some (.ref 41), none, none, none, none, none, none, none, none, none]) rfl ?_
                      exact sX5_copy_L111 h
          · rw [if_neg hc] at h
            refine p_aload_n (k := 33) (i := 0) rfl rfl rfl ?_
            refine p_ldcw (k := 34) rfl k_RX5_281 ?_
            obtain ⟨v11, S3, hcS3, h⟩ := cl_some h
            refine p_callV (k := 35) [.int (-1000003)] [] rfl (tX5_finds hcS3) lay_X5 rfl lc_X5_finds ml_RX5_39 mi_X5_finds mv_X5_finds (by decide) (by decide) (Nat.le_of_ble_eq_true rfl) rfl ?_
            exact s_iret h (k := 36) rfl rfl
        · rw [if_neg hc] at h
          refine p_msk [true, false, false, false, false, false, false, false, false, false] (L2 := [some (.ref 41), none, none, none, none, none, none, none, none, none]) rfl ?_
          exact sX5_copy_L39 h
    · rw [if_pos hc] at h
      refine p_msk [true, false, false, false, false, false, false, false, false, false] (L2 := [some (.ref 41), none, none, none, none, none, none, none, none, none]) rfl ?_
      exact sX5_copy_L14 h
theorem tX5_copy {a1 : Int32} {a2 : Int32} {a3 : Int32} {a4 : Int32} {a5 : Int32} {S : St} {r : Int32} {S9 : St} (h : fX5_copy a1 a2 a3 a4 a5 S = some (r, S9)) : MR yX5_copy cX5_copy mX5_copy [.ref 41, .int a1, .int a2, .int a3, .int a4, .int a5] S (some (.int r), S9) := MR.of (n := 4) okX5_copy rfl rfl (sX5_copy h)
-- load(I)I
def fX5_load_L83 (x2 : Int32) (S : St) : Option (Int32 × St) :=
  some (x2, S)
theorem sX5_load_L83 {r : Int32} {S9 : St} {x2 : Int32} {S : St} (h : fX5_load_L83 x2 S = some (r, S9)) : PW mX5_load (some (.int r), S9) 83 [none, none, some (.int x2)] [] S := by
  unfold fX5_load_L83 at h
  refine p_iload_n (k := 50) (i := 2) rfl rfl rfl ?_
  exact s_iret h (k := 51) rfl rfl
def fX5_load_L20 : Nat → Int32 → Int32 → St → Option (Int32 × St)
  | 0 => fun _ _ _ => none
  | n + 1 => fun x1 x2 S =>
    rd S 49 4 x1 fun v1 =>
    if v1 ≤ x2 then
      fX5_load_L83 x2 S
    else
      if 12 ≤ x2 then
        fX5_load_L83 x2 S
      else
        rd S 50 160 ((40 * x1) + x2) fun v2 =>
        cl (fX5_isIn (Int32.toInt64 v2) 0 99 S) fun v3 S1 =>
        if v3 = 0 then
          fX5_load_L83 x2 S1
        else
          rd S1 50 160 ((40 * x1) + x2) fun v4 =>
          wr S1 42 75 (5 + x2) v4 fun S2 =>
          bnd (x2 + 1) fun v5 =>
          fX5_load_L20 n x1 v5 S2
theorem sX5_load_L20 {r : Int32} {S9 : St} : ∀ (n : Nat) (x1 : Int32) (x2 : Int32) (S : St), fX5_load_L20 n x1 x2 S = some (r, S9) → PW mX5_load (some (.int r), S9) 20 [some (.ref 41), some (.int x1), some (.int x2)] [] S := by
  intro n
  induction n with
  | zero => intro x1 x2 S h; cases h
  | succ n ih =>
    intro x1 x2 S h
    unfold fX5_load_L20 at h
    refine p_iload_n (k := 12) (i := 2) rfl rfl rfl ?_
    refine p_aload_n (k := 13) (i := 0) rfl rfl rfl ?_
    refine p_getr (k := 14) rfl lay_X5 rfl fl_RX5_31 ?_
    refine p_iload_n (k := 15) (i := 1) rfl rfl rfl ?_
    refine s_rd h (k := 16) rfl lay_49 (fun v1 h => ?_)
    refine p_icmp_ge (k := 17) 83 rfl (by decide) (fun hc => ?_) (fun hc => ?_)
    · rw [if_pos hc] at h
      refine p_msk [false, false, true] (L2 := [none, none, some (.int x2)]) rfl ?_
      exact sX5_load_L83 h
    · rw [if_neg hc] at h
      refine p_iload_n (k := 18) (i := 2) rfl rfl rfl ?_
      refine p_bipush (k := 19) 12 rfl (by decide) ?_
      refine p_icmp_ge (k := 20) 83 rfl (by decide) (fun hc => ?_) (fun hc => ?_)
      · rw [if_pos hc] at h
        refine p_msk [false, false, true] (L2 := [none, none, some (.int x2)]) rfl ?_
        exact sX5_load_L83 h
      · rw [if_neg hc] at h
        refine p_aload_n (k := 21) (i := 0) rfl rfl rfl ?_
        refine p_getr (k := 22) rfl lay_X5 rfl fl_RX5_34 ?_
        refine p_bipush (k := 23) 40 rfl (by decide) ?_
        refine p_iload_n (k := 24) (i := 1) rfl rfl rfl ?_
        refine p_imul (k := 25) rfl ?_
        refine p_iload_n (k := 26) (i := 2) rfl rfl rfl ?_
        refine p_iadd (k := 27) rfl ?_
        refine s_rd h (k := 28) rfl lay_50 (fun v2 h => ?_)
        refine p_i2l (k := 29) rfl ?_
        refine p_lconst (k := 30) 0 rfl (by decide) ?_
        refine p_ldc2 (k := 31) rfl k_RX5_47 ?_
        obtain ⟨v3, S1, hcS1, h⟩ := cl_some h
        refine p_callS (k := 32) [.long (Int32.toInt64 v2), .long 0, .long 99] [] rfl (tX5_isIn hcS1) lc_X5_isIn ml_RX5_49 ms_X5_isIn (by decide) (by decide) (Nat.le_of_ble_eq_true rfl) rfl ?_
        refine p_if_eq (k := 33) 83 rfl (by decide) (fun hc => ?_) (fun hc => ?_)
        · rw [if_pos hc] at h
          refine p_msk [false, false, true] (L2 := [none, none, some (.int x2)]) rfl ?_
          exact sX5_load_L83 h
        · rw [if_neg hc] at h
          refine p_aload_n (k := 34) (i := 0) rfl rfl rfl ?_
          refine p_getr (k := 35) rfl lay_X5 rfl fl_RX5_7 ?_
          refine p_iconst (k := 36) 5 rfl (by decide) ?_
          refine p_iload_n (k := 37) (i := 2) rfl rfl rfl ?_
          refine p_iadd (k := 38) rfl ?_
          refine p_aload_n (k := 39) (i := 0) rfl rfl rfl ?_
          refine p_getr (k := 40) rfl lay_X5 rfl fl_RX5_34 ?_
          refine p_bipush (k := 41) 40 rfl (by decide) ?_
          refine p_iload_n (k := 42) (i := 1) rfl rfl rfl ?_
          refine p_imul (k := 43) rfl ?_
          refine p_iload_n (k := 44) (i := 2) rfl rfl rfl ?_
          refine p_iadd (k := 45) rfl ?_
          refine s_rd h (k := 46) rfl lay_50 (fun v4 h => ?_)
          refine s_wr h (k := 47) rfl lay_42 (fun S2 h => ?_)
          obtain ⟨v5, ev5, h⟩ := bnd_ex h
          refine p_iinc (k := 48) v5 [some (.ref 41), some (.int x1), some (.int v5)] rfl rfl (by rw [← ev5]; rfl) rfl (by decide) rfl ?_
          refine p_goto (k := 49) 20 rfl (by decide) ?_
          refine p_msk [true, true, true] (L2 := [some (.ref 41), some (.int x1), some (.int v5)]) rfl ?_
          exact ih _ _ _ h
def fX5_load (a1 : Int32) (S : St) : Option (Int32 × St) :=
  cl (fX5_wants a1 S) fun v1 S1 =>
  if v1 = 0 then
    fX5_load_L20 FU a1 0 S1
  else
    cl (fX5_wants a1 S1) fun v2 S2 =>
    cl (fX5_finds v2 S2) fun v3 S3 =>
    some (v3, S3)
theorem sX5_load {a1 : Int32} {S : St} {r : Int32} {S9 : St} (h : fX5_load a1 S = some (r, S9)) : PW mX5_load (some (.int r), S9) 0 [some (.ref 41), some (.int a1), none] [] S := by
  unfold fX5_load at h
  refine p_aload_n (k := 0) (i := 0) rfl rfl rfl ?_
  refine p_iload_n (k := 1) (i := 1) rfl rfl rfl ?_
  obtain ⟨v1, S1, hcS1, h⟩ := cl_some h
  refine p_callV (k := 2) [.int a1] [] rfl (tX5_wants hcS1) lay_X5 rfl lc_X5_wants ml_RX5_191 mi_X5_wants mv_X5_wants (by decide) (by decide) (Nat.le_of_ble_eq_true rfl) rfl ?_
  refine p_if_eq (k := 3) 18 rfl (by decide) (fun hc => ?_) (fun hc => ?_)
  · rw [if_pos hc] at h
    refine p_iconst (k := 10) 0 rfl (by decide) ?_
    refine p_istore_n (k := 11) 2 [some (.ref 41), some (.int a1), some (.int 0)] rfl rfl rfl (by decide) rfl ?_
    refine p_msk [true, true, true] (L2 := [some (.ref 41), some (.int a1), some (.int 0)]) rfl ?_
    exact sX5_load_L20 _ _ _ _ h
  · rw [if_neg hc] at h
    refine p_aload_n (k := 4) (i := 0) rfl rfl rfl ?_
    refine p_aload_n (k := 5) (i := 0) rfl rfl rfl ?_
    refine p_iload_n (k := 6) (i := 1) rfl rfl rfl ?_
    obtain ⟨v2, S2, hcS2, h⟩ := cl_some h
    refine p_callV (k := 7) [.int a1] [.ref 41] rfl (tX5_wants hcS2) lay_X5 rfl lc_X5_wants ml_RX5_191 mi_X5_wants mv_X5_wants (by decide) (by decide) (Nat.le_of_ble_eq_true rfl) rfl ?_
    obtain ⟨v3, S3, hcS3, h⟩ := cl_some h
    refine p_callV (k := 8) [.int v2] [] rfl (tX5_finds hcS3) lay_X5 rfl lc_X5_finds ml_RX5_39 mi_X5_finds mv_X5_finds (by decide) (by decide) (Nat.le_of_ble_eq_true rfl) rfl ?_
    exact s_iret h (k := 9) rfl rfl
theorem tX5_load {a1 : Int32} {S : St} {r : Int32} {S9 : St} (h : fX5_load a1 S = some (r, S9)) : MR yX5_load cX5_load mX5_load [.ref 41, .int a1] S (some (.int r), S9) := MR.of (n := 1) okX5_load rfl rfl (sX5_load h)
-- judge(I)I
def fX5_judge_L81 (y0 : Int32) (S : St) : Option (Int32 × St) :=
  some (y0, S)
theorem sX5_judge_L81 {r : Int32} {S9 : St} {y0 : Int32} {S : St} (h : fX5_judge_L81 y0 S = some (r, S9)) : PW mX5_judge (some (.int r), S9) 81 [none, none, none] [.int y0] S := by
  unfold fX5_judge_L81 at h
  exact s_iret h (k := 48) rfl rfl
def fX5_judge_L64 (x1 : Int32) (x2 : Int32) (S : St) : Option (Int32 × St) :=
  rd S 49 4 x1 fun v1 =>
  if v1 ≤ x2 then
    fX5_judge_L81 0 S
  else
    fX5_judge_L81 (1 + x2) S
theorem sX5_judge_L64 {r : Int32} {S9 : St} {x1 : Int32} {x2 : Int32} {S : St} (h : fX5_judge_L64 x1 x2 S = some (r, S9)) : PW mX5_judge (some (.int r), S9) 64 [some (.ref 41), some (.int x1), some (.int x2)] [] S := by
  unfold fX5_judge_L64 at h
  refine p_iload_n (k := 37) (i := 2) rfl rfl rfl ?_
  refine p_aload_n (k := 38) (i := 0) rfl rfl rfl ?_
  refine p_getr (k := 39) rfl lay_X5 rfl fl_RX5_31 ?_
  refine p_iload_n (k := 40) (i := 1) rfl rfl rfl ?_
  refine s_rd h (k := 41) rfl lay_49 (fun v1 h => ?_)
  refine p_icmp_ge (k := 42) 80 rfl (by decide) (fun hc => ?_) (fun hc => ?_)
  · rw [if_pos hc] at h
    refine p_iconst (k := 47) 0 rfl (by decide) ?_
    refine p_msk [false, false, false] (L2 := [none, none, none]) rfl ?_
    exact sX5_judge_L81 h
  · rw [if_neg hc] at h
    refine p_iconst (k := 43) 1 rfl (by decide) ?_
    refine p_iload_n (k := 44) (i := 2) rfl rfl rfl ?_
    refine p_iadd (k := 45) rfl ?_
    refine p_goto (k := 46) 81 rfl (by decide) ?_
    refine p_msk [false, false, false] (L2 := [none, none, none]) rfl ?_
    exact sX5_judge_L81 h
def fX5_judge_L20 : Nat → Int32 → Int32 → St → Option (Int32 × St)
  | 0 => fun _ _ _ => none
  | n + 1 => fun x1 x2 S =>
    rd S 49 4 x1 fun v1 =>
    if v1 ≤ x2 then
      fX5_judge_L64 x1 x2 S
    else
      cl (fX5_isGoat x2 S) fun v2 S1 =>
      if v2 = 0 then
        fX5_judge_L64 x1 x2 S1
      else
        rd S1 50 160 ((40 * x1) + x2) fun v3 =>
        cl (fX5_its x2 2 S1) fun v4 S2 =>
        if v3 = v4 then
          bnd (x2 + 1) fun v5 =>
          fX5_judge_L20 n x1 v5 S2
        else
          fX5_judge_L64 x1 x2 S2
theorem sX5_judge_L20 {r : Int32} {S9 : St} : ∀ (n : Nat) (x1 : Int32) (x2 : Int32) (S : St), fX5_judge_L20 n x1 x2 S = some (r, S9) → PW mX5_judge (some (.int r), S9) 20 [some (.ref 41), some (.int x1), some (.int x2)] [] S := by
  intro n
  induction n with
  | zero => intro x1 x2 S h; cases h
  | succ n ih =>
    intro x1 x2 S h
    unfold fX5_judge_L20 at h
    refine p_iload_n (k := 12) (i := 2) rfl rfl rfl ?_
    refine p_aload_n (k := 13) (i := 0) rfl rfl rfl ?_
    refine p_getr (k := 14) rfl lay_X5 rfl fl_RX5_31 ?_
    refine p_iload_n (k := 15) (i := 1) rfl rfl rfl ?_
    refine s_rd h (k := 16) rfl lay_49 (fun v1 h => ?_)
    refine p_icmp_ge (k := 17) 64 rfl (by decide) (fun hc => ?_) (fun hc => ?_)
    · rw [if_pos hc] at h
      refine p_msk [true, true, true] (L2 := [some (.ref 41), some (.int x1), some (.int x2)]) rfl ?_
      exact sX5_judge_L64 h
    · rw [if_neg hc] at h
      refine p_aload_n (k := 18) (i := 0) rfl rfl rfl ?_
      refine p_iload_n (k := 19) (i := 2) rfl rfl rfl ?_
      obtain ⟨v2, S1, hcS1, h⟩ := cl_some h
      refine p_callV (k := 20) [.int x2] [] rfl (tX5_isGoat hcS1) lay_X5 rfl lc_X5_isGoat ml_RX5_95 mi_X5_isGoat mv_X5_isGoat (by decide) (by decide) (Nat.le_of_ble_eq_true rfl) rfl ?_
      refine p_if_eq (k := 21) 64 rfl (by decide) (fun hc => ?_) (fun hc => ?_)
      · rw [if_pos hc] at h
        refine p_msk [true, true, true] (L2 := [some (.ref 41), some (.int x1), some (.int x2)]) rfl ?_
        exact sX5_judge_L64 h
      · rw [if_neg hc] at h
        refine p_aload_n (k := 22) (i := 0) rfl rfl rfl ?_
        refine p_getr (k := 23) rfl lay_X5 rfl fl_RX5_34 ?_
        refine p_bipush (k := 24) 40 rfl (by decide) ?_
        refine p_iload_n (k := 25) (i := 1) rfl rfl rfl ?_
        refine p_imul (k := 26) rfl ?_
        refine p_iload_n (k := 27) (i := 2) rfl rfl rfl ?_
        refine p_iadd (k := 28) rfl ?_
        refine s_rd h (k := 29) rfl lay_50 (fun v3 h => ?_)
        refine p_aload_n (k := 30) (i := 0) rfl rfl rfl ?_
        refine p_iload_n (k := 31) (i := 2) rfl rfl rfl ?_
        refine p_iconst (k := 32) 2 rfl (by decide) ?_
        obtain ⟨v4, S2, hcS2, h⟩ := cl_some h
        refine p_callV (k := 33) [.int x2, .int 2] [.int v3] rfl (tX5_its hcS2) lay_X5 rfl lc_X5_its ml_RX5_57 mi_X5_its mv_X5_its (by decide) (by decide) (Nat.le_of_ble_eq_true rfl) rfl ?_
        refine p_icmp_ne (k := 34) 64 rfl (by decide) (fun hc => ?_) (fun hc => ?_)
        · rw [if_neg hc] at h
          refine p_msk [true, true, true] (L2 := [some (.ref 41), some (.int x1), some (.int x2)]) rfl ?_
          exact sX5_judge_L64 h
        · rw [if_pos hc] at h
          obtain ⟨v5, ev5, h⟩ := bnd_ex h
          refine p_iinc (k := 35) v5 [some (.ref 41), some (.int x1), some (.int v5)] rfl rfl (by rw [← ev5]; rfl) rfl (by decide) rfl ?_
          refine p_goto (k := 36) 20 rfl (by decide) ?_
          refine p_msk [true, true, true] (L2 := [some (.ref 41), some (.int x1), some (.int v5)]) rfl ?_
          exact ih _ _ _ h
def fX5_judge (a1 : Int32) (S : St) : Option (Int32 × St) :=
  cl (fX5_wants a1 S) fun v1 S1 =>
  if v1 = 0 then
    fX5_judge_L20 FU a1 0 S1
  else
    cl (fX5_wants a1 S1) fun v2 S2 =>
    cl (fX5_finds v2 S2) fun v3 S3 =>
    some (v3, S3)
theorem sX5_judge {a1 : Int32} {S : St} {r : Int32} {S9 : St} (h : fX5_judge a1 S = some (r, S9)) : PW mX5_judge (some (.int r), S9) 0 [some (.ref 41), some (.int a1), none] [] S := by
  unfold fX5_judge at h
  refine p_aload_n (k := 0) (i := 0) rfl rfl rfl ?_
  refine p_iload_n (k := 1) (i := 1) rfl rfl rfl ?_
  obtain ⟨v1, S1, hcS1, h⟩ := cl_some h
  refine p_callV (k := 2) [.int a1] [] rfl (tX5_wants hcS1) lay_X5 rfl lc_X5_wants ml_RX5_191 mi_X5_wants mv_X5_wants (by decide) (by decide) (Nat.le_of_ble_eq_true rfl) rfl ?_
  refine p_if_eq (k := 3) 18 rfl (by decide) (fun hc => ?_) (fun hc => ?_)
  · rw [if_pos hc] at h
    refine p_iconst (k := 10) 0 rfl (by decide) ?_
    refine p_istore_n (k := 11) 2 [some (.ref 41), some (.int a1), some (.int 0)] rfl rfl rfl (by decide) rfl ?_
    refine p_msk [true, true, true] (L2 := [some (.ref 41), some (.int a1), some (.int 0)]) rfl ?_
    exact sX5_judge_L20 _ _ _ _ h
  · rw [if_neg hc] at h
    refine p_aload_n (k := 4) (i := 0) rfl rfl rfl ?_
    refine p_aload_n (k := 5) (i := 0) rfl rfl rfl ?_
    refine p_iload_n (k := 6) (i := 1) rfl rfl rfl ?_
    obtain ⟨v2, S2, hcS2, h⟩ := cl_some h
    refine p_callV (k := 7) [.int a1] [.ref 41] rfl (tX5_wants hcS2) lay_X5 rfl lc_X5_wants ml_RX5_191 mi_X5_wants mv_X5_wants (by decide) (by decide) (Nat.le_of_ble_eq_true rfl) rfl ?_
    obtain ⟨v3, S3, hcS3, h⟩ := cl_some h
    refine p_callV (k := 8) [.int v2] [] rfl (tX5_finds hcS3) lay_X5 rfl lc_X5_finds ml_RX5_39 mi_X5_finds mv_X5_finds (by decide) (by decide) (Nat.le_of_ble_eq_true rfl) rfl ?_
    exact s_iret h (k := 9) rfl rfl
theorem tX5_judge {a1 : Int32} {S : St} {r : Int32} {S9 : St} (h : fX5_judge a1 S = some (r, S9)) : MR yX5_judge cX5_judge mX5_judge [.ref 41, .int a1] S (some (.int r), S9) := MR.of (n := 1) okX5_judge rfl rfl (sX5_judge h)
-- image()I
def fX5_image (S : St) : Option (Int32 × St) :=
  cl (fX5_copyRow 42 43 S) fun _ S1 =>
  bnd (up2 S1 41 4 1) fun S2 =>
  some (1, S2)
theorem sX5_image {S : St} {r : Int32} {S9 : St} (h : fX5_image S = some (r, S9)) : PW mX5_image (some (.int r), S9) 0 [some (.ref 41)] [] S := by
  unfold fX5_image at h
  refine p_aload_n (k := 0) (i := 0) rfl rfl rfl ?_
  refine p_getr (k := 1) rfl lay_X5 rfl fl_RX5_7 ?_
  refine p_aload_n (k := 2) (i := 0) rfl rfl rfl ?_
  refine p_getr (k := 3) rfl lay_X5 rfl fl_RX5_13 ?_
  obtain ⟨_, S1, hcS1, h⟩ := cl_some h
  refine p_callS (k := 4) [.ref 42, .ref 43] [] rfl (tX5_copyRow lay_42 lay_43 hcS1) lc_X5_copyRow ml_RX5_164 ms_X5_copyRow (by decide) (by decide) (Nat.le_of_ble_eq_true rfl) rfl ?_
  refine p_aload_n (k := 5) (i := 0) rfl rfl rfl ?_
  refine p_iconst (k := 6) 1 rfl (by decide) ?_
  refine s_put h (k := 7) rfl lay_X5 rfl fl_RX5_286 fp_5_4 (by decide) (by decide) (fun S2 h => ?_)
  refine p_iconst (k := 8) 1 rfl (by decide) ?_
  exact s_iret h (k := 9) rfl rfl
theorem tX5_image {S : St} {r : Int32} {S9 : St} (h : fX5_image S = some (r, S9)) : MR yX5_image cX5_image mX5_image [.ref 41] S (some (.int r), S9) := MR.of (n := 0) okX5_image rfl rfl (sX5_image h)
-- undo()I
def fX5_undo (S : St) : Option (Int32 × St) :=
  if (S 41 4) = 0 then
    cl (fX5_finds (-1000004) S) fun v2 S2 =>
    some (v2, S2)
  else
    cl (fX5_copyRow 43 42 S) fun _ S1 =>
    rd S1 42 75 1 fun v1 =>
    some (v1, S1)
theorem sX5_undo {S : St} {r : Int32} {S9 : St} (h : fX5_undo S = some (r, S9)) : PW mX5_undo (some (.int r), S9) 0 [some (.ref 41)] [] S := by
  unfold fX5_undo at h
  refine p_aload_n (k := 0) (i := 0) rfl rfl rfl ?_
  refine p_geti (k := 1) rfl lay_X5 rfl fl_RX5_286 ?_
  refine p_if_ne (k := 2) 14 rfl (by decide) (fun hc => ?_) (fun hc => ?_)
  · rw [if_neg hc] at h
    refine p_aload_n (k := 7) (i := 0) rfl rfl rfl ?_
    refine p_getr (k := 8) rfl lay_X5 rfl fl_RX5_13 ?_
    refine p_aload_n (k := 9) (i := 0) rfl rfl rfl ?_
    refine p_getr (k := 10) rfl lay_X5 rfl fl_RX5_7 ?_
    obtain ⟨_, S1, hcS1, h⟩ := cl_some h
    refine p_callS (k := 11) [.ref 43, .ref 42] [] rfl (tX5_copyRow lay_43 lay_42 hcS1) lc_X5_copyRow ml_RX5_164 ms_X5_copyRow (by decide) (by decide) (Nat.le_of_ble_eq_true rfl) rfl ?_
    refine p_aload_n (k := 12) (i := 0) rfl rfl rfl ?_
    refine p_getr (k := 13) rfl lay_X5 rfl fl_RX5_7 ?_
    refine p_iconst (k := 14) 1 rfl (by decide) ?_
    refine s_rd h (k := 15) rfl lay_42 (fun v1 h => ?_)
    exact s_iret h (k := 16) rfl rfl
  · rw [if_pos hc] at h
    refine p_aload_n (k := 3) (i := 0) rfl rfl rfl ?_
    refine p_ldc (k := 4) rfl k_RX5_38 ?_
    obtain ⟨v2, S2, hcS2, h⟩ := cl_some h
    refine p_callV (k := 5) [.int (-1000004)] [] rfl (tX5_finds hcS2) lay_X5 rfl lc_X5_finds ml_RX5_39 mi_X5_finds mv_X5_finds (by decide) (by decide) (Nat.le_of_ble_eq_true rfl) rfl ?_
    exact s_iret h (k := 6) rfl rfl
theorem tX5_undo {S : St} {r : Int32} {S9 : St} (h : fX5_undo S = some (r, S9)) : MR yX5_undo cX5_undo mX5_undo [.ref 41] S (some (.int r), S9) := MR.of (n := 0) okX5_undo rfl rfl (sX5_undo h)
-- tear()I
def fX5_tear_L19 (y0 : Int32) (S : St) : Option (Int32 × St) :=
  some (y0, S)
theorem sX5_tear_L19 {r : Int32} {S9 : St} {y0 : Int32} {S : St} (h : fX5_tear_L19 y0 S = some (r, S9)) : PW mX5_tear (some (.int r), S9) 19 [none, none] [.int y0] S := by
  unfold fX5_tear_L19 at h
  exact s_iret h (k := 11) rfl rfl
def fX5_tear (S : St) : Option (Int32 × St) :=
  bnd (S 41 4) fun v1 =>
  bnd (up2 S 41 4 0) fun S1 =>
  if v1 = 0 then
    fX5_tear_L19 0 S1
  else
    fX5_tear_L19 1 S1
theorem sX5_tear {S : St} {r : Int32} {S9 : St} (h : fX5_tear S = some (r, S9)) : PW mX5_tear (some (.int r), S9) 0 [some (.ref 41), none] [] S := by
  unfold fX5_tear at h
  refine p_aload_n (k := 0) (i := 0) rfl rfl rfl ?_
  refine p_geti (k := 1) rfl lay_X5 rfl fl_RX5_286 ?_
  refine s_bnd h (fun v1 h => ?_)
  refine p_istore_n (k := 2) 1 [some (.ref 41), some (.int v1)] rfl rfl rfl (by decide) rfl ?_
  refine p_aload_n (k := 3) (i := 0) rfl rfl rfl ?_
  refine p_iconst (k := 4) 0 rfl (by decide) ?_
  refine s_put h (k := 5) rfl lay_X5 rfl fl_RX5_286 fp_5_4 (by decide) (by decide) (fun S1 h => ?_)
  refine p_iload_n (k := 6) (i := 1) rfl rfl rfl ?_
  refine p_if_eq (k := 7) 18 rfl (by decide) (fun hc => ?_) (fun hc => ?_)
  · rw [if_pos hc] at h
    refine p_iconst (k := 10) 0 rfl (by decide) ?_
    refine p_msk [false, false] (L2 := [none, none]) rfl ?_
    exact sX5_tear_L19 h
  · rw [if_neg hc] at h
    refine p_iconst (k := 8) 1 rfl (by decide) ?_
    refine p_goto (k := 9) 19 rfl (by decide) ?_
    refine p_msk [false, false] (L2 := [none, none]) rfl ?_
    exact sX5_tear_L19 h
theorem tX5_tear {S : St} {r : Int32} {S9 : St} (h : fX5_tear S = some (r, S9)) : MR yX5_tear cX5_tear mX5_tear [.ref 41] S (some (.int r), S9) := MR.of (n := 1) okX5_tear rfl rfl (sX5_tear h)
-- count(I)I
def fX5_count_L120 (k96 : Int32 → Int32 → St → Option (Int32 × St)) (x3 : Int32) (y0 : Int32) (y1 : Int32) (S : St) : Option (Int32 × St) :=
  bnd (y0 + y1) fun v1 =>
  bnd (x3 + 1) fun v2 =>
  k96 v1 v2 S
theorem sX5_count_L120 {r : Int32} {S9 : St} {k96 : Int32 → Int32 → St → Option (Int32 × St)} (hk96 : ∀ x2 x3 S, k96 x2 x3 S = some (r, S9) → PW mX5_count (some (.int r), S9) 96 [some (.ref 41), none, some (.int x2), some (.int x3)] [] S) {x3 : Int32} {y0 : Int32} {y1 : Int32} {S : St} (h : fX5_count_L120 k96 x3 y0 y1 S = some (r, S9)) : PW mX5_count (some (.int r), S9) 120 [some (.ref 41), none, none, some (.int x3)] [.int y1, .int y0] S := by
  unfold fX5_count_L120 at h
  refine p_iadd (k := 50) rfl ?_
  refine s_bnd h (fun v1 h => ?_)
  refine p_istore_n (k := 51) 2 [some (.ref 41), none, some (.int v1), some (.int x3)] rfl rfl rfl (by decide) rfl ?_
  obtain ⟨v2, ev2, h⟩ := bnd_ex h
  refine p_iinc (k := 52) v2 [some (.ref 41), none, some (.int v1), some (.int v2)] rfl rfl (by rw [← ev2]; rfl) rfl (by decide) rfl ?_
  refine p_goto (k := 53) 96 rfl (by decide) ?_
  refine p_msk [true, false, true, true] (L2 := [some (.ref 41), none, some (.int v1), some (.int v2)]) rfl ?_
  exact hk96 _ _ _ h
def fX5_count_L96 : Nat → Int32 → Int32 → St → Option (Int32 × St)
  | 0 => fun _ _ _ => none
  | n + 1 => fun x2 x3 S =>
    if 10 ≤ x3 then
      some (x2, S)
    else
      rd S 42 75 (65 + x3) fun v1 =>
      if 0 ≤ v1 then
        fX5_count_L120 (fun x2 x3 S => fX5_count_L96 n x2 x3 S) x3 x2 1 S
      else
        fX5_count_L120 (fun x2 x3 S => fX5_count_L96 n x2 x3 S) x3 x2 0 S
theorem sX5_count_L96 {r : Int32} {S9 : St} : ∀ (n : Nat) (x2 : Int32) (x3 : Int32) (S : St), fX5_count_L96 n x2 x3 S = some (r, S9) → PW mX5_count (some (.int r), S9) 96 [some (.ref 41), none, some (.int x2), some (.int x3)] [] S := by
  intro n
  induction n with
  | zero => intro x2 x3 S h; cases h
  | succ n ih =>
    intro x2 x3 S h
    unfold fX5_count_L96 at h
    refine p_iload_n (k := 36) (i := 3) rfl rfl rfl ?_
    refine p_bipush (k := 37) 10 rfl (by decide) ?_
    refine p_icmp_ge (k := 38) 128 rfl (by decide) (fun hc => ?_) (fun hc => ?_)
    · rw [if_pos hc] at h
      refine p_iload_n (k := 54) (i := 2) rfl rfl rfl ?_
      exact s_iret h (k := 55) rfl rfl
    · rw [if_neg hc] at h
      refine p_iload_n (k := 39) (i := 2) rfl rfl rfl ?_
      refine p_aload_n (k := 40) (i := 0) rfl rfl rfl ?_
      refine p_getr (k := 41) rfl lay_X5 rfl fl_RX5_7 ?_
      refine p_bipush (k := 42) 65 rfl (by decide) ?_
      refine p_iload_n (k := 43) (i := 3) rfl rfl rfl ?_
      refine p_iadd (k := 44) rfl ?_
      refine s_rd h (k := 45) rfl lay_42 (fun v1 h => ?_)
      refine p_if_ge (k := 46) 119 rfl (by decide) (fun hc => ?_) (fun hc => ?_)
      · rw [if_pos hc] at h
        refine p_iconst (k := 49) 1 rfl (by decide) ?_
        refine p_msk [true, false, false, true] (L2 := [some (.ref 41), none, none, some (.int x3)]) rfl ?_
        exact sX5_count_L120 ih h
      · rw [if_neg hc] at h
        refine p_iconst (k := 47) 0 rfl (by decide) ?_
        refine p_goto (k := 48) 120 rfl (by decide) ?_
        refine p_msk [true, false, false, true] (L2 := [some (.ref 41), none, none, some (.int x3)]) rfl ?_
        exact sX5_count_L120 ih h
def fX5_count (a1 : Int32) (S : St) : Option (Int32 × St) :=
  if a1 = 0 then
    rd S 42 75 1 fun v1 =>
    some (v1, S)
  else
  if a1 = 1 then
    rd S 42 75 0 fun v2 =>
    some (v2, S)
  else
  if a1 = 2 then
    cl (fX5_knownAll S) fun v3 S1 =>
    cl (fX5_many v3 S1) fun v4 S2 =>
    some (v4, S2)
  else
  if a1 = 3 then
    rd S 42 75 4 fun v5 =>
    some (v5, S)
  else
  if a1 = 4 then
    cl (fX5_grassAll S) fun v6 S3 =>
    some (v6, S3)
  else
  if a1 = 5 then
    some (S 41 7, S)
  else
  if a1 = 6 then
    rd S 42 75 2 fun v7 =>
    some (v7, S)
  else
  if a1 = 7 then
    fX5_count_L96 FU 0 0 S
  else
  cl (fX5_finds (-1000001) S) fun v8 S4 =>
  some (v8, S4)
theorem sX5_count {a1 : Int32} {S : St} {r : Int32} {S9 : St} (h : fX5_count a1 S = some (r, S9)) : PW mX5_count (some (.int r), S9) 0 [some (.ref 41), some (.int a1), none, none] [] S := by
  unfold fX5_count at h
  refine p_iconst (k := 0) 0 rfl (by decide) ?_
  refine p_istore_n (k := 1) 2 [some (.ref 41), some (.int a1), some (.int 0), none] rfl rfl rfl (by decide) rfl ?_
  refine p_iload_n (k := 2) (i := 1) rfl rfl rfl ?_
  by_cases hx0 : a1 = 0
  · rw [if_pos hx0] at h
    refine p_tableIn (k := 3) (off := 45) 48 rfl (by rw [hx0]; decide) (by rw [hx0]; decide) (by rw [hx0]; decide) (by decide) ?_
    refine p_aload_n (k := 4) (i := 0) rfl rfl rfl ?_
    refine p_getr (k := 5) rfl lay_X5 rfl fl_RX5_7 ?_
    refine p_iconst (k := 6) 1 rfl (by decide) ?_
    refine s_rd h (k := 7) rfl lay_42 (fun v1 h => ?_)
    exact s_iret h (k := 8) rfl rfl
  rw [if_neg hx0] at h
  by_cases hx1 : a1 = 1
  · rw [if_pos hx1] at h
    refine p_tableIn (k := 3) (off := 52) 55 rfl (by rw [hx1]; decide) (by rw [hx1]; decide) (by rw [hx1]; decide) (by decide) ?_
    refine p_aload_n (k := 9) (i := 0) rfl rfl rfl ?_
    refine p_getr (k := 10) rfl lay_X5 rfl fl_RX5_7 ?_
    refine p_iconst (k := 11) 0 rfl (by decide) ?_
    refine s_rd h (k := 12) rfl lay_42 (fun v2 h => ?_)
    exact s_iret h (k := 13) rfl rfl
  rw [if_neg hx1] at h
  by_cases hx2 : a1 = 2
  · rw [if_pos hx2] at h
    refine p_tableIn (k := 3) (off := 59) 62 rfl (by rw [hx2]; decide) (by rw [hx2]; decide) (by rw [hx2]; decide) (by decide) ?_
    refine p_aload_n (k := 14) (i := 0) rfl rfl rfl ?_
    obtain ⟨v3, S1, hcS1, h⟩ := cl_some h
    refine p_callV (k := 15) [] [] rfl (tX5_knownAll hcS1) lay_X5 rfl lc_X5_knownAll ml_RX5_151 mi_X5_knownAll mv_X5_knownAll (by decide) (by decide) (Nat.le_of_ble_eq_true rfl) rfl ?_
    obtain ⟨v4, S2, hcS2, h⟩ := cl_some h
    refine p_callS (k := 16) [.int v3] [] rfl (tX5_many hcS2) lc_X5_many ml_RX5_86 ms_X5_many (by decide) (by decide) (Nat.le_of_ble_eq_true rfl) rfl ?_
    exact s_iret h (k := 17) rfl rfl
  rw [if_neg hx2] at h
  by_cases hx3 : a1 = 3
  · rw [if_pos hx3] at h
    refine p_tableIn (k := 3) (off := 67) 70 rfl (by rw [hx3]; decide) (by rw [hx3]; decide) (by rw [hx3]; decide) (by decide) ?_
    refine p_aload_n (k := 18) (i := 0) rfl rfl rfl ?_
    refine p_getr (k := 19) rfl lay_X5 rfl fl_RX5_7 ?_
    refine p_iconst (k := 20) 4 rfl (by decide) ?_
    refine s_rd h (k := 21) rfl lay_42 (fun v5 h => ?_)
    exact s_iret h (k := 22) rfl rfl
  rw [if_neg hx3] at h
  by_cases hx4 : a1 = 4
  · rw [if_pos hx4] at h
    refine p_tableIn (k := 3) (off := 74) 77 rfl (by rw [hx4]; decide) (by rw [hx4]; decide) (by rw [hx4]; decide) (by decide) ?_
    refine p_aload_n (k := 23) (i := 0) rfl rfl rfl ?_
    obtain ⟨v6, S3, hcS3, h⟩ := cl_some h
    refine p_callV (k := 24) [] [] rfl (tX5_grassAll hcS3) lay_X5 rfl lc_X5_grassAll ml_RX5_155 mi_X5_grassAll mv_X5_grassAll (by decide) (by decide) (Nat.le_of_ble_eq_true rfl) rfl ?_
    exact s_iret h (k := 25) rfl rfl
  rw [if_neg hx4] at h
  by_cases hx5 : a1 = 5
  · rw [if_pos hx5] at h
    refine p_tableIn (k := 3) (off := 79) 82 rfl (by rw [hx5]; decide) (by rw [hx5]; decide) (by rw [hx5]; decide) (by decide) ?_
    refine p_aload_n (k := 26) (i := 0) rfl rfl rfl ?_
    refine p_geti (k := 27) rfl lay_X5 rfl fl_RX5_209 ?_
    exact s_iret h (k := 28) rfl rfl
  rw [if_neg hx5] at h
  by_cases hx6 : a1 = 6
  · rw [if_pos hx6] at h
    refine p_tableIn (k := 3) (off := 84) 87 rfl (by rw [hx6]; decide) (by rw [hx6]; decide) (by rw [hx6]; decide) (by decide) ?_
    refine p_aload_n (k := 29) (i := 0) rfl rfl rfl ?_
    refine p_getr (k := 30) rfl lay_X5 rfl fl_RX5_7 ?_
    refine p_iconst (k := 31) 2 rfl (by decide) ?_
    refine s_rd h (k := 32) rfl lay_42 (fun v7 h => ?_)
    exact s_iret h (k := 33) rfl rfl
  rw [if_neg hx6] at h
  by_cases hx7 : a1 = 7
  · rw [if_pos hx7] at h
    refine p_tableIn (k := 3) (off := 91) 94 rfl (by rw [hx7]; decide) (by rw [hx7]; decide) (by rw [hx7]; decide) (by decide) ?_
    refine p_iconst (k := 34) 0 rfl (by decide) ?_
    refine p_istore_n (k := 35) 3 [some (.ref 41), some (.int a1), some (.int 0), some (.int 0)] rfl rfl rfl (by decide) rfl ?_
    refine p_msk [true, false, true, true] (L2 := [some (.ref 41), none, some (.int 0), some (.int 0)]) rfl ?_
    exact sX5_count_L96 _ _ _ _ h
  rw [if_neg hx7] at h
  have hz0 := toInt_ne hx0 (z := 0) (by decide)
  have hz1 := toInt_ne hx1 (z := 1) (by decide)
  have hz2 := toInt_ne hx2 (z := 2) (by decide)
  have hz3 := toInt_ne hx3 (z := 3) (by decide)
  have hz4 := toInt_ne hx4 (z := 4) (by decide)
  have hz5 := toInt_ne hx5 (z := 5) (by decide)
  have hz6 := toInt_ne hx6 (z := 6) (by decide)
  have hz7 := toInt_ne hx7 (z := 7) (by decide)
  refine p_tableOut (k := 3) 130 rfl (by omega) (by decide) ?_
  refine p_aload_n (k := 56) (i := 0) rfl rfl rfl ?_
  refine p_ldc (k := 57) rfl k_RX5_37 ?_
  obtain ⟨v8, S4, hcS4, h⟩ := cl_some h
  refine p_callV (k := 58) [.int (-1000001)] [] rfl (tX5_finds hcS4) lay_X5 rfl lc_X5_finds ml_RX5_39 mi_X5_finds mv_X5_finds (by decide) (by decide) (Nat.le_of_ble_eq_true rfl) rfl ?_
  exact s_iret h (k := 59) rfl rfl
theorem tX5_count {a1 : Int32} {S : St} {r : Int32} {S9 : St} (h : fX5_count a1 S = some (r, S9)) : MR yX5_count cX5_count mX5_count [.ref 41, .int a1] S (some (.int r), S9) := MR.of (n := 2) okX5_count rfl rfl (sX5_count h)
-- status(I)I
def fX5_status_L31 (y0 : Int32) (S : St) : Option (Int32 × St) :=
  some (y0, S)
theorem sX5_status_L31 {r : Int32} {S9 : St} {y0 : Int32} {S : St} (h : fX5_status_L31 y0 S = some (r, S9)) : PW mX5_status (some (.int r), S9) 31 [none, none] [.int y0] S := by
  unfold fX5_status_L31 at h
  exact s_iret h (k := 16) rfl rfl
def fX5_status (a1 : Int32) (S : St) : Option (Int32 × St) :=
  cl (fX5_isIn (Int32.toInt64 a1) (-1) 6 S) fun v1 S1 =>
  if v1 = 0 then
    cl (fX5_finds (-1000001) S1) fun v2 S2 =>
    fX5_status_L31 v2 S2
  else
    rd S1 46 8 (a1 + 1) fun v3 =>
    fX5_status_L31 v3 S1
theorem sX5_status {a1 : Int32} {S : St} {r : Int32} {S9 : St} (h : fX5_status a1 S = some (r, S9)) : PW mX5_status (some (.int r), S9) 0 [some (.ref 41), some (.int a1)] [] S := by
  unfold fX5_status at h
  refine p_iload_n (k := 0) (i := 1) rfl rfl rfl ?_
  refine p_i2l (k := 1) rfl ?_
  refine p_ldc2 (k := 2) rfl k_RX5_290 ?_
  refine p_ldc2 (k := 3) rfl k_RX5_75 ?_
  obtain ⟨v1, S1, hcS1, h⟩ := cl_some h
  refine p_callS (k := 4) [.long (Int32.toInt64 a1), .long (-1), .long 6] [] rfl (tX5_isIn hcS1) lc_X5_isIn ml_RX5_49 ms_X5_isIn (by decide) (by decide) (Nat.le_of_ble_eq_true rfl) rfl ?_
  refine p_if_eq (k := 5) 25 rfl (by decide) (fun hc => ?_) (fun hc => ?_)
  · rw [if_pos hc] at h
    refine p_aload_n (k := 13) (i := 0) rfl rfl rfl ?_
    refine p_ldc (k := 14) rfl k_RX5_37 ?_
    obtain ⟨v2, S2, hcS2, h⟩ := cl_some h
    refine p_callV (k := 15) [.int (-1000001)] [] rfl (tX5_finds hcS2) lay_X5 rfl lc_X5_finds ml_RX5_39 mi_X5_finds mv_X5_finds (by decide) (by decide) (Nat.le_of_ble_eq_true rfl) rfl ?_
    refine p_msk [false, false] (L2 := [none, none]) rfl ?_
    exact sX5_status_L31 h
  · rw [if_neg hc] at h
    refine p_aload_n (k := 6) (i := 0) rfl rfl rfl ?_
    refine p_getr (k := 7) rfl lay_X5 rfl fl_RX5_22 ?_
    refine p_iload_n (k := 8) (i := 1) rfl rfl rfl ?_
    refine p_iconst (k := 9) 1 rfl (by decide) ?_
    refine p_iadd (k := 10) rfl ?_
    refine s_rd h (k := 11) rfl lay_46 (fun v3 h => ?_)
    refine p_goto (k := 12) 31 rfl (by decide) ?_
    refine p_msk [false, false] (L2 := [none, none]) rfl ?_
    exact sX5_status_L31 h
theorem tX5_status {a1 : Int32} {S : St} {r : Int32} {S9 : St} (h : fX5_status a1 S = some (r, S9)) : MR yX5_status cX5_status mX5_status [.ref 41, .int a1] S (some (.int r), S9) := MR.of (n := 0) okX5_status rfl rfl (sX5_status h)
