-- isLedge(I)Z
def fX4_isLedge_L15 (y0 : Int32) (S : St) : Option (Int32 × St) :=
  retN .boolean y0 S
theorem sX4_isLedge_L15 {r : Int32} {S9 : St} {y0 : Int32} {S : St} (h : fX4_isLedge_L15 y0 S = some (r, S9)) : PW mX4_isLedge (some (.int r), S9) 15 [none] [.int y0] S := by
  unfold fX4_isLedge_L15 at h
  exact s_zret h (k := 8) rfl rfl
def fX4_isLedge_L14 (S : St) : Option (Int32 × St) :=
  fX4_isLedge_L15 0 S
theorem sX4_isLedge_L14 {r : Int32} {S9 : St}  {S : St} (h : fX4_isLedge_L14 S = some (r, S9)) : PW mX4_isLedge (some (.int r), S9) 14 [none] [] S := by
  unfold fX4_isLedge_L14 at h
  refine p_iconst (k := 7) 0 rfl (by decide) ?_
  refine p_msk [false] (L2 := [none]) rfl ?_
  exact sX4_isLedge_L15 h
def fX4_isLedge (a1 : Int32) (S : St) : Option (Int32 × St) :=
  if a1 < 0 then
    fX4_isLedge_L14 S
  else
    if 12 ≤ a1 then
      fX4_isLedge_L14 S
    else
      fX4_isLedge_L15 1 S
theorem sX4_isLedge {a1 : Int32} {S : St} {r : Int32} {S9 : St} (h : fX4_isLedge a1 S = some (r, S9)) : PW mX4_isLedge (some (.int r), S9) 0 [some (.int a1)] [] S := by
  unfold fX4_isLedge at h
  refine p_iload_n (k := 0) (i := 0) rfl rfl rfl ?_
  refine p_if_lt (k := 1) 14 rfl (by decide) (fun hc => ?_) (fun hc => ?_)
  · rw [if_pos hc] at h
    refine p_msk [false] (L2 := [none]) rfl ?_
    exact sX4_isLedge_L14 h
  · rw [if_neg hc] at h
    refine p_iload_n (k := 2) (i := 0) rfl rfl rfl ?_
    refine p_bipush (k := 3) 12 rfl (by decide) ?_
    refine p_icmp_ge (k := 4) 14 rfl (by decide) (fun hc => ?_) (fun hc => ?_)
    · rw [if_pos hc] at h
      refine p_msk [false] (L2 := [none]) rfl ?_
      exact sX4_isLedge_L14 h
    · rw [if_neg hc] at h
      refine p_iconst (k := 5) 1 rfl (by decide) ?_
      refine p_goto (k := 6) 15 rfl (by decide) ?_
      refine p_msk [false] (L2 := [none]) rfl ?_
      exact sX4_isLedge_L15 h
theorem tX4_isLedge {a1 : Int32} {S : St} {r : Int32} {S9 : St} (h : fX4_isLedge a1 S = some (r, S9)) : MR yX4_isLedge cX4_isLedge mX4_isLedge [.int a1] S (some (.int r), S9) := MR.of (n := 0) okX4_isLedge rfl rfl (sX4_isLedge h)
-- isWithin(II)Z
def fX4_isWithin_L14 (y0 : Int32) (S : St) : Option (Int32 × St) :=
  retN .boolean y0 S
theorem sX4_isWithin_L14 {r : Int32} {S9 : St} {y0 : Int32} {S : St} (h : fX4_isWithin_L14 y0 S = some (r, S9)) : PW mX4_isWithin (some (.int r), S9) 14 [none, none] [.int y0] S := by
  unfold fX4_isWithin_L14 at h
  exact s_zret h (k := 8) rfl rfl
def fX4_isWithin_L13 (S : St) : Option (Int32 × St) :=
  fX4_isWithin_L14 0 S
theorem sX4_isWithin_L13 {r : Int32} {S9 : St}  {S : St} (h : fX4_isWithin_L13 S = some (r, S9)) : PW mX4_isWithin (some (.int r), S9) 13 [none, none] [] S := by
  unfold fX4_isWithin_L13 at h
  refine p_iconst (k := 7) 0 rfl (by decide) ?_
  refine p_msk [false, false] (L2 := [none, none]) rfl ?_
  exact sX4_isWithin_L14 h
def fX4_isWithin (a1 : Int32) (a2 : Int32) (S : St) : Option (Int32 × St) :=
  if a1 < 0 then
    fX4_isWithin_L13 S
  else
    if a2 < a1 then
      fX4_isWithin_L13 S
    else
      fX4_isWithin_L14 1 S
theorem sX4_isWithin {a1 : Int32} {a2 : Int32} {S : St} {r : Int32} {S9 : St} (h : fX4_isWithin a1 a2 S = some (r, S9)) : PW mX4_isWithin (some (.int r), S9) 0 [some (.int a1), some (.int a2)] [] S := by
  unfold fX4_isWithin at h
  refine p_iload_n (k := 0) (i := 0) rfl rfl rfl ?_
  refine p_if_lt (k := 1) 13 rfl (by decide) (fun hc => ?_) (fun hc => ?_)
  · rw [if_pos hc] at h
    refine p_msk [false, false] (L2 := [none, none]) rfl ?_
    exact sX4_isWithin_L13 h
  · rw [if_neg hc] at h
    refine p_iload_n (k := 2) (i := 0) rfl rfl rfl ?_
    refine p_iload_n (k := 3) (i := 1) rfl rfl rfl ?_
    refine p_icmp_gt (k := 4) 13 rfl (by decide) (fun hc => ?_) (fun hc => ?_)
    · rw [if_pos hc] at h
      refine p_msk [false, false] (L2 := [none, none]) rfl ?_
      exact sX4_isWithin_L13 h
    · rw [if_neg hc] at h
      refine p_iconst (k := 5) 1 rfl (by decide) ?_
      refine p_goto (k := 6) 14 rfl (by decide) ?_
      refine p_msk [false, false] (L2 := [none, none]) rfl ?_
      exact sX4_isWithin_L14 h
theorem tX4_isWithin {a1 : Int32} {a2 : Int32} {S : St} {r : Int32} {S9 : St} (h : fX4_isWithin a1 a2 S = some (r, S9)) : MR yX4_isWithin cX4_isWithin mX4_isWithin [.int a1, .int a2] S (some (.int r), S9) := MR.of (n := 0) okX4_isWithin rfl rfl (sX4_isWithin h)
-- found(I)I
def fX4_found_L25 (x1 : Int32) (S : St) : Option (Int32 × St) :=
  some (x1, S)
theorem sX4_found_L25 {r : Int32} {S9 : St} {x1 : Int32} {S : St} (h : fX4_found_L25 x1 S = some (r, S9)) : PW mX4_found (some (.int r), S9) 25 [none, some (.int x1), none] [] S := by
  unfold fX4_found_L25 at h
  refine p_iload_n (k := 17) (i := 1) rfl rfl rfl ?_
  exact s_iret h (k := 18) rfl rfl
def fX4_found (a1 : Int32) (S : St) : Option (Int32 × St) :=
  bnd ((-1000001) - a1) fun v1 =>
  if v1 < 0 then
    fX4_found_L25 a1 S
  else
    if 7 ≤ v1 then
      fX4_found_L25 a1 S
    else
      rd S 40 7 v1 fun v2 =>
      wr S 40 7 v1 (v2 + 1) fun S1 =>
      fX4_found_L25 a1 S1
theorem sX4_found {a1 : Int32} {S : St} {r : Int32} {S9 : St} (h : fX4_found a1 S = some (r, S9)) : PW mX4_found (some (.int r), S9) 0 [some (.ref 0), some (.int a1), none] [] S := by
  unfold fX4_found at h
  refine p_ldc (k := 0) rfl k_RX4_61 ?_
  refine p_iload_n (k := 1) (i := 1) rfl rfl rfl ?_
  refine p_isub (k := 2) rfl ?_
  refine s_bnd h (fun v1 h => ?_)
  refine p_istore_n (k := 3) 2 [some (.ref 0), some (.int a1), some (.int v1)] rfl rfl rfl (by decide) rfl ?_
  refine p_iload_n (k := 4) (i := 2) rfl rfl rfl ?_
  refine p_if_lt (k := 5) 25 rfl (by decide) (fun hc => ?_) (fun hc => ?_)
  · rw [if_pos hc] at h
    refine p_msk [false, true, false] (L2 := [none, some (.int a1), none]) rfl ?_
    exact sX4_found_L25 h
  · rw [if_neg hc] at h
    refine p_iload_n (k := 6) (i := 2) rfl rfl rfl ?_
    refine p_bipush (k := 7) 7 rfl (by decide) ?_
    refine p_icmp_ge (k := 8) 25 rfl (by decide) (fun hc => ?_) (fun hc => ?_)
    · rw [if_pos hc] at h
      refine p_msk [false, true, false] (L2 := [none, some (.int a1), none]) rfl ?_
      exact sX4_found_L25 h
    · rw [if_neg hc] at h
      refine p_aload_n (k := 9) (i := 0) rfl rfl rfl ?_
      refine p_getr (k := 10) rfl lay_X4 rfl fl_RX4_49 ?_
      refine p_iload_n (k := 11) (i := 2) rfl rfl rfl ?_
      refine p_dup2 (k := 12) rfl rfl rfl ?_
      refine s_rd h (k := 13) rfl lay_40 (fun v2 h => ?_)
      refine p_iconst (k := 14) 1 rfl (by decide) ?_
      refine p_iadd (k := 15) rfl ?_
      refine s_wr h (k := 16) rfl lay_40 (fun S1 h => ?_)
      refine p_msk [false, true, false] (L2 := [none, some (.int a1), none]) rfl ?_
      exact sX4_found_L25 h
theorem tX4_found {a1 : Int32} {S : St} {r : Int32} {S9 : St} (h : fX4_found a1 S = some (r, S9)) : MR yX4_found cX4_found mX4_found [.ref 0, .int a1] S (some (.int r), S9) := MR.of (n := 1) okX4_found rfl rfl (sX4_found h)
-- grass(II)I
def fX4_grass_L16 (S : St) : Option (Int32 × St) :=
  cl (fX4_found (-1000001) S) fun v1 S1 =>
  some (v1, S1)
theorem sX4_grass_L16 {r : Int32} {S9 : St}  {S : St} (h : fX4_grass_L16 S = some (r, S9)) : PW mX4_grass (some (.int r), S9) 16 [some (.ref 0), none, none, none] [] S := by
  unfold fX4_grass_L16 at h
  refine p_aload_n (k := 7) (i := 0) rfl rfl rfl ?_
  refine p_ldc (k := 8) rfl k_RX4_61 ?_
  obtain ⟨v1, S1, hcS1, h⟩ := cl_some h
  refine p_callV (k := 9) [.int (-1000001)] [] rfl (tX4_found hcS1) lay_X4 rfl lc_X4_found ml_RX4_62 mi_X4_found mv_X4_found (by decide) (by decide) (Nat.le_of_ble_eq_true rfl) rfl ?_
  exact s_iret h (k := 10) rfl rfl
def fX4_grass (a1 : Int32) (a2 : Int32) (S : St) : Option (Int32 × St) :=
  cl (fX4_isLedge a1 S) fun v1 S1 =>
  if v1 = 0 then
    fX4_grass_L16 S1
  else
    cl (fX4_isWithin a2 99 S1) fun v2 S2 =>
    if v2 = 0 then
      fX4_grass_L16 S2
    else
      rd S2 (1 + 1) 12 a1 fun v3 =>
      wr S2 (1 + 1) 12 a1 a2 fun S3 =>
      some (v3, S3)
theorem sX4_grass {a1 : Int32} {a2 : Int32} {S : St} {r : Int32} {S9 : St} (h : fX4_grass a1 a2 S = some (r, S9)) : PW mX4_grass (some (.int r), S9) 0 [some (.ref 0), some (.int a1), some (.int a2), none] [] S := by
  unfold fX4_grass at h
  refine p_iload_n (k := 0) (i := 1) rfl rfl rfl ?_
  obtain ⟨v1, S1, hcS1, h⟩ := cl_some h
  refine p_callS (k := 1) [.int a1] [] rfl (tX4_isLedge hcS1) lc_X4_isLedge ml_RX4_53 ms_X4_isLedge (by decide) (by decide) (Nat.le_of_ble_eq_true rfl) rfl ?_
  refine p_if_eq (k := 2) 16 rfl (by decide) (fun hc => ?_) (fun hc => ?_)
  · rw [if_pos hc] at h
    refine p_msk [true, false, false, false] (L2 := [some (.ref 0), none, none, none]) rfl ?_
    exact sX4_grass_L16 h
  · rw [if_neg hc] at h
    refine p_iload_n (k := 3) (i := 2) rfl rfl rfl ?_
    refine p_bipush (k := 4) 99 rfl (by decide) ?_
    obtain ⟨v2, S2, hcS2, h⟩ := cl_some h
    refine p_callS (k := 5) [.int a2, .int 99] [] rfl (tX4_isWithin hcS2) lc_X4_isWithin ml_RX4_57 ms_X4_isWithin (by decide) (by decide) (Nat.le_of_ble_eq_true rfl) rfl ?_
    refine p_if_ne (k := 6) 23 rfl (by decide) (fun hc => ?_) (fun hc => ?_)
    · rw [if_neg hc] at h
      refine p_aload_n (k := 11) (i := 0) rfl rfl rfl ?_
      refine p_getr (k := 12) rfl lay_X4 rfl fl_RX4_12 ?_
      refine p_getr (k := 13) rfl (lay_c isC_1) rfl fl_RX4_66 ?_
      refine p_iload_n (k := 14) (i := 1) rfl rfl rfl ?_
      refine s_rd h (k := 15) rfl (lay_c0 isC_1) (fun v3 h => ?_)
      refine p_istore_n (k := 16) 3 [some (.ref 0), some (.int a1), some (.int a2), some (.int v3)] rfl rfl rfl (by decide) rfl ?_
      refine p_aload_n (k := 17) (i := 0) rfl rfl rfl ?_
      refine p_getr (k := 18) rfl lay_X4 rfl fl_RX4_12 ?_
      refine p_getr (k := 19) rfl (lay_c isC_1) rfl fl_RX4_66 ?_
      refine p_iload_n (k := 20) (i := 1) rfl rfl rfl ?_
      refine p_iload_n (k := 21) (i := 2) rfl rfl rfl ?_
      refine s_wr h (k := 22) rfl (lay_c0 isC_1) (fun S3 h => ?_)
      refine p_iload_n (k := 23) (i := 3) rfl rfl rfl ?_
      exact s_iret h (k := 24) rfl rfl
    · rw [if_pos hc] at h
      refine p_msk [true, false, false, false] (L2 := [some (.ref 0), none, none, none]) rfl ?_
      exact sX4_grass_L16 h
theorem tX4_grass {a1 : Int32} {a2 : Int32} {S : St} {r : Int32} {S9 : St} (h : fX4_grass a1 a2 S = some (r, S9)) : MR yX4_grass cX4_grass mX4_grass [.ref 0, .int a1, .int a2] S (some (.int r), S9) := MR.of (n := 1) okX4_grass rfl rfl (sX4_grass h)
-- ledge(II)I
def fX4_ledge_L15 (S : St) : Option (Int32 × St) :=
  cl (fX4_found (-1000001) S) fun v1 S1 =>
  some (v1, S1)
theorem sX4_ledge_L15 {r : Int32} {S9 : St}  {S : St} (h : fX4_ledge_L15 S = some (r, S9)) : PW mX4_ledge (some (.int r), S9) 15 [some (.ref 0), none, none] [] S := by
  unfold fX4_ledge_L15 at h
  refine p_aload_n (k := 7) (i := 0) rfl rfl rfl ?_
  refine p_ldc (k := 8) rfl k_RX4_61 ?_
  obtain ⟨v1, S1, hcS1, h⟩ := cl_some h
  refine p_callV (k := 9) [.int (-1000001)] [] rfl (tX4_found hcS1) lay_X4 rfl lc_X4_found ml_RX4_62 mi_X4_found mv_X4_found (by decide) (by decide) (Nat.le_of_ble_eq_true rfl) rfl ?_
  exact s_iret h (k := 10) rfl rfl
def fX4_ledge (a1 : Int32) (a2 : Int32) (S : St) : Option (Int32 × St) :=
  cl (fX4_isLedge a1 S) fun v1 S1 =>
  if v1 = 0 then
    fX4_ledge_L15 S1
  else
    cl (fX4_isWithin a2 2 S1) fun v2 S2 =>
    if v2 = 0 then
      fX4_ledge_L15 S2
    else
      if a2 = 0 then
        rd S2 (1 + 1) 12 a1 fun v3 =>
        some (v3, S2)
      else
      if a2 = 1 then
        cl (fX0_goatsOn 1 a1 S2) fun v4 S3 =>
        some (v4, S3)
      else
      cl (fX0_pagesOn 1 a1 S2) fun v5 S4 =>
      some (v5, S4)
theorem sX4_ledge {a1 : Int32} {a2 : Int32} {S : St} {r : Int32} {S9 : St} (h : fX4_ledge a1 a2 S = some (r, S9)) : PW mX4_ledge (some (.int r), S9) 0 [some (.ref 0), some (.int a1), some (.int a2)] [] S := by
  unfold fX4_ledge at h
  refine p_iload_n (k := 0) (i := 1) rfl rfl rfl ?_
  obtain ⟨v1, S1, hcS1, h⟩ := cl_some h
  refine p_callS (k := 1) [.int a1] [] rfl (tX4_isLedge hcS1) lc_X4_isLedge ml_RX4_53 ms_X4_isLedge (by decide) (by decide) (Nat.le_of_ble_eq_true rfl) rfl ?_
  refine p_if_eq (k := 2) 15 rfl (by decide) (fun hc => ?_) (fun hc => ?_)
  · rw [if_pos hc] at h
    refine p_msk [true, false, false] (L2 := [some (.ref 0), none, none]) rfl ?_
    exact sX4_ledge_L15 h
  · rw [if_neg hc] at h
    refine p_iload_n (k := 3) (i := 2) rfl rfl rfl ?_
    refine p_iconst (k := 4) 2 rfl (by decide) ?_
    obtain ⟨v2, S2, hcS2, h⟩ := cl_some h
    refine p_callS (k := 5) [.int a2, .int 2] [] rfl (tX4_isWithin hcS2) lc_X4_isWithin ml_RX4_57 ms_X4_isWithin (by decide) (by decide) (Nat.le_of_ble_eq_true rfl) rfl ?_
    refine p_if_ne (k := 6) 22 rfl (by decide) (fun hc => ?_) (fun hc => ?_)
    · rw [if_neg hc] at h
      refine p_iload_n (k := 11) (i := 2) rfl rfl rfl ?_
      by_cases hx0 : a2 = 0
      · rw [if_pos hx0] at h
        refine p_lookup (k := 12) (off := 25) 48 rfl (by decide) (by rw [hx0]; decide) (by decide) ?_
        refine p_aload_n (k := 13) (i := 0) rfl rfl rfl ?_
        refine p_getr (k := 14) rfl lay_X4 rfl fl_RX4_12 ?_
        refine p_getr (k := 15) rfl (lay_c isC_1) rfl fl_RX4_66 ?_
        refine p_iload_n (k := 16) (i := 1) rfl rfl rfl ?_
        refine s_rd h (k := 17) rfl (lay_c0 isC_1) (fun v3 h => ?_)
        exact s_iret h (k := 18) rfl rfl
      rw [if_neg hx0] at h
      by_cases hx1 : a2 = 1
      · rw [if_pos hx1] at h
        refine p_lookup (k := 12) (off := 35) 58 rfl (by decide) (by rw [hx1]; decide) (by decide) ?_
        refine p_aload_n (k := 19) (i := 0) rfl rfl rfl ?_
        refine p_getr (k := 20) rfl lay_X4 rfl fl_RX4_12 ?_
        refine p_iload_n (k := 21) (i := 1) rfl rfl rfl ?_
        obtain ⟨v4, S3, hcS3, h⟩ := cl_some h
        refine p_callV (k := 22) [.int a1] [] rfl (tX0_goatsOn isC_1 hcS3) (lay_c isC_1) rfl lc_X0_goatsOn ml_RX4_69 mi_X0_goatsOn mv_X0_goatsOn (by decide) (by decide) (Nat.le_of_ble_eq_true rfl) rfl ?_
        exact s_iret h (k := 23) rfl rfl
      rw [if_neg hx1] at h
      have hz0 := toInt_ne hx0 (z := 0) (by decide)
      have hz1 := toInt_ne hx1 (z := 1) (by decide)
      refine p_lookup (k := 12) (off := 44) 67 rfl (by decide) (by refine (lv_osw hx0 (by decide)).trans ?_; refine (lv_osw hx1 (by decide)).trans ?_; rfl) (by decide) ?_
      refine p_aload_n (k := 24) (i := 0) rfl rfl rfl ?_
      refine p_getr (k := 25) rfl lay_X4 rfl fl_RX4_12 ?_
      refine p_iload_n (k := 26) (i := 1) rfl rfl rfl ?_
      obtain ⟨v5, S4, hcS4, h⟩ := cl_some h
      refine p_callV (k := 27) [.int a1] [] rfl (tX0_pagesOn isC_1 hcS4) (lay_c isC_1) rfl lc_X0_pagesOn ml_RX4_72 mi_X0_pagesOn mv_X0_pagesOn (by decide) (by decide) (Nat.le_of_ble_eq_true rfl) rfl ?_
      exact s_iret h (k := 28) rfl rfl
    · rw [if_pos hc] at h
      refine p_msk [true, false, false] (L2 := [some (.ref 0), none, none]) rfl ?_
      exact sX4_ledge_L15 h
theorem tX4_ledge {a1 : Int32} {a2 : Int32} {S : St} {r : Int32} {S9 : St} (h : fX4_ledge a1 a2 S = some (r, S9)) : MR yX4_ledge cX4_ledge mX4_ledge [.ref 0, .int a1, .int a2] S (some (.int r), S9) := MR.of (n := 0) okX4_ledge rfl rfl (sX4_ledge h)
-- set(II)I
def fX4_set_L64 (S : St) : Option (Int32 × St) :=
  cl (fX4_found (-1000001) S) fun v1 S1 =>
  some (v1, S1)
theorem sX4_set_L64 {r : Int32} {S9 : St}  {S : St} (h : fX4_set_L64 S = some (r, S9)) : PW mX4_set (some (.int r), S9) 64 [some (.ref 0), none, none, none] [] S := by
  unfold fX4_set_L64 at h
  refine p_aload_n (k := 33) (i := 0) rfl rfl rfl ?_
  refine p_ldc (k := 34) rfl k_RX4_61 ?_
  obtain ⟨v1, S1, hcS1, h⟩ := cl_some h
  refine p_callV (k := 35) [.int (-1000001)] [] rfl (tX4_found hcS1) lay_X4 rfl lc_X4_found ml_RX4_62 mi_X4_found mv_X4_found (by decide) (by decide) (Nat.le_of_ble_eq_true rfl) rfl ?_
  exact s_iret h (k := 36) rfl rfl
def fX4_set_L31 (x1 : Int32) (x2 : Int32) (S : St) : Option (Int32 × St) :=
  if x1 = 1 then
    cl (fX4_isWithin x2 9999 S) fun v1 S1 =>
    if v1 = 0 then
      fX4_set_L64 S1
    else
      bnd (S1 1 11) fun v2 =>
      bnd (up2 S1 1 11 x2) fun S2 =>
      some (v2, S2)
  else
    fX4_set_L64 S
theorem sX4_set_L31 {r : Int32} {S9 : St} {x1 : Int32} {x2 : Int32} {S : St} (h : fX4_set_L31 x1 x2 S = some (r, S9)) : PW mX4_set (some (.int r), S9) 31 [some (.ref 0), some (.int x1), some (.int x2), none] [] S := by
  unfold fX4_set_L31 at h
  refine p_iload_n (k := 16) (i := 1) rfl rfl rfl ?_
  refine p_iconst (k := 17) 1 rfl (by decide) ?_
  refine p_icmp_ne (k := 18) 64 rfl (by decide) (fun hc => ?_) (fun hc => ?_)
  · rw [if_neg hc] at h
    refine p_msk [true, false, false, false] (L2 := [some (.ref 0), none, none, none]) rfl ?_
    exact sX4_set_L64 h
  · rw [if_pos hc] at h
    refine p_iload_n (k := 19) (i := 2) rfl rfl rfl ?_
    refine p_sipush (k := 20) 9999 rfl (by decide) ?_
    obtain ⟨v1, S1, hcS1, h⟩ := cl_some h
    refine p_callS (k := 21) [.int x2, .int 9999] [] rfl (tX4_isWithin hcS1) lc_X4_isWithin ml_RX4_57 ms_X4_isWithin (by decide) (by decide) (Nat.le_of_ble_eq_true rfl) rfl ?_
    refine p_if_eq (k := 22) 64 rfl (by decide) (fun hc => ?_) (fun hc => ?_)
    · rw [if_pos hc] at h
      refine p_msk [true, false, false, false] (L2 := [some (.ref 0), none, none, none]) rfl ?_
      exact sX4_set_L64 h
    · rw [if_neg hc] at h
      refine p_aload_n (k := 23) (i := 0) rfl rfl rfl ?_
      refine p_getr (k := 24) rfl lay_X4 rfl fl_RX4_12 ?_
      refine p_geti (k := 25) rfl (lay_c isC_1) rfl fl_RX4_79 ?_
      refine s_bnd h (fun v2 h => ?_)
      refine p_istore_n (k := 26) 3 [some (.ref 0), some (.int x1), some (.int x2), some (.int v2)] rfl rfl rfl (by decide) rfl ?_
      refine p_aload_n (k := 27) (i := 0) rfl rfl rfl ?_
      refine p_getr (k := 28) rfl lay_X4 rfl fl_RX4_12 ?_
      refine p_iload_n (k := 29) (i := 2) rfl rfl rfl ?_
      refine s_put h (k := 30) rfl (lay_c isC_1) rfl fl_RX4_79 fp_0_11 rfl rfl (fun S2 h => ?_)
      refine p_iload_n (k := 31) (i := 3) rfl rfl rfl ?_
      exact s_iret h (k := 32) rfl rfl
def fX4_set (a1 : Int32) (a2 : Int32) (S : St) : Option (Int32 × St) :=
  if a1 = 0 then
    cl (fX4_isWithin a2 20 S) fun v1 S1 =>
    if v1 = 0 then
      fX4_set_L31 a1 a2 S1
    else
      bnd (S1 1 10) fun v2 =>
      bnd (up2 S1 1 10 a2) fun S2 =>
      some (v2, S2)
  else
    fX4_set_L31 a1 a2 S
theorem sX4_set {a1 : Int32} {a2 : Int32} {S : St} {r : Int32} {S9 : St} (h : fX4_set a1 a2 S = some (r, S9)) : PW mX4_set (some (.int r), S9) 0 [some (.ref 0), some (.int a1), some (.int a2), none] [] S := by
  unfold fX4_set at h
  refine p_iload_n (k := 0) (i := 1) rfl rfl rfl ?_
  refine p_if_ne (k := 1) 31 rfl (by decide) (fun hc => ?_) (fun hc => ?_)
  · rw [if_neg hc] at h
    refine p_msk [true, true, true, false] (L2 := [some (.ref 0), some (.int a1), some (.int a2), none]) rfl ?_
    exact sX4_set_L31 h
  · rw [if_pos hc] at h
    refine p_iload_n (k := 2) (i := 2) rfl rfl rfl ?_
    refine p_bipush (k := 3) 20 rfl (by decide) ?_
    obtain ⟨v1, S1, hcS1, h⟩ := cl_some h
    refine p_callS (k := 4) [.int a2, .int 20] [] rfl (tX4_isWithin hcS1) lc_X4_isWithin ml_RX4_57 ms_X4_isWithin (by decide) (by decide) (Nat.le_of_ble_eq_true rfl) rfl ?_
    refine p_if_eq (k := 5) 31 rfl (by decide) (fun hc => ?_) (fun hc => ?_)
    · rw [if_pos hc] at h
      refine p_msk [true, true, true, false] (L2 := [some (.ref 0), some (.int a1), some (.int a2), none]) rfl ?_
      exact sX4_set_L31 h
    · rw [if_neg hc] at h
      refine p_aload_n (k := 6) (i := 0) rfl rfl rfl ?_
      refine p_getr (k := 7) rfl lay_X4 rfl fl_RX4_12 ?_
      refine p_geti (k := 8) rfl (lay_c isC_1) rfl fl_RX4_75 ?_
      refine s_bnd h (fun v2 h => ?_)
      refine p_istore_n (k := 9) 3 [some (.ref 0), some (.int a1), some (.int a2), some (.int v2)] rfl rfl rfl (by decide) rfl ?_
      refine p_aload_n (k := 10) (i := 0) rfl rfl rfl ?_
      refine p_getr (k := 11) rfl lay_X4 rfl fl_RX4_12 ?_
      refine p_iload_n (k := 12) (i := 2) rfl rfl rfl ?_
      refine s_put h (k := 13) rfl (lay_c isC_1) rfl fl_RX4_75 fp_0_10 rfl rfl (fun S2 h => ?_)
      refine p_iload_n (k := 14) (i := 3) rfl rfl rfl ?_
      exact s_iret h (k := 15) rfl rfl
theorem tX4_set {a1 : Int32} {a2 : Int32} {S : St} {r : Int32} {S9 : St} (h : fX4_set a1 a2 S = some (r, S9)) : MR yX4_set cX4_set mX4_set [.ref 0, .int a1, .int a2] S (some (.int r), S9) := MR.of (n := 1) okX4_set rfl rfl (sX4_set h)
-- isKind(I)Z
def fX4_isKind_L15 (y0 : Int32) (S : St) : Option (Int32 × St) :=
  retN .boolean y0 S
theorem sX4_isKind_L15 {r : Int32} {S9 : St} {y0 : Int32} {S : St} (h : fX4_isKind_L15 y0 S = some (r, S9)) : PW mX4_isKind (some (.int r), S9) 15 [none] [.int y0] S := by
  unfold fX4_isKind_L15 at h
  exact s_zret h (k := 8) rfl rfl
def fX4_isKind_L14 (S : St) : Option (Int32 × St) :=
  fX4_isKind_L15 0 S
theorem sX4_isKind_L14 {r : Int32} {S9 : St}  {S : St} (h : fX4_isKind_L14 S = some (r, S9)) : PW mX4_isKind (some (.int r), S9) 14 [none] [] S := by
  unfold fX4_isKind_L14 at h
  refine p_iconst (k := 7) 0 rfl (by decide) ?_
  refine p_msk [false] (L2 := [none]) rfl ?_
  exact sX4_isKind_L15 h
def fX4_isKind (a1 : Int32) (S : St) : Option (Int32 × St) :=
  if a1 < 0 then
    fX4_isKind_L14 S
  else
    if 7 ≤ a1 then
      fX4_isKind_L14 S
    else
      fX4_isKind_L15 1 S
theorem sX4_isKind {a1 : Int32} {S : St} {r : Int32} {S9 : St} (h : fX4_isKind a1 S = some (r, S9)) : PW mX4_isKind (some (.int r), S9) 0 [some (.int a1)] [] S := by
  unfold fX4_isKind at h
  refine p_iload_n (k := 0) (i := 0) rfl rfl rfl ?_
  refine p_if_lt (k := 1) 14 rfl (by decide) (fun hc => ?_) (fun hc => ?_)
  · rw [if_pos hc] at h
    refine p_msk [false] (L2 := [none]) rfl ?_
    exact sX4_isKind_L14 h
  · rw [if_neg hc] at h
    refine p_iload_n (k := 2) (i := 0) rfl rfl rfl ?_
    refine p_bipush (k := 3) 7 rfl (by decide) ?_
    refine p_icmp_ge (k := 4) 14 rfl (by decide) (fun hc => ?_) (fun hc => ?_)
    · rw [if_pos hc] at h
      refine p_msk [false] (L2 := [none]) rfl ?_
      exact sX4_isKind_L14 h
    · rw [if_neg hc] at h
      refine p_iconst (k := 5) 1 rfl (by decide) ?_
      refine p_goto (k := 6) 15 rfl (by decide) ?_
      refine p_msk [false] (L2 := [none]) rfl ?_
      exact sX4_isKind_L15 h
theorem tX4_isKind {a1 : Int32} {S : St} {r : Int32} {S9 : St} (h : fX4_isKind a1 S = some (r, S9)) : MR yX4_isKind cX4_isKind mX4_isKind [.int a1] S (some (.int r), S9) := MR.of (n := 0) okX4_isKind rfl rfl (sX4_isKind h)
-- goat(II)I
def fX4_goat_L14 (S : St) : Option (Int32 × St) :=
  cl (fX4_found (-1000001) S) fun v1 S1 =>
  some (v1, S1)
theorem sX4_goat_L14 {r : Int32} {S9 : St}  {S : St} (h : fX4_goat_L14 S = some (r, S9)) : PW mX4_goat (some (.int r), S9) 14 [some (.ref 0), none, none] [] S := by
  unfold fX4_goat_L14 at h
  refine p_aload_n (k := 6) (i := 0) rfl rfl rfl ?_
  refine p_ldc (k := 7) rfl k_RX4_61 ?_
  obtain ⟨v1, S1, hcS1, h⟩ := cl_some h
  refine p_callV (k := 8) [.int (-1000001)] [] rfl (tX4_found hcS1) lay_X4 rfl lc_X4_found ml_RX4_62 mi_X4_found mv_X4_found (by decide) (by decide) (Nat.le_of_ble_eq_true rfl) rfl ?_
  exact s_iret h (k := 9) rfl rfl
def fX4_goat (a1 : Int32) (a2 : Int32) (S : St) : Option (Int32 × St) :=
  cl (fX4_isKind a1 S) fun v1 S1 =>
  if v1 = 0 then
    fX4_goat_L14 S1
  else
    cl (fX4_isLedge a2 S1) fun v2 S2 =>
    if v2 = 0 then
      fX4_goat_L14 S2
    else
      cl (fX0_isFull 1 S2) fun v3 S3 =>
      if v3 = 0 then
        cl (fX0_addGoat 1 a1 a2 S3) fun v4 S4 =>
        some (v4, S4)
      else
        cl (fX4_found (-1000002) S3) fun v5 S5 =>
        some (v5, S5)
theorem sX4_goat {a1 : Int32} {a2 : Int32} {S : St} {r : Int32} {S9 : St} (h : fX4_goat a1 a2 S = some (r, S9)) : PW mX4_goat (some (.int r), S9) 0 [some (.ref 0), some (.int a1), some (.int a2)] [] S := by
  unfold fX4_goat at h
  refine p_iload_n (k := 0) (i := 1) rfl rfl rfl ?_
  obtain ⟨v1, S1, hcS1, h⟩ := cl_some h
  refine p_callS (k := 1) [.int a1] [] rfl (tX4_isKind hcS1) lc_X4_isKind ml_RX4_82 ms_X4_isKind (by decide) (by decide) (Nat.le_of_ble_eq_true rfl) rfl ?_
  refine p_if_eq (k := 2) 14 rfl (by decide) (fun hc => ?_) (fun hc => ?_)
  · rw [if_pos hc] at h
    refine p_msk [true, false, false] (L2 := [some (.ref 0), none, none]) rfl ?_
    exact sX4_goat_L14 h
  · rw [if_neg hc] at h
    refine p_iload_n (k := 3) (i := 2) rfl rfl rfl ?_
    obtain ⟨v2, S2, hcS2, h⟩ := cl_some h
    refine p_callS (k := 4) [.int a2] [] rfl (tX4_isLedge hcS2) lc_X4_isLedge ml_RX4_53 ms_X4_isLedge (by decide) (by decide) (Nat.le_of_ble_eq_true rfl) rfl ?_
    refine p_if_ne (k := 5) 21 rfl (by decide) (fun hc => ?_) (fun hc => ?_)
    · rw [if_neg hc] at h
      refine p_aload_n (k := 10) (i := 0) rfl rfl rfl ?_
      refine p_getr (k := 11) rfl lay_X4 rfl fl_RX4_12 ?_
      obtain ⟨v3, S3, hcS3, h⟩ := cl_some h
      refine p_callV (k := 12) [] [] rfl (tX0_isFull isC_1 hcS3) (lay_c isC_1) rfl lc_X0_isFull ml_RX4_85 mi_X0_isFull mv_X0_isFull (by decide) (by decide) (Nat.le_of_ble_eq_true rfl) rfl ?_
      refine p_if_eq (k := 13) 38 rfl (by decide) (fun hc => ?_) (fun hc => ?_)
      · rw [if_pos hc] at h
        refine p_aload_n (k := 18) (i := 0) rfl rfl rfl ?_
        refine p_getr (k := 19) rfl lay_X4 rfl fl_RX4_12 ?_
        refine p_iload_n (k := 20) (i := 1) rfl rfl rfl ?_
        refine p_iload_n (k := 21) (i := 2) rfl rfl rfl ?_
        obtain ⟨v4, S4, hcS4, h⟩ := cl_some h
        refine p_callV (k := 22) [.int a1, .int a2] [] rfl (tX0_addGoat isC_1 hcS4) (lay_c isC_1) rfl lc_X0_addGoat ml_RX4_90 mi_X0_addGoat mv_X0_addGoat (by decide) (by decide) (Nat.le_of_ble_eq_true rfl) rfl ?_
        exact s_iret h (k := 23) rfl rfl
      · rw [if_neg hc] at h
        refine p_aload_n (k := 14) (i := 0) rfl rfl rfl ?_
        refine p_ldc (k := 15) rfl k_RX4_89 ?_
        obtain ⟨v5, S5, hcS5, h⟩ := cl_some h
        refine p_callV (k := 16) [.int (-1000002)] [] rfl (tX4_found hcS5) lay_X4 rfl lc_X4_found ml_RX4_62 mi_X4_found mv_X4_found (by decide) (by decide) (Nat.le_of_ble_eq_true rfl) rfl ?_
        exact s_iret h (k := 17) rfl rfl
    · rw [if_pos hc] at h
      refine p_msk [true, false, false] (L2 := [some (.ref 0), none, none]) rfl ?_
      exact sX4_goat_L14 h
theorem tX4_goat {a1 : Int32} {a2 : Int32} {S : St} {r : Int32} {S9 : St} (h : fX4_goat a1 a2 S = some (r, S9)) : MR yX4_goat cX4_goat mX4_goat [.ref 0, .int a1, .int a2] S (some (.int r), S9) := MR.of (n := 0) okX4_goat rfl rfl (sX4_goat h)
-- isGoat(I)Z
def fX4_isGoat_L20 (y0 : Int32) (S : St) : Option (Int32 × St) :=
  retN .boolean y0 S
theorem sX4_isGoat_L20 {r : Int32} {S9 : St} {y0 : Int32} {S : St} (h : fX4_isGoat_L20 y0 S = some (r, S9)) : PW mX4_isGoat (some (.int r), S9) 20 [none, none] [.int y0] S := by
  unfold fX4_isGoat_L20 at h
  exact s_zret h (k := 10) rfl rfl
def fX4_isGoat_L19 (S : St) : Option (Int32 × St) :=
  fX4_isGoat_L20 0 S
theorem sX4_isGoat_L19 {r : Int32} {S9 : St}  {S : St} (h : fX4_isGoat_L19 S = some (r, S9)) : PW mX4_isGoat (some (.int r), S9) 19 [none, none] [] S := by
  unfold fX4_isGoat_L19 at h
  refine p_iconst (k := 9) 0 rfl (by decide) ?_
  refine p_msk [false, false] (L2 := [none, none]) rfl ?_
  exact sX4_isGoat_L20 h
def fX4_isGoat (a1 : Int32) (S : St) : Option (Int32 × St) :=
  if a1 < 0 then
    fX4_isGoat_L19 S
  else
    if (S 1 8) ≤ a1 then
      fX4_isGoat_L19 S
    else
      fX4_isGoat_L20 1 S
theorem sX4_isGoat {a1 : Int32} {S : St} {r : Int32} {S9 : St} (h : fX4_isGoat a1 S = some (r, S9)) : PW mX4_isGoat (some (.int r), S9) 0 [some (.ref 0), some (.int a1)] [] S := by
  unfold fX4_isGoat at h
  refine p_iload_n (k := 0) (i := 1) rfl rfl rfl ?_
  refine p_if_lt (k := 1) 19 rfl (by decide) (fun hc => ?_) (fun hc => ?_)
  · rw [if_pos hc] at h
    refine p_msk [false, false] (L2 := [none, none]) rfl ?_
    exact sX4_isGoat_L19 h
  · rw [if_neg hc] at h
    refine p_iload_n (k := 2) (i := 1) rfl rfl rfl ?_
    refine p_aload_n (k := 3) (i := 0) rfl rfl rfl ?_
    refine p_getr (k := 4) rfl lay_X4 rfl fl_RX4_12 ?_
    refine p_geti (k := 5) rfl (lay_c isC_1) rfl fl_RX4_187 ?_
    refine p_icmp_ge (k := 6) 19 rfl (by decide) (fun hc => ?_) (fun hc => ?_)
    · rw [if_pos hc] at h
      refine p_msk [false, false] (L2 := [none, none]) rfl ?_
      exact sX4_isGoat_L19 h
    · rw [if_neg hc] at h
      refine p_iconst (k := 7) 1 rfl (by decide) ?_
      refine p_goto (k := 8) 20 rfl (by decide) ?_
      refine p_msk [false, false] (L2 := [none, none]) rfl ?_
      exact sX4_isGoat_L20 h
theorem tX4_isGoat {a1 : Int32} {S : St} {r : Int32} {S9 : St} (h : fX4_isGoat a1 S = some (r, S9)) : MR yX4_isGoat cX4_isGoat mX4_isGoat [.ref 0, .int a1] S (some (.int r), S9) := MR.of (n := 0) okX4_isGoat rfl rfl (sX4_isGoat h)
-- of(II)I
def fX4_of_L17 (S : St) : Option (Int32 × St) :=
  cl (fX4_found (-1000001) S) fun v1 S1 =>
  some (v1, S1)
theorem sX4_of_L17 {r : Int32} {S9 : St}  {S : St} (h : fX4_of_L17 S = some (r, S9)) : PW mX4_of (some (.int r), S9) 17 [some (.ref 0), none, none] [] S := by
  unfold fX4_of_L17 at h
  refine p_aload_n (k := 8) (i := 0) rfl rfl rfl ?_
  refine p_ldc (k := 9) rfl k_RX4_61 ?_
  obtain ⟨v1, S1, hcS1, h⟩ := cl_some h
  refine p_callV (k := 10) [.int (-1000001)] [] rfl (tX4_found hcS1) lay_X4 rfl lc_X4_found ml_RX4_62 mi_X4_found mv_X4_found (by decide) (by decide) (Nat.le_of_ble_eq_true rfl) rfl ?_
  exact s_iret h (k := 11) rfl rfl
def fX4_of (a1 : Int32) (a2 : Int32) (S : St) : Option (Int32 × St) :=
  cl (fX4_isGoat a1 S) fun v1 S1 =>
  if v1 = 0 then
    fX4_of_L17 S1
  else
    cl (fX4_isWithin a2 9 S1) fun v2 S2 =>
    if v2 = 0 then
      fX4_of_L17 S2
    else
      if a2 = 6 then
        cl (fX0_costs 1 a1 S2) fun v3 S3 =>
        some (v3, S3)
      else
      if a2 = 7 then
        cl (fX0_grazes 1 a1 S2) fun v4 S4 =>
        some (v4, S4)
      else
      if a2 = 8 then
        cl (fX0_climbsTo 1 a1 S2) fun v5 S5 =>
        some (v5, S5)
      else
      if a2 = 9 then
        cl (fX0_quotes 1 a1 S2) fun v6 S6 =>
        some (v6, S6)
      else
      cl (fX0_trait 1 a1 a2 S2) fun v7 S7 =>
      some (v7, S7)
theorem sX4_of {a1 : Int32} {a2 : Int32} {S : St} {r : Int32} {S9 : St} (h : fX4_of a1 a2 S = some (r, S9)) : PW mX4_of (some (.int r), S9) 0 [some (.ref 0), some (.int a1), some (.int a2)] [] S := by
  unfold fX4_of at h
  refine p_aload_n (k := 0) (i := 0) rfl rfl rfl ?_
  refine p_iload_n (k := 1) (i := 1) rfl rfl rfl ?_
  obtain ⟨v1, S1, hcS1, h⟩ := cl_some h
  refine p_callV (k := 2) [.int a1] [] rfl (tX4_isGoat hcS1) lay_X4 rfl lc_X4_isGoat ml_RX4_94 mi_X4_isGoat mv_X4_isGoat (by decide) (by decide) (Nat.le_of_ble_eq_true rfl) rfl ?_
  refine p_if_eq (k := 3) 17 rfl (by decide) (fun hc => ?_) (fun hc => ?_)
  · rw [if_pos hc] at h
    refine p_msk [true, false, false] (L2 := [some (.ref 0), none, none]) rfl ?_
    exact sX4_of_L17 h
  · rw [if_neg hc] at h
    refine p_iload_n (k := 4) (i := 2) rfl rfl rfl ?_
    refine p_bipush (k := 5) 9 rfl (by decide) ?_
    obtain ⟨v2, S2, hcS2, h⟩ := cl_some h
    refine p_callS (k := 6) [.int a2, .int 9] [] rfl (tX4_isWithin hcS2) lc_X4_isWithin ml_RX4_57 ms_X4_isWithin (by decide) (by decide) (Nat.le_of_ble_eq_true rfl) rfl ?_
    refine p_if_ne (k := 7) 24 rfl (by decide) (fun hc => ?_) (fun hc => ?_)
    · rw [if_neg hc] at h
      refine p_iload_n (k := 12) (i := 2) rfl rfl rfl ?_
      by_cases hx0 : a2 = 6
      · rw [if_pos hx0] at h
        refine p_tableIn (k := 13) (off := 31) 56 rfl (by rw [hx0]; decide) (by rw [hx0]; decide) (by rw [hx0]; decide) (by decide) ?_
        refine p_aload_n (k := 14) (i := 0) rfl rfl rfl ?_
        refine p_getr (k := 15) rfl lay_X4 rfl fl_RX4_12 ?_
        refine p_iload_n (k := 16) (i := 1) rfl rfl rfl ?_
        obtain ⟨v3, S3, hcS3, h⟩ := cl_some h
        refine p_callV (k := 17) [.int a1] [] rfl (tX0_costs isC_1 hcS3) (lay_c isC_1) rfl lc_X0_costs ml_RX4_97 mi_X0_costs mv_X0_costs (by decide) (by decide) (Nat.le_of_ble_eq_true rfl) rfl ?_
        exact s_iret h (k := 18) rfl rfl
      rw [if_neg hx0] at h
      by_cases hx1 : a2 = 7
      · rw [if_pos hx1] at h
        refine p_tableIn (k := 13) (off := 40) 65 rfl (by rw [hx1]; decide) (by rw [hx1]; decide) (by rw [hx1]; decide) (by decide) ?_
        refine p_aload_n (k := 19) (i := 0) rfl rfl rfl ?_
        refine p_getr (k := 20) rfl lay_X4 rfl fl_RX4_12 ?_
        refine p_iload_n (k := 21) (i := 1) rfl rfl rfl ?_
        obtain ⟨v4, S4, hcS4, h⟩ := cl_some h
        refine p_callV (k := 22) [.int a1] [] rfl (tX0_grazes isC_1 hcS4) (lay_c isC_1) rfl lc_X0_grazes ml_RX4_100 mi_X0_grazes mv_X0_grazes (by decide) (by decide) (Nat.le_of_ble_eq_true rfl) rfl ?_
        exact s_iret h (k := 23) rfl rfl
      rw [if_neg hx1] at h
      by_cases hx2 : a2 = 8
      · rw [if_pos hx2] at h
        refine p_tableIn (k := 13) (off := 49) 74 rfl (by rw [hx2]; decide) (by rw [hx2]; decide) (by rw [hx2]; decide) (by decide) ?_
        refine p_aload_n (k := 24) (i := 0) rfl rfl rfl ?_
        refine p_getr (k := 25) rfl lay_X4 rfl fl_RX4_12 ?_
        refine p_iload_n (k := 26) (i := 1) rfl rfl rfl ?_
        obtain ⟨v5, S5, hcS5, h⟩ := cl_some h
        refine p_callV (k := 27) [.int a1] [] rfl (tX0_climbsTo isC_1 hcS5) (lay_c isC_1) rfl lc_X0_climbsTo ml_RX4_103 mi_X0_climbsTo mv_X0_climbsTo (by decide) (by decide) (Nat.le_of_ble_eq_true rfl) rfl ?_
        exact s_iret h (k := 28) rfl rfl
      rw [if_neg hx2] at h
      by_cases hx3 : a2 = 9
      · rw [if_pos hx3] at h
        refine p_tableIn (k := 13) (off := 58) 83 rfl (by rw [hx3]; decide) (by rw [hx3]; decide) (by rw [hx3]; decide) (by decide) ?_
        refine p_aload_n (k := 29) (i := 0) rfl rfl rfl ?_
        refine p_getr (k := 30) rfl lay_X4 rfl fl_RX4_12 ?_
        refine p_iload_n (k := 31) (i := 1) rfl rfl rfl ?_
        obtain ⟨v6, S6, hcS6, h⟩ := cl_some h
        refine p_callV (k := 32) [.int a1] [] rfl (tX0_quotes isC_1 hcS6) (lay_c isC_1) rfl lc_X0_quotes ml_RX4_106 mi_X0_quotes mv_X0_quotes (by decide) (by decide) (Nat.le_of_ble_eq_true rfl) rfl ?_
        exact s_iret h (k := 33) rfl rfl
      rw [if_neg hx3] at h
      have hz0 := toInt_ne hx0 (z := 6) (by decide)
      have hz1 := toInt_ne hx1 (z := 7) (by decide)
      have hz2 := toInt_ne hx2 (z := 8) (by decide)
      have hz3 := toInt_ne hx3 (z := 9) (by decide)
      refine p_tableOut (k := 13) 92 rfl (by omega) (by decide) ?_
      refine p_aload_n (k := 34) (i := 0) rfl rfl rfl ?_
      refine p_getr (k := 35) rfl lay_X4 rfl fl_RX4_12 ?_
      refine p_iload_n (k := 36) (i := 1) rfl rfl rfl ?_
      refine p_iload_n (k := 37) (i := 2) rfl rfl rfl ?_
      obtain ⟨v7, S7, hcS7, h⟩ := cl_some h
      refine p_callV (k := 38) [.int a1, .int a2] [] rfl (tX0_trait isC_1 hcS7) (lay_c isC_1) rfl lc_X0_trait ml_RX4_109 mi_X0_trait mv_X0_trait (by decide) (by decide) (Nat.le_of_ble_eq_true rfl) rfl ?_
      exact s_iret h (k := 39) rfl rfl
    · rw [if_pos hc] at h
      refine p_msk [true, false, false] (L2 := [some (.ref 0), none, none]) rfl ?_
      exact sX4_of_L17 h
theorem tX4_of {a1 : Int32} {a2 : Int32} {S : St} {r : Int32} {S9 : St} (h : fX4_of a1 a2 S = some (r, S9)) : MR yX4_of cX4_of mX4_of [.ref 0, .int a1, .int a2] S (some (.int r), S9) := MR.of (n := 0) okX4_of rfl rfl (sX4_of h)
-- isTraitValue(II)Z
def fX4_isTraitValue (a1 : Int32) (a2 : Int32) (S : St) : Option (Int32 × St) :=
  if a1 = 0 then
    cl (fX4_isKind a2 S) fun v1 S1 =>
    retN .boolean v1 S1
  else
  if a1 = 1 then
    cl (fX4_isLedge a2 S) fun v2 S2 =>
    retN .boolean v2 S2
  else
  if a1 = 2 then
    cl (fX4_isWithin a2 65535 S) fun v3 S3 =>
    retN .boolean v3 S3
  else
  if a1 = 3 then
    cl (fX4_isWithin a2 9999 S) fun v4 S4 =>
    retN .boolean v4 S4
  else
  if a1 = 4 then
    cl (fX4_isWithin a2 99 S) fun v5 S5 =>
    retN .boolean v5 S5
  else
  if a1 = 5 then
    cl (fX4_isWithin a2 9999 S) fun v6 S6 =>
    retN .boolean v6 S6
  else
  retN .boolean 0 S
theorem sX4_isTraitValue {a1 : Int32} {a2 : Int32} {S : St} {r : Int32} {S9 : St} (h : fX4_isTraitValue a1 a2 S = some (r, S9)) : PW mX4_isTraitValue (some (.int r), S9) 0 [some (.int a1), some (.int a2)] [] S := by
  unfold fX4_isTraitValue at h
  refine p_iload_n (k := 0) (i := 0) rfl rfl rfl ?_
  by_cases hx0 : a1 = 0
  · rw [if_pos hx0] at h
    refine p_tableIn (k := 1) (off := 39) 40 rfl (by rw [hx0]; decide) (by rw [hx0]; decide) (by rw [hx0]; decide) (by decide) ?_
    refine p_iload_n (k := 2) (i := 1) rfl rfl rfl ?_
    obtain ⟨v1, S1, hcS1, h⟩ := cl_some h
    refine p_callS (k := 3) [.int a2] [] rfl (tX4_isKind hcS1) lc_X4_isKind ml_RX4_82 ms_X4_isKind (by decide) (by decide) (Nat.le_of_ble_eq_true rfl) rfl ?_
    exact s_zret h (k := 4) rfl rfl
  rw [if_neg hx0] at h
  by_cases hx1 : a1 = 1
  · rw [if_pos hx1] at h
    refine p_tableIn (k := 1) (off := 44) 45 rfl (by rw [hx1]; decide) (by rw [hx1]; decide) (by rw [hx1]; decide) (by decide) ?_
    refine p_iload_n (k := 5) (i := 1) rfl rfl rfl ?_
    obtain ⟨v2, S2, hcS2, h⟩ := cl_some h
    refine p_callS (k := 6) [.int a2] [] rfl (tX4_isLedge hcS2) lc_X4_isLedge ml_RX4_53 ms_X4_isLedge (by decide) (by decide) (Nat.le_of_ble_eq_true rfl) rfl ?_
    exact s_zret h (k := 7) rfl rfl
  rw [if_neg hx1] at h
  by_cases hx2 : a1 = 2
  · rw [if_pos hx2] at h
    refine p_tableIn (k := 1) (off := 49) 50 rfl (by rw [hx2]; decide) (by rw [hx2]; decide) (by rw [hx2]; decide) (by decide) ?_
    refine p_iload_n (k := 8) (i := 1) rfl rfl rfl ?_
    refine p_ldc (k := 9) rfl k_RX4_156 ?_
    obtain ⟨v3, S3, hcS3, h⟩ := cl_some h
    refine p_callS (k := 10) [.int a2, .int 65535] [] rfl (tX4_isWithin hcS3) lc_X4_isWithin ml_RX4_57 ms_X4_isWithin (by decide) (by decide) (Nat.le_of_ble_eq_true rfl) rfl ?_
    exact s_zret h (k := 11) rfl rfl
  rw [if_neg hx2] at h
  by_cases hx3 : a1 = 3
  · rw [if_pos hx3] at h
    refine p_tableIn (k := 1) (off := 56) 57 rfl (by rw [hx3]; decide) (by rw [hx3]; decide) (by rw [hx3]; decide) (by decide) ?_
    refine p_iload_n (k := 12) (i := 1) rfl rfl rfl ?_
    refine p_sipush (k := 13) 9999 rfl (by decide) ?_
    obtain ⟨v4, S4, hcS4, h⟩ := cl_some h
    refine p_callS (k := 14) [.int a2, .int 9999] [] rfl (tX4_isWithin hcS4) lc_X4_isWithin ml_RX4_57 ms_X4_isWithin (by decide) (by decide) (Nat.le_of_ble_eq_true rfl) rfl ?_
    exact s_zret h (k := 15) rfl rfl
  rw [if_neg hx3] at h
  by_cases hx4 : a1 = 4
  · rw [if_pos hx4] at h
    refine p_tableIn (k := 1) (off := 64) 65 rfl (by rw [hx4]; decide) (by rw [hx4]; decide) (by rw [hx4]; decide) (by decide) ?_
    refine p_iload_n (k := 16) (i := 1) rfl rfl rfl ?_
    refine p_bipush (k := 17) 99 rfl (by decide) ?_
    obtain ⟨v5, S5, hcS5, h⟩ := cl_some h
    refine p_callS (k := 18) [.int a2, .int 99] [] rfl (tX4_isWithin hcS5) lc_X4_isWithin ml_RX4_57 ms_X4_isWithin (by decide) (by decide) (Nat.le_of_ble_eq_true rfl) rfl ?_
    exact s_zret h (k := 19) rfl rfl
  rw [if_neg hx4] at h
  by_cases hx5 : a1 = 5
  · rw [if_pos hx5] at h
    refine p_tableIn (k := 1) (off := 71) 72 rfl (by rw [hx5]; decide) (by rw [hx5]; decide) (by rw [hx5]; decide) (by decide) ?_
    refine p_iload_n (k := 20) (i := 1) rfl rfl rfl ?_
    refine p_sipush (k := 21) 9999 rfl (by decide) ?_
    obtain ⟨v6, S6, hcS6, h⟩ := cl_some h
    refine p_callS (k := 22) [.int a2, .int 9999] [] rfl (tX4_isWithin hcS6) lc_X4_isWithin ml_RX4_57 ms_X4_isWithin (by decide) (by decide) (Nat.le_of_ble_eq_true rfl) rfl ?_
    exact s_zret h (k := 23) rfl rfl
  rw [if_neg hx5] at h
  have hz0 := toInt_ne hx0 (z := 0) (by decide)
  have hz1 := toInt_ne hx1 (z := 1) (by decide)
  have hz2 := toInt_ne hx2 (z := 2) (by decide)
  have hz3 := toInt_ne hx3 (z := 3) (by decide)
  have hz4 := toInt_ne hx4 (z := 4) (by decide)
  have hz5 := toInt_ne hx5 (z := 5) (by decide)
  refine p_tableOut (k := 1) 80 rfl (by omega) (by decide) ?_
  refine p_iconst (k := 24) 0 rfl (by decide) ?_
  exact s_zret h (k := 25) rfl rfl
theorem tX4_isTraitValue {a1 : Int32} {a2 : Int32} {S : St} {r : Int32} {S9 : St} (h : fX4_isTraitValue a1 a2 S = some (r, S9)) : MR yX4_isTraitValue cX4_isTraitValue mX4_isTraitValue [.int a1, .int a2] S (some (.int r), S9) := MR.of (n := 0) okX4_isTraitValue rfl rfl (sX4_isTraitValue h)
-- change(III)I
def fX4_change_L16 (S : St) : Option (Int32 × St) :=
  cl (fX4_found (-1000001) S) fun v1 S1 =>
  some (v1, S1)
theorem sX4_change_L16 {r : Int32} {S9 : St}  {S : St} (h : fX4_change_L16 S = some (r, S9)) : PW mX4_change (some (.int r), S9) 16 [some (.ref 0), none, none, none, none] [] S := by
  unfold fX4_change_L16 at h
  refine p_aload_n (k := 8) (i := 0) rfl rfl rfl ?_
  refine p_ldc (k := 9) rfl k_RX4_61 ?_
  obtain ⟨v1, S1, hcS1, h⟩ := cl_some h
  refine p_callV (k := 10) [.int (-1000001)] [] rfl (tX4_found hcS1) lay_X4 rfl lc_X4_found ml_RX4_62 mi_X4_found mv_X4_found (by decide) (by decide) (Nat.le_of_ble_eq_true rfl) rfl ?_
  exact s_iret h (k := 11) rfl rfl
def fX4_change (a1 : Int32) (a2 : Int32) (a3 : Int32) (S : St) : Option (Int32 × St) :=
  cl (fX4_isGoat a1 S) fun v1 S1 =>
  if v1 = 0 then
    fX4_change_L16 S1
  else
    cl (fX4_isTraitValue a2 a3 S1) fun v2 S2 =>
    if v2 = 0 then
      fX4_change_L16 S2
    else
      cl (fX0_trait 1 a1 a2 S2) fun v3 S3 =>
      cl (fX0_setTrait 1 a1 a2 a3 S3) fun _ S4 =>
      some (v3, S4)
theorem sX4_change {a1 : Int32} {a2 : Int32} {a3 : Int32} {S : St} {r : Int32} {S9 : St} (h : fX4_change a1 a2 a3 S = some (r, S9)) : PW mX4_change (some (.int r), S9) 0 [some (.ref 0), some (.int a1), some (.int a2), some (.int a3), none] [] S := by
  unfold fX4_change at h
  refine p_aload_n (k := 0) (i := 0) rfl rfl rfl ?_
  refine p_iload_n (k := 1) (i := 1) rfl rfl rfl ?_
  obtain ⟨v1, S1, hcS1, h⟩ := cl_some h
  refine p_callV (k := 2) [.int a1] [] rfl (tX4_isGoat hcS1) lay_X4 rfl lc_X4_isGoat ml_RX4_94 mi_X4_isGoat mv_X4_isGoat (by decide) (by decide) (Nat.le_of_ble_eq_true rfl) rfl ?_
  refine p_if_eq (k := 3) 16 rfl (by decide) (fun hc => ?_) (fun hc => ?_)
  · rw [if_pos hc] at h
    refine p_msk [true, false, false, false, false] (L2 := [some (.ref 0), none, none, none, none]) rfl ?_
    exact sX4_change_L16 h
  · rw [if_neg hc] at h
    refine p_iload_n (k := 4) (i := 2) rfl rfl rfl ?_
    refine p_iload_n (k := 5) (i := 3) rfl rfl rfl ?_
    obtain ⟨v2, S2, hcS2, h⟩ := cl_some h
    refine p_callS (k := 6) [.int a2, .int a3] [] rfl (tX4_isTraitValue hcS2) lc_X4_isTraitValue ml_RX4_112 ms_X4_isTraitValue (by decide) (by decide) (Nat.le_of_ble_eq_true rfl) rfl ?_
    refine p_if_ne (k := 7) 23 rfl (by decide) (fun hc => ?_) (fun hc => ?_)
    · rw [if_neg hc] at h
      refine p_aload_n (k := 12) (i := 0) rfl rfl rfl ?_
      refine p_getr (k := 13) rfl lay_X4 rfl fl_RX4_12 ?_
      refine p_iload_n (k := 14) (i := 1) rfl rfl rfl ?_
      refine p_iload_n (k := 15) (i := 2) rfl rfl rfl ?_
      obtain ⟨v3, S3, hcS3, h⟩ := cl_some h
      refine p_callV (k := 16) [.int a1, .int a2] [] rfl (tX0_trait isC_1 hcS3) (lay_c isC_1) rfl lc_X0_trait ml_RX4_109 mi_X0_trait mv_X0_trait (by decide) (by decide) (Nat.le_of_ble_eq_true rfl) rfl ?_
      refine p_istore (k := 17) [some (.ref 0), some (.int a1), some (.int a2), some (.int a3), some (.int v3)] rfl rfl (by decide) rfl ?_
      refine p_aload_n (k := 18) (i := 0) rfl rfl rfl ?_
      refine p_getr (k := 19) rfl lay_X4 rfl fl_RX4_12 ?_
      refine p_iload_n (k := 20) (i := 1) rfl rfl rfl ?_
      refine p_iload_n (k := 21) (i := 2) rfl rfl rfl ?_
      refine p_iload_n (k := 22) (i := 3) rfl rfl rfl ?_
      obtain ⟨_, S4, hcS4, h⟩ := cl_some h
      refine p_callV (k := 23) [.int a1, .int a2, .int a3] [] rfl (tX0_setTrait isC_1 hcS4) (lay_c isC_1) rfl lc_X0_setTrait ml_RX4_115 mi_X0_setTrait mv_X0_setTrait (by decide) (by decide) (Nat.le_of_ble_eq_true rfl) rfl ?_
      refine p_iload (k := 24) rfl rfl ?_
      exact s_iret h (k := 25) rfl rfl
    · rw [if_pos hc] at h
      refine p_msk [true, false, false, false, false] (L2 := [some (.ref 0), none, none, none, none]) rfl ?_
      exact sX4_change_L16 h
theorem tX4_change {a1 : Int32} {a2 : Int32} {a3 : Int32} {S : St} {r : Int32} {S9 : St} (h : fX4_change a1 a2 a3 S = some (r, S9)) : MR yX4_change cX4_change mX4_change [.ref 0, .int a1, .int a2, .int a3] S (some (.int r), S9) := MR.of (n := 1) okX4_change rfl rfl (sX4_change h)
-- birth(I)I
def fX4_birth (a1 : Int32) (S : St) : Option (Int32 × St) :=
  cl (fX4_isGoat a1 S) fun v1 S1 =>
  if v1 = 0 then
    cl (fX4_found (-1000001) S1) fun v9 S7 =>
    some (v9, S7)
  else
    cl (fX0_isFull 1 S1) fun v2 S2 =>
    if v2 = 0 then
      rd S2 (1 + 4) 8 a1 fun v3 =>
      bnd (v3 &&& 255) fun v4 =>
      rd S2 (1 + 3) 8 a1 fun v5 =>
      cl (fX0_addGoat 1 6 v5 S2) fun v6 S3 =>
      cl (fX4_leastBit v4 S3) fun v7 S4 =>
      wr S4 (1 + 4) 8 v6 (v4 &&& (v7 ^^^ (-1))) fun S5 =>
      some (v6, S5)
    else
      cl (fX4_found (-1000002) S2) fun v8 S6 =>
      some (v8, S6)
theorem sX4_birth {a1 : Int32} {S : St} {r : Int32} {S9 : St} (h : fX4_birth a1 S = some (r, S9)) : PW mX4_birth (some (.int r), S9) 0 [some (.ref 0), some (.int a1), none, none] [] S := by
  unfold fX4_birth at h
  refine p_aload_n (k := 0) (i := 0) rfl rfl rfl ?_
  refine p_iload_n (k := 1) (i := 1) rfl rfl rfl ?_
  obtain ⟨v1, S1, hcS1, h⟩ := cl_some h
  refine p_callV (k := 2) [.int a1] [] rfl (tX4_isGoat hcS1) lay_X4 rfl lc_X4_isGoat ml_RX4_94 mi_X4_isGoat mv_X4_isGoat (by decide) (by decide) (Nat.le_of_ble_eq_true rfl) rfl ?_
  refine p_if_ne (k := 3) 15 rfl (by decide) (fun hc => ?_) (fun hc => ?_)
  · rw [if_neg hc] at h
    refine p_aload_n (k := 8) (i := 0) rfl rfl rfl ?_
    refine p_getr (k := 9) rfl lay_X4 rfl fl_RX4_12 ?_
    obtain ⟨v2, S2, hcS2, h⟩ := cl_some h
    refine p_callV (k := 10) [] [] rfl (tX0_isFull isC_1 hcS2) (lay_c isC_1) rfl lc_X0_isFull ml_RX4_85 mi_X0_isFull mv_X0_isFull (by decide) (by decide) (Nat.le_of_ble_eq_true rfl) rfl ?_
    refine p_if_eq (k := 11) 32 rfl (by decide) (fun hc => ?_) (fun hc => ?_)
    · rw [if_pos hc] at h
      refine p_aload_n (k := 16) (i := 0) rfl rfl rfl ?_
      refine p_getr (k := 17) rfl lay_X4 rfl fl_RX4_12 ?_
      refine p_getr (k := 18) rfl (lay_c isC_1) rfl fl_RX4_119 ?_
      refine p_iload_n (k := 19) (i := 1) rfl rfl rfl ?_
      refine s_rd h (k := 20) rfl (lay_c3 isC_1) (fun v3 h => ?_)
      refine p_sipush (k := 21) 255 rfl (by decide) ?_
      refine p_iand (k := 22) rfl ?_
      refine s_bnd h (fun v4 h => ?_)
      refine p_istore_n (k := 23) 2 [some (.ref 0), some (.int a1), some (.int v4), none] rfl rfl rfl (by decide) rfl ?_
      refine p_aload_n (k := 24) (i := 0) rfl rfl rfl ?_
      refine p_getr (k := 25) rfl lay_X4 rfl fl_RX4_12 ?_
      refine p_bipush (k := 26) 6 rfl (by decide) ?_
      refine p_aload_n (k := 27) (i := 0) rfl rfl rfl ?_
      refine p_getr (k := 28) rfl lay_X4 rfl fl_RX4_12 ?_
      refine p_getr (k := 29) rfl (lay_c isC_1) rfl fl_RX4_122 ?_
      refine p_iload_n (k := 30) (i := 1) rfl rfl rfl ?_
      refine s_rd h (k := 31) rfl (lay_c2 isC_1) (fun v5 h => ?_)
      obtain ⟨v6, S3, hcS3, h⟩ := cl_some h
      refine p_callV (k := 32) [.int 6, .int v5] [] rfl (tX0_addGoat isC_1 hcS3) (lay_c isC_1) rfl lc_X0_addGoat ml_RX4_90 mi_X0_addGoat mv_X0_addGoat (by decide) (by decide) (Nat.le_of_ble_eq_true rfl) rfl ?_
      refine p_istore_n (k := 33) 3 [some (.ref 0), some (.int a1), some (.int v4), some (.int v6)] rfl rfl rfl (by decide) rfl ?_
      refine p_aload_n (k := 34) (i := 0) rfl rfl rfl ?_
      refine p_getr (k := 35) rfl lay_X4 rfl fl_RX4_12 ?_
      refine p_getr (k := 36) rfl (lay_c isC_1) rfl fl_RX4_119 ?_
      refine p_iload_n (k := 37) (i := 3) rfl rfl rfl ?_
      refine p_iload_n (k := 38) (i := 2) rfl rfl rfl ?_
      refine p_iload_n (k := 39) (i := 2) rfl rfl rfl ?_
      obtain ⟨v7, S4, hcS4, h⟩ := cl_some h
      refine p_callS (k := 40) [.int v4] [.int v4, .int v6, .ref (1 + 4)] rfl (tX4_leastBit hcS4) lc_X4_leastBit ml_RX4_125 ms_X4_leastBit (by decide) (by decide) (Nat.le_of_ble_eq_true rfl) rfl ?_
      refine p_iconst (k := 41) (-1) rfl (by decide) ?_
      refine p_ixor (k := 42) rfl ?_
      refine p_iand (k := 43) rfl ?_
      refine s_wr h (k := 44) rfl (lay_c3 isC_1) (fun S5 h => ?_)
      refine p_iload_n (k := 45) (i := 3) rfl rfl rfl ?_
      exact s_iret h (k := 46) rfl rfl
    · rw [if_neg hc] at h
      refine p_aload_n (k := 12) (i := 0) rfl rfl rfl ?_
      refine p_ldc (k := 13) rfl k_RX4_89 ?_
      obtain ⟨v8, S6, hcS6, h⟩ := cl_some h
      refine p_callV (k := 14) [.int (-1000002)] [] rfl (tX4_found hcS6) lay_X4 rfl lc_X4_found ml_RX4_62 mi_X4_found mv_X4_found (by decide) (by decide) (Nat.le_of_ble_eq_true rfl) rfl ?_
      exact s_iret h (k := 15) rfl rfl
  · rw [if_pos hc] at h
    refine p_aload_n (k := 4) (i := 0) rfl rfl rfl ?_
    refine p_ldc (k := 5) rfl k_RX4_61 ?_
    obtain ⟨v9, S7, hcS7, h⟩ := cl_some h
    refine p_callV (k := 6) [.int (-1000001)] [] rfl (tX4_found hcS7) lay_X4 rfl lc_X4_found ml_RX4_62 mi_X4_found mv_X4_found (by decide) (by decide) (Nat.le_of_ble_eq_true rfl) rfl ?_
    exact s_iret h (k := 7) rfl rfl
theorem tX4_birth {a1 : Int32} {S : St} {r : Int32} {S9 : St} (h : fX4_birth a1 S = some (r, S9)) : MR yX4_birth cX4_birth mX4_birth [.ref 0, .int a1] S (some (.int r), S9) := MR.of (n := 2) okX4_birth rfl rfl (sX4_birth h)
-- isPage(I)Z
def fX4_isPage_L15 (y0 : Int32) (S : St) : Option (Int32 × St) :=
  retN .boolean y0 S
theorem sX4_isPage_L15 {r : Int32} {S9 : St} {y0 : Int32} {S : St} (h : fX4_isPage_L15 y0 S = some (r, S9)) : PW mX4_isPage (some (.int r), S9) 15 [none] [.int y0] S := by
  unfold fX4_isPage_L15 at h
  exact s_zret h (k := 8) rfl rfl
def fX4_isPage_L14 (S : St) : Option (Int32 × St) :=
  fX4_isPage_L15 0 S
theorem sX4_isPage_L14 {r : Int32} {S9 : St}  {S : St} (h : fX4_isPage_L14 S = some (r, S9)) : PW mX4_isPage (some (.int r), S9) 14 [none] [] S := by
  unfold fX4_isPage_L14 at h
  refine p_iconst (k := 7) 0 rfl (by decide) ?_
  refine p_msk [false] (L2 := [none]) rfl ?_
  exact sX4_isPage_L15 h
def fX4_isPage (a1 : Int32) (S : St) : Option (Int32 × St) :=
  if a1 < 0 then
    fX4_isPage_L14 S
  else
    if 16 ≤ a1 then
      fX4_isPage_L14 S
    else
      fX4_isPage_L15 1 S
theorem sX4_isPage {a1 : Int32} {S : St} {r : Int32} {S9 : St} (h : fX4_isPage a1 S = some (r, S9)) : PW mX4_isPage (some (.int r), S9) 0 [some (.int a1)] [] S := by
  unfold fX4_isPage at h
  refine p_iload_n (k := 0) (i := 0) rfl rfl rfl ?_
  refine p_if_lt (k := 1) 14 rfl (by decide) (fun hc => ?_) (fun hc => ?_)
  · rw [if_pos hc] at h
    refine p_msk [false] (L2 := [none]) rfl ?_
    exact sX4_isPage_L14 h
  · rw [if_neg hc] at h
    refine p_iload_n (k := 2) (i := 0) rfl rfl rfl ?_
    refine p_bipush (k := 3) 16 rfl (by decide) ?_
    refine p_icmp_ge (k := 4) 14 rfl (by decide) (fun hc => ?_) (fun hc => ?_)
    · rw [if_pos hc] at h
      refine p_msk [false] (L2 := [none]) rfl ?_
      exact sX4_isPage_L14 h
    · rw [if_neg hc] at h
      refine p_iconst (k := 5) 1 rfl (by decide) ?_
      refine p_goto (k := 6) 15 rfl (by decide) ?_
      refine p_msk [false] (L2 := [none]) rfl ?_
      exact sX4_isPage_L15 h
theorem tX4_isPage {a1 : Int32} {S : St} {r : Int32} {S9 : St} (h : fX4_isPage a1 S = some (r, S9)) : MR yX4_isPage cX4_isPage mX4_isPage [.int a1] S (some (.int r), S9) := MR.of (n := 0) okX4_isPage rfl rfl (sX4_isPage h)
-- ask(I)I
def fX4_ask (a1 : Int32) (S : St) : Option (Int32 × St) :=
  cl (fX4_isPage a1 S) fun v1 S1 =>
  if v1 = 0 then
    cl (fX4_found (-1000001) S1) fun v7 S8 =>
    some (v7, S8)
  else
    cl (fX0_cheapestQuoting 1 a1 S1) fun v2 S2 =>
    if 0 ≤ v2 then
      cl (fX0_costs 1 v2 S2) fun v3 S3 =>
      if v3 ≤ (S3 1 11) then
        bnd (up2 S3 1 11 ((S3 1 11) - v3)) fun S4 =>
        rd S4 (1 + 7) 8 v2 fun v4 =>
        wr S4 (1 + 7) 8 v2 (mnI (v4 + 1) 9999) fun S5 =>
        some (v2, S5)
      else
        cl (fX4_found (-1000005) S3) fun v5 S6 =>
        some (v5, S6)
    else
      cl (fX4_found (-1000004) S2) fun v6 S7 =>
      some (v6, S7)
theorem sX4_ask {a1 : Int32} {S : St} {r : Int32} {S9 : St} (h : fX4_ask a1 S = some (r, S9)) : PW mX4_ask (some (.int r), S9) 0 [some (.ref 0), some (.int a1), none, none] [] S := by
  unfold fX4_ask at h
  refine p_iload_n (k := 0) (i := 1) rfl rfl rfl ?_
  obtain ⟨v1, S1, hcS1, h⟩ := cl_some h
  refine p_callS (k := 1) [.int a1] [] rfl (tX4_isPage hcS1) lc_X4_isPage ml_RX4_128 ms_X4_isPage (by decide) (by decide) (Nat.le_of_ble_eq_true rfl) rfl ?_
  refine p_if_ne (k := 2) 14 rfl (by decide) (fun hc => ?_) (fun hc => ?_)
  · rw [if_neg hc] at h
    refine p_aload_n (k := 7) (i := 0) rfl rfl rfl ?_
    refine p_getr (k := 8) rfl lay_X4 rfl fl_RX4_12 ?_
    refine p_iload_n (k := 9) (i := 1) rfl rfl rfl ?_
    obtain ⟨v2, S2, hcS2, h⟩ := cl_some h
    refine p_callV (k := 10) [.int a1] [] rfl (tX0_cheapestQuoting isC_1 hcS2) (lay_c isC_1) rfl lc_X0_cheapestQuoting ml_RX4_131 mi_X0_cheapestQuoting mv_X0_cheapestQuoting (by decide) (by decide) (Nat.le_of_ble_eq_true rfl) rfl ?_
    refine p_istore_n (k := 11) 2 [some (.ref 0), some (.int a1), some (.int v2), none] rfl rfl rfl (by decide) rfl ?_
    refine p_iload_n (k := 12) (i := 2) rfl rfl rfl ?_
    refine p_if_ge (k := 13) 34 rfl (by decide) (fun hc => ?_) (fun hc => ?_)
    · rw [if_pos hc] at h
      refine p_aload_n (k := 18) (i := 0) rfl rfl rfl ?_
      refine p_getr (k := 19) rfl lay_X4 rfl fl_RX4_12 ?_
      refine p_iload_n (k := 20) (i := 2) rfl rfl rfl ?_
      obtain ⟨v3, S3, hcS3, h⟩ := cl_some h
      refine p_callV (k := 21) [.int v2] [] rfl (tX0_costs isC_1 hcS3) (lay_c isC_1) rfl lc_X0_costs ml_RX4_97 mi_X0_costs mv_X0_costs (by decide) (by decide) (Nat.le_of_ble_eq_true rfl) rfl ?_
      refine p_istore_n (k := 22) 3 [some (.ref 0), some (.int a1), some (.int v2), some (.int v3)] rfl rfl rfl (by decide) rfl ?_
      refine p_aload_n (k := 23) (i := 0) rfl rfl rfl ?_
      refine p_getr (k := 24) rfl lay_X4 rfl fl_RX4_12 ?_
      refine p_geti (k := 25) rfl (lay_c isC_1) rfl fl_RX4_79 ?_
      refine p_iload_n (k := 26) (i := 3) rfl rfl rfl ?_
      refine p_icmp_ge (k := 27) 61 rfl (by decide) (fun hc => ?_) (fun hc => ?_)
      · rw [if_pos hc] at h
        refine p_aload_n (k := 32) (i := 0) rfl rfl rfl ?_
        refine p_getr (k := 33) rfl lay_X4 rfl fl_RX4_12 ?_
        refine p_dup (k := 34) rfl rfl ?_
        refine p_geti (k := 35) rfl (lay_c isC_1) rfl fl_RX4_79 ?_
        refine p_iload_n (k := 36) (i := 3) rfl rfl rfl ?_
        refine p_isub (k := 37) rfl ?_
        refine s_put h (k := 38) rfl (lay_c isC_1) rfl fl_RX4_79 fp_0_11 rfl rfl (fun S4 h => ?_)
        refine p_aload_n (k := 39) (i := 0) rfl rfl rfl ?_
        refine p_getr (k := 40) rfl lay_X4 rfl fl_RX4_12 ?_
        refine p_getr (k := 41) rfl (lay_c isC_1) rfl fl_RX4_136 ?_
        refine p_iload_n (k := 42) (i := 2) rfl rfl rfl ?_
        refine p_aload_n (k := 43) (i := 0) rfl rfl rfl ?_
        refine p_getr (k := 44) rfl lay_X4 rfl fl_RX4_12 ?_
        refine p_getr (k := 45) rfl (lay_c isC_1) rfl fl_RX4_136 ?_
        refine p_iload_n (k := 46) (i := 2) rfl rfl rfl ?_
        refine s_rd h (k := 47) rfl (lay_c6 isC_1) (fun v4 h => ?_)
        refine p_iconst (k := 48) 1 rfl (by decide) ?_
        refine p_iadd (k := 49) rfl ?_
        refine p_sipush (k := 50) 9999 rfl (by decide) ?_
        refine p_mmin (k := 51) rfl ml_RX4_139 mm_static_min mm_init mm_code_min (by decide) (Nat.le_of_ble_eq_true rfl) ?_
        refine s_wr h (k := 52) rfl (lay_c6 isC_1) (fun S5 h => ?_)
        refine p_iload_n (k := 53) (i := 2) rfl rfl rfl ?_
        exact s_iret h (k := 54) rfl rfl
      · rw [if_neg hc] at h
        refine p_aload_n (k := 28) (i := 0) rfl rfl rfl ?_
        refine p_ldc (k := 29) rfl k_RX4_135 ?_
        obtain ⟨v5, S6, hcS6, h⟩ := cl_some h
        refine p_callV (k := 30) [.int (-1000005)] [] rfl (tX4_found hcS6) lay_X4 rfl lc_X4_found ml_RX4_62 mi_X4_found mv_X4_found (by decide) (by decide) (Nat.le_of_ble_eq_true rfl) rfl ?_
        exact s_iret h (k := 31) rfl rfl
    · rw [if_neg hc] at h
      refine p_aload_n (k := 14) (i := 0) rfl rfl rfl ?_
      refine p_ldc (k := 15) rfl k_RX4_134 ?_
      obtain ⟨v6, S7, hcS7, h⟩ := cl_some h
      refine p_callV (k := 16) [.int (-1000004)] [] rfl (tX4_found hcS7) lay_X4 rfl lc_X4_found ml_RX4_62 mi_X4_found mv_X4_found (by decide) (by decide) (Nat.le_of_ble_eq_true rfl) rfl ?_
      exact s_iret h (k := 17) rfl rfl
  · rw [if_pos hc] at h
    refine p_aload_n (k := 3) (i := 0) rfl rfl rfl ?_
    refine p_ldc (k := 4) rfl k_RX4_61 ?_
    obtain ⟨v7, S8, hcS8, h⟩ := cl_some h
    refine p_callV (k := 5) [.int (-1000001)] [] rfl (tX4_found hcS8) lay_X4 rfl lc_X4_found ml_RX4_62 mi_X4_found mv_X4_found (by decide) (by decide) (Nat.le_of_ble_eq_true rfl) rfl ?_
    exact s_iret h (k := 6) rfl rfl
theorem tX4_ask {a1 : Int32} {S : St} {r : Int32} {S9 : St} (h : fX4_ask a1 S = some (r, S9)) : MR yX4_ask cX4_ask mX4_ask [.ref 0, .int a1] S (some (.int r), S9) := MR.of (n := 2) okX4_ask rfl rfl (sX4_ask h)
-- go(I)I
def fX4_go_L11 (S : St) : Option (Int32 × St) :=
  cl (fX4_found (-1000001) S) fun v1 S1 =>
  some (v1, S1)
theorem sX4_go_L11 {r : Int32} {S9 : St}  {S : St} (h : fX4_go_L11 S = some (r, S9)) : PW mX4_go (some (.int r), S9) 11 [some (.ref 0), none] [] S := by
  unfold fX4_go_L11 at h
  refine p_aload_n (k := 6) (i := 0) rfl rfl rfl ?_
  refine p_ldc (k := 7) rfl k_RX4_61 ?_
  obtain ⟨v1, S1, hcS1, h⟩ := cl_some h
  refine p_callV (k := 8) [.int (-1000001)] [] rfl (tX4_found hcS1) lay_X4 rfl lc_X4_found ml_RX4_62 mi_X4_found mv_X4_found (by decide) (by decide) (Nat.le_of_ble_eq_true rfl) rfl ?_
  exact s_iret h (k := 9) rfl rfl
def fX4_go (a1 : Int32) (S : St) : Option (Int32 × St) :=
  if a1 < 1 then
    fX4_go_L11 S
  else
    if a1 ≤ 60 then
      if ((S 1 12) + a1) ≤ 99999 then
        cl (fX0_passDays 1 a1 S) fun _ S1 =>
        cl (fX0_pagesKnown 1 S1) fun v1 S2 =>
        some (v1, S2)
      else
        cl (fX4_found (-1000005) S) fun v2 S3 =>
        some (v2, S3)
    else
      fX4_go_L11 S
theorem sX4_go {a1 : Int32} {S : St} {r : Int32} {S9 : St} (h : fX4_go a1 S = some (r, S9)) : PW mX4_go (some (.int r), S9) 0 [some (.ref 0), some (.int a1)] [] S := by
  unfold fX4_go at h
  refine p_iload_n (k := 0) (i := 1) rfl rfl rfl ?_
  refine p_iconst (k := 1) 1 rfl (by decide) ?_
  refine p_icmp_lt (k := 2) 11 rfl (by decide) (fun hc => ?_) (fun hc => ?_)
  · rw [if_pos hc] at h
    refine p_msk [true, false] (L2 := [some (.ref 0), none]) rfl ?_
    exact sX4_go_L11 h
  · rw [if_neg hc] at h
    refine p_iload_n (k := 3) (i := 1) rfl rfl rfl ?_
    refine p_bipush (k := 4) 60 rfl (by decide) ?_
    refine p_icmp_le (k := 5) 18 rfl (by decide) (fun hc => ?_) (fun hc => ?_)
    · rw [if_pos hc] at h
      refine p_aload_n (k := 10) (i := 0) rfl rfl rfl ?_
      refine p_getr (k := 11) rfl lay_X4 rfl fl_RX4_12 ?_
      refine p_geti (k := 12) rfl (lay_c isC_1) rfl fl_RX4_144 ?_
      refine p_iload_n (k := 13) (i := 1) rfl rfl rfl ?_
      refine p_iadd (k := 14) rfl ?_
      refine p_ldc (k := 15) rfl k_RX4_147 ?_
      refine p_icmp_le (k := 16) 39 rfl (by decide) (fun hc => ?_) (fun hc => ?_)
      · rw [if_pos hc] at h
        refine p_aload_n (k := 21) (i := 0) rfl rfl rfl ?_
        refine p_getr (k := 22) rfl lay_X4 rfl fl_RX4_12 ?_
        refine p_iload_n (k := 23) (i := 1) rfl rfl rfl ?_
        obtain ⟨_, S1, hcS1, h⟩ := cl_some h
        refine p_callV (k := 24) [.int a1] [] rfl (tX0_passDays isC_1 hcS1) (lay_c isC_1) rfl lc_X0_passDays ml_RX4_148 mi_X0_passDays mv_X0_passDays (by decide) (by decide) (Nat.le_of_ble_eq_true rfl) rfl ?_
        refine p_aload_n (k := 25) (i := 0) rfl rfl rfl ?_
        refine p_getr (k := 26) rfl lay_X4 rfl fl_RX4_12 ?_
        obtain ⟨v1, S2, hcS2, h⟩ := cl_some h
        refine p_callV (k := 27) [] [] rfl (tX0_pagesKnown isC_1 hcS2) (lay_c isC_1) rfl lc_X0_pagesKnown ml_RX4_152 mi_X0_pagesKnown mv_X0_pagesKnown (by decide) (by decide) (Nat.le_of_ble_eq_true rfl) rfl ?_
        exact s_iret h (k := 28) rfl rfl
      · rw [if_neg hc] at h
        refine p_aload_n (k := 17) (i := 0) rfl rfl rfl ?_
        refine p_ldc (k := 18) rfl k_RX4_135 ?_
        obtain ⟨v2, S3, hcS3, h⟩ := cl_some h
        refine p_callV (k := 19) [.int (-1000005)] [] rfl (tX4_found hcS3) lay_X4 rfl lc_X4_found ml_RX4_62 mi_X4_found mv_X4_found (by decide) (by decide) (Nat.le_of_ble_eq_true rfl) rfl ?_
        exact s_iret h (k := 20) rfl rfl
    · rw [if_neg hc] at h
      refine p_msk [true, false] (L2 := [some (.ref 0), none]) rfl ?_
      exact sX4_go_L11 h
theorem tX4_go {a1 : Int32} {S : St} {r : Int32} {S9 : St} (h : fX4_go a1 S = some (r, S9)) : MR yX4_go cX4_go mX4_go [.ref 0, .int a1] S (some (.int r), S9) := MR.of (n := 0) okX4_go rfl rfl (sX4_go h)
-- now(I)I
def fX4_now (a1 : Int32) (S : St) : Option (Int32 × St) :=
  if a1 = 0 then
    some (S 1 12, S)
  else
  if a1 = 1 then
    cl (fX0_pagesKnown 1 S) fun v1 S1 =>
    some (v1, S1)
  else
  if a1 = 2 then
    cl (fX0_pagesKnown 1 S) fun v2 S2 =>
    some (65535 &&& (v2 ^^^ (-1)), S2)
  else
  if a1 = 3 then
    cl (fX0_grassInAll 1 S) fun v3 S3 =>
    some (v3, S3)
  else
  if a1 = 4 then
    cl (fX0_fedInAll 1 S) fun v4 S4 =>
    some (v4, S4)
  else
  if a1 = 5 then
    cl (fX0_ledgesWithGoats 1 S) fun v5 S5 =>
    some (v5, S5)
  else
  if a1 = 6 then
    cl (fX0_wisest 1 S) fun v6 S6 =>
    some (v6, S6)
  else
  cl (fX4_found (-1000001) S) fun v7 S7 =>
  some (v7, S7)
theorem sX4_now {a1 : Int32} {S : St} {r : Int32} {S9 : St} (h : fX4_now a1 S = some (r, S9)) : PW mX4_now (some (.int r), S9) 0 [some (.ref 0), some (.int a1)] [] S := by
  unfold fX4_now at h
  refine p_iload_n (k := 0) (i := 1) rfl rfl rfl ?_
  by_cases hx0 : a1 = 0
  · rw [if_pos hx0] at h
    refine p_tableIn (k := 1) (off := 43) 44 rfl (by rw [hx0]; decide) (by rw [hx0]; decide) (by rw [hx0]; decide) (by decide) ?_
    refine p_aload_n (k := 2) (i := 0) rfl rfl rfl ?_
    refine p_getr (k := 3) rfl lay_X4 rfl fl_RX4_12 ?_
    refine p_geti (k := 4) rfl (lay_c isC_1) rfl fl_RX4_144 ?_
    exact s_iret h (k := 5) rfl rfl
  rw [if_neg hx0] at h
  by_cases hx1 : a1 = 1
  · rw [if_pos hx1] at h
    refine p_tableIn (k := 1) (off := 51) 52 rfl (by rw [hx1]; decide) (by rw [hx1]; decide) (by rw [hx1]; decide) (by decide) ?_
    refine p_aload_n (k := 6) (i := 0) rfl rfl rfl ?_
    refine p_getr (k := 7) rfl lay_X4 rfl fl_RX4_12 ?_
    obtain ⟨v1, S1, hcS1, h⟩ := cl_some h
    refine p_callV (k := 8) [] [] rfl (tX0_pagesKnown isC_1 hcS1) (lay_c isC_1) rfl lc_X0_pagesKnown ml_RX4_152 mi_X0_pagesKnown mv_X0_pagesKnown (by decide) (by decide) (Nat.le_of_ble_eq_true rfl) rfl ?_
    exact s_iret h (k := 9) rfl rfl
  rw [if_neg hx1] at h
  by_cases hx2 : a1 = 2
  · rw [if_pos hx2] at h
    refine p_tableIn (k := 1) (off := 59) 60 rfl (by rw [hx2]; decide) (by rw [hx2]; decide) (by rw [hx2]; decide) (by decide) ?_
    refine p_ldc (k := 10) rfl k_RX4_156 ?_
    refine p_aload_n (k := 11) (i := 0) rfl rfl rfl ?_
    refine p_getr (k := 12) rfl lay_X4 rfl fl_RX4_12 ?_
    obtain ⟨v2, S2, hcS2, h⟩ := cl_some h
    refine p_callV (k := 13) [] [.int 65535] rfl (tX0_pagesKnown isC_1 hcS2) (lay_c isC_1) rfl lc_X0_pagesKnown ml_RX4_152 mi_X0_pagesKnown mv_X0_pagesKnown (by decide) (by decide) (Nat.le_of_ble_eq_true rfl) rfl ?_
    refine p_iconst (k := 14) (-1) rfl (by decide) ?_
    refine p_ixor (k := 15) rfl ?_
    refine p_iand (k := 16) rfl ?_
    exact s_iret h (k := 17) rfl rfl
  rw [if_neg hx2] at h
  by_cases hx3 : a1 = 3
  · rw [if_pos hx3] at h
    refine p_tableIn (k := 1) (off := 72) 73 rfl (by rw [hx3]; decide) (by rw [hx3]; decide) (by rw [hx3]; decide) (by decide) ?_
    refine p_aload_n (k := 18) (i := 0) rfl rfl rfl ?_
    refine p_getr (k := 19) rfl lay_X4 rfl fl_RX4_12 ?_
    obtain ⟨v3, S3, hcS3, h⟩ := cl_some h
    refine p_callV (k := 20) [] [] rfl (tX0_grassInAll isC_1 hcS3) (lay_c isC_1) rfl lc_X0_grassInAll ml_RX4_157 mi_X0_grassInAll mv_X0_grassInAll (by decide) (by decide) (Nat.le_of_ble_eq_true rfl) rfl ?_
    exact s_iret h (k := 21) rfl rfl
  rw [if_neg hx3] at h
  by_cases hx4 : a1 = 4
  · rw [if_pos hx4] at h
    refine p_tableIn (k := 1) (off := 80) 81 rfl (by rw [hx4]; decide) (by rw [hx4]; decide) (by rw [hx4]; decide) (by decide) ?_
    refine p_aload_n (k := 22) (i := 0) rfl rfl rfl ?_
    refine p_getr (k := 23) rfl lay_X4 rfl fl_RX4_12 ?_
    obtain ⟨v4, S4, hcS4, h⟩ := cl_some h
    refine p_callV (k := 24) [] [] rfl (tX0_fedInAll isC_1 hcS4) (lay_c isC_1) rfl lc_X0_fedInAll ml_RX4_160 mi_X0_fedInAll mv_X0_fedInAll (by decide) (by decide) (Nat.le_of_ble_eq_true rfl) rfl ?_
    exact s_iret h (k := 25) rfl rfl
  rw [if_neg hx4] at h
  by_cases hx5 : a1 = 5
  · rw [if_pos hx5] at h
    refine p_tableIn (k := 1) (off := 88) 89 rfl (by rw [hx5]; decide) (by rw [hx5]; decide) (by rw [hx5]; decide) (by decide) ?_
    refine p_aload_n (k := 26) (i := 0) rfl rfl rfl ?_
    refine p_getr (k := 27) rfl lay_X4 rfl fl_RX4_12 ?_
    obtain ⟨v5, S5, hcS5, h⟩ := cl_some h
    refine p_callV (k := 28) [] [] rfl (tX0_ledgesWithGoats isC_1 hcS5) (lay_c isC_1) rfl lc_X0_ledgesWithGoats ml_RX4_163 mi_X0_ledgesWithGoats mv_X0_ledgesWithGoats (by decide) (by decide) (Nat.le_of_ble_eq_true rfl) rfl ?_
    exact s_iret h (k := 29) rfl rfl
  rw [if_neg hx5] at h
  by_cases hx6 : a1 = 6
  · rw [if_pos hx6] at h
    refine p_tableIn (k := 1) (off := 96) 97 rfl (by rw [hx6]; decide) (by rw [hx6]; decide) (by rw [hx6]; decide) (by decide) ?_
    refine p_aload_n (k := 30) (i := 0) rfl rfl rfl ?_
    refine p_getr (k := 31) rfl lay_X4 rfl fl_RX4_12 ?_
    obtain ⟨v6, S6, hcS6, h⟩ := cl_some h
    refine p_callV (k := 32) [] [] rfl (tX0_wisest isC_1 hcS6) (lay_c isC_1) rfl lc_X0_wisest ml_RX4_166 mi_X0_wisest mv_X0_wisest (by decide) (by decide) (Nat.le_of_ble_eq_true rfl) rfl ?_
    exact s_iret h (k := 33) rfl rfl
  rw [if_neg hx6] at h
  have hz0 := toInt_ne hx0 (z := 0) (by decide)
  have hz1 := toInt_ne hx1 (z := 1) (by decide)
  have hz2 := toInt_ne hx2 (z := 2) (by decide)
  have hz3 := toInt_ne hx3 (z := 3) (by decide)
  have hz4 := toInt_ne hx4 (z := 4) (by decide)
  have hz5 := toInt_ne hx5 (z := 5) (by decide)
  have hz6 := toInt_ne hx6 (z := 6) (by decide)
  refine p_tableOut (k := 1) 105 rfl (by omega) (by decide) ?_
  refine p_aload_n (k := 34) (i := 0) rfl rfl rfl ?_
  refine p_ldc (k := 35) rfl k_RX4_61 ?_
  obtain ⟨v7, S7, hcS7, h⟩ := cl_some h
  refine p_callV (k := 36) [.int (-1000001)] [] rfl (tX4_found hcS7) lay_X4 rfl lc_X4_found ml_RX4_62 mi_X4_found mv_X4_found (by decide) (by decide) (Nat.le_of_ble_eq_true rfl) rfl ?_
  exact s_iret h (k := 37) rfl rfl
theorem tX4_now {a1 : Int32} {S : St} {r : Int32} {S9 : St} (h : fX4_now a1 S = some (r, S9)) : MR yX4_now cX4_now mX4_now [.ref 0, .int a1] S (some (.int r), S9) := MR.of (n := 0) okX4_now rfl rfl (sX4_now h)
-- who(I)I
def fX4_who (a1 : Int32) (S : St) : Option (Int32 × St) :=
  cl (fX4_isPage a1 S) fun v1 S1 =>
  if v1 = 0 then
    cl (fX4_found (-1000001) S1) fun v3 S3 =>
    some (v3, S3)
  else
    cl (fX0_goatsKnowing 1 a1 S1) fun v2 S2 =>
    some (v2, S2)
theorem sX4_who {a1 : Int32} {S : St} {r : Int32} {S9 : St} (h : fX4_who a1 S = some (r, S9)) : PW mX4_who (some (.int r), S9) 0 [some (.ref 0), some (.int a1)] [] S := by
  unfold fX4_who at h
  refine p_iload_n (k := 0) (i := 1) rfl rfl rfl ?_
  obtain ⟨v1, S1, hcS1, h⟩ := cl_some h
  refine p_callS (k := 1) [.int a1] [] rfl (tX4_isPage hcS1) lc_X4_isPage ml_RX4_128 ms_X4_isPage (by decide) (by decide) (Nat.le_of_ble_eq_true rfl) rfl ?_
  refine p_if_ne (k := 2) 14 rfl (by decide) (fun hc => ?_) (fun hc => ?_)
  · rw [if_neg hc] at h
    refine p_aload_n (k := 7) (i := 0) rfl rfl rfl ?_
    refine p_getr (k := 8) rfl lay_X4 rfl fl_RX4_12 ?_
    refine p_iload_n (k := 9) (i := 1) rfl rfl rfl ?_
    obtain ⟨v2, S2, hcS2, h⟩ := cl_some h
    refine p_callV (k := 10) [.int a1] [] rfl (tX0_goatsKnowing isC_1 hcS2) (lay_c isC_1) rfl lc_X0_goatsKnowing ml_RX4_169 mi_X0_goatsKnowing mv_X0_goatsKnowing (by decide) (by decide) (Nat.le_of_ble_eq_true rfl) rfl ?_
    exact s_iret h (k := 11) rfl rfl
  · rw [if_pos hc] at h
    refine p_aload_n (k := 3) (i := 0) rfl rfl rfl ?_
    refine p_ldc (k := 4) rfl k_RX4_61 ?_
    obtain ⟨v3, S3, hcS3, h⟩ := cl_some h
    refine p_callV (k := 5) [.int (-1000001)] [] rfl (tX4_found hcS3) lay_X4 rfl lc_X4_found ml_RX4_62 mi_X4_found mv_X4_found (by decide) (by decide) (Nat.le_of_ble_eq_true rfl) rfl ?_
    exact s_iret h (k := 6) rfl rfl
theorem tX4_who {a1 : Int32} {S : St} {r : Int32} {S9 : St} (h : fX4_who a1 S = some (r, S9)) : MR yX4_who cX4_who mX4_who [.ref 0, .int a1] S (some (.int r), S9) := MR.of (n := 0) okX4_who rfl rfl (sX4_who h)
-- ahead(III)I
def fX4_ahead_L27 (S : St) : Option (Int32 × St) :=
  cl (fX4_found (-1000001) S) fun v1 S1 =>
  some (v1, S1)
theorem sX4_ahead_L27 {r : Int32} {S9 : St}  {S : St} (h : fX4_ahead_L27 S = some (r, S9)) : PW mX4_ahead (some (.int r), S9) 27 [some (.ref 0), none, none, none] [] S := by
  unfold fX4_ahead_L27 at h
  refine p_aload_n (k := 14) (i := 0) rfl rfl rfl ?_
  refine p_ldc (k := 15) rfl k_RX4_61 ?_
  obtain ⟨v1, S1, hcS1, h⟩ := cl_some h
  refine p_callV (k := 16) [.int (-1000001)] [] rfl (tX4_found hcS1) lay_X4 rfl lc_X4_found ml_RX4_62 mi_X4_found mv_X4_found (by decide) (by decide) (Nat.le_of_ble_eq_true rfl) rfl ?_
  exact s_iret h (k := 17) rfl rfl
def fX4_ahead (a1 : Int32) (a2 : Int32) (a3 : Int32) (S : St) : Option (Int32 × St) :=
  cl (fX4_isGoat a1 S) fun v1 S1 =>
  if v1 = 0 then
    fX4_ahead_L27 S1
  else
    if a2 < 1 then
      fX4_ahead_L27 S1
    else
      if 4 < a2 then
        fX4_ahead_L27 S1
      else
        cl (fX4_isWithin a3 100 S1) fun v2 S2 =>
        if v2 = 0 then
          fX4_ahead_L27 S2
        else
          cl (fX0_become 10 1 S2) fun _ S3 =>
          cl (fX0_passDays 10 a3 S3) fun _ S4 =>
          cl (fX0_trait 10 a1 a2 S4) fun v3 S5 =>
          some (v3, S5)
theorem sX4_ahead {a1 : Int32} {a2 : Int32} {a3 : Int32} {S : St} {r : Int32} {S9 : St} (h : fX4_ahead a1 a2 a3 S = some (r, S9)) : PW mX4_ahead (some (.int r), S9) 0 [some (.ref 0), some (.int a1), some (.int a2), some (.int a3)] [] S := by
  unfold fX4_ahead at h
  refine p_aload_n (k := 0) (i := 0) rfl rfl rfl ?_
  refine p_iload_n (k := 1) (i := 1) rfl rfl rfl ?_
  obtain ⟨v1, S1, hcS1, h⟩ := cl_some h
  refine p_callV (k := 2) [.int a1] [] rfl (tX4_isGoat hcS1) lay_X4 rfl lc_X4_isGoat ml_RX4_94 mi_X4_isGoat mv_X4_isGoat (by decide) (by decide) (Nat.le_of_ble_eq_true rfl) rfl ?_
  refine p_if_eq (k := 3) 27 rfl (by decide) (fun hc => ?_) (fun hc => ?_)
  · rw [if_pos hc] at h
    refine p_msk [true, false, false, false] (L2 := [some (.ref 0), none, none, none]) rfl ?_
    exact sX4_ahead_L27 h
  · rw [if_neg hc] at h
    refine p_iload_n (k := 4) (i := 2) rfl rfl rfl ?_
    refine p_iconst (k := 5) 1 rfl (by decide) ?_
    refine p_icmp_lt (k := 6) 27 rfl (by decide) (fun hc => ?_) (fun hc => ?_)
    · rw [if_pos hc] at h
      refine p_msk [true, false, false, false] (L2 := [some (.ref 0), none, none, none]) rfl ?_
      exact sX4_ahead_L27 h
    · rw [if_neg hc] at h
      refine p_iload_n (k := 7) (i := 2) rfl rfl rfl ?_
      refine p_iconst (k := 8) 4 rfl (by decide) ?_
      refine p_icmp_gt (k := 9) 27 rfl (by decide) (fun hc => ?_) (fun hc => ?_)
      · rw [if_pos hc] at h
        refine p_msk [true, false, false, false] (L2 := [some (.ref 0), none, none, none]) rfl ?_
        exact sX4_ahead_L27 h
      · rw [if_neg hc] at h
        refine p_iload_n (k := 10) (i := 3) rfl rfl rfl ?_
        refine p_bipush (k := 11) 100 rfl (by decide) ?_
        obtain ⟨v2, S2, hcS2, h⟩ := cl_some h
        refine p_callS (k := 12) [.int a3, .int 100] [] rfl (tX4_isWithin hcS2) lc_X4_isWithin ml_RX4_57 ms_X4_isWithin (by decide) (by decide) (Nat.le_of_ble_eq_true rfl) rfl ?_
        refine p_if_ne (k := 13) 34 rfl (by decide) (fun hc => ?_) (fun hc => ?_)
        · rw [if_neg hc] at h
          refine p_aload_n (k := 18) (i := 0) rfl rfl rfl ?_
          refine p_getr (k := 19) rfl lay_X4 rfl fl_RX4_16 ?_
          refine p_aload_n (k := 20) (i := 0) rfl rfl rfl ?_
          refine p_getr (k := 21) rfl lay_X4 rfl fl_RX4_12 ?_
          obtain ⟨_, S3, hcS3, h⟩ := cl_some h
          refine p_callV (k := 22) [.ref 1] [] rfl (tX0_become isC_10 isC_1 hcS3) (lay_c isC_10) rfl lc_X0_become ml_RX4_172 mi_X0_become mv_X0_become (by decide) (by decide) (Nat.le_of_ble_eq_true rfl) rfl ?_
          refine p_aload_n (k := 23) (i := 0) rfl rfl rfl ?_
          refine p_getr (k := 24) rfl lay_X4 rfl fl_RX4_16 ?_
          refine p_iload_n (k := 25) (i := 3) rfl rfl rfl ?_
          obtain ⟨_, S4, hcS4, h⟩ := cl_some h
          refine p_callV (k := 26) [.int a3] [] rfl (tX0_passDays isC_10 hcS4) (lay_c isC_10) rfl lc_X0_passDays ml_RX4_148 mi_X0_passDays mv_X0_passDays (by decide) (by decide) (Nat.le_of_ble_eq_true rfl) rfl ?_
          refine p_aload_n (k := 27) (i := 0) rfl rfl rfl ?_
          refine p_getr (k := 28) rfl lay_X4 rfl fl_RX4_16 ?_
          refine p_iload_n (k := 29) (i := 1) rfl rfl rfl ?_
          refine p_iload_n (k := 30) (i := 2) rfl rfl rfl ?_
          obtain ⟨v3, S5, hcS5, h⟩ := cl_some h
          refine p_callV (k := 31) [.int a1, .int a2] [] rfl (tX0_trait isC_10 hcS5) (lay_c isC_10) rfl lc_X0_trait ml_RX4_109 mi_X0_trait mv_X0_trait (by decide) (by decide) (Nat.le_of_ble_eq_true rfl) rfl ?_
          exact s_iret h (k := 32) rfl rfl
        · rw [if_pos hc] at h
          refine p_msk [true, false, false, false] (L2 := [some (.ref 0), none, none, none]) rfl ?_
          exact sX4_ahead_L27 h
theorem tX4_ahead {a1 : Int32} {a2 : Int32} {a3 : Int32} {S : St} {r : Int32} {S9 : St} (h : fX4_ahead a1 a2 a3 S = some (r, S9)) : MR yX4_ahead cX4_ahead mX4_ahead [.ref 0, .int a1, .int a2, .int a3] S (some (.int r), S9) := MR.of (n := 0) okX4_ahead rfl rfl (sX4_ahead h)
-- hasCome(III)Z
def fX4_hasCome_L58 (y0 : Int32) (S : St) : Option (Int32 × St) :=
  retN .boolean y0 S
theorem sX4_hasCome_L58 {r : Int32} {S9 : St} {y0 : Int32} {S : St} (h : fX4_hasCome_L58 y0 S = some (r, S9)) : PW mX4_hasCome (some (.int r), S9) 58 [none, none, none, none] [.int y0] S := by
  unfold fX4_hasCome_L58 at h
  exact s_zret h (k := 18) rfl rfl
def fX4_hasCome_L85 (y0 : Int32) (S : St) : Option (Int32 × St) :=
  retN .boolean y0 S
theorem sX4_hasCome_L85 {r : Int32} {S9 : St} {y0 : Int32} {S : St} (h : fX4_hasCome_L85 y0 S = some (r, S9)) : PW mX4_hasCome (some (.int r), S9) 85 [none, none, none, none] [.int y0] S := by
  unfold fX4_hasCome_L85 at h
  exact s_zret h (k := 33) rfl rfl
def fX4_hasCome_L104 (y0 : Int32) (S : St) : Option (Int32 × St) :=
  retN .boolean y0 S
theorem sX4_hasCome_L104 {r : Int32} {S9 : St} {y0 : Int32} {S : St} (h : fX4_hasCome_L104 y0 S = some (r, S9)) : PW mX4_hasCome (some (.int r), S9) 104 [none, none, none, none] [.int y0] S := by
  unfold fX4_hasCome_L104 at h
  exact s_zret h (k := 44) rfl rfl
def fX4_hasCome (a1 : Int32) (a2 : Int32) (a3 : Int32) (S : St) : Option (Int32 × St) :=
  if a1 = 0 then
    rd S (10 + 4) 8 a2 fun v1 =>
    cl (fX4_hasBit v1 a3 S) fun v2 S1 =>
    retN .boolean v2 S1
  else
  if a1 = 1 then
    cl (fX0_isInPrint 10 a2 S) fun v3 S2 =>
    if v3 = 0 then
      fX4_hasCome_L58 1 S2
    else
      fX4_hasCome_L58 0 S2
  else
  if a1 = 2 then
    rd S (10 + 3) 8 a2 fun v4 =>
    rd S (10 + 3) 8 a3 fun v5 =>
    if v4 = v5 then
      fX4_hasCome_L85 1 S
    else
      fX4_hasCome_L85 0 S
  else
  rd S (10 + 3) 8 a2 fun v6 =>
  if v6 = a3 then
    fX4_hasCome_L104 1 S
  else
    fX4_hasCome_L104 0 S
theorem sX4_hasCome {a1 : Int32} {a2 : Int32} {a3 : Int32} {S : St} {r : Int32} {S9 : St} (h : fX4_hasCome a1 a2 a3 S = some (r, S9)) : PW mX4_hasCome (some (.int r), S9) 0 [some (.ref 0), some (.int a1), some (.int a2), some (.int a3)] [] S := by
  unfold fX4_hasCome at h
  refine p_iload_n (k := 0) (i := 1) rfl rfl rfl ?_
  by_cases hx0 : a1 = 0
  · rw [if_pos hx0] at h
    refine p_tableIn (k := 1) (off := 27) 28 rfl (by rw [hx0]; decide) (by rw [hx0]; decide) (by rw [hx0]; decide) (by decide) ?_
    refine p_aload_n (k := 2) (i := 0) rfl rfl rfl ?_
    refine p_getr (k := 3) rfl lay_X4 rfl fl_RX4_16 ?_
    refine p_getr (k := 4) rfl (lay_c isC_10) rfl fl_RX4_119 ?_
    refine p_iload_n (k := 5) (i := 2) rfl rfl rfl ?_
    refine s_rd h (k := 6) rfl (lay_c3 isC_10) (fun v1 h => ?_)
    refine p_iload_n (k := 7) (i := 3) rfl rfl rfl ?_
    obtain ⟨v2, S1, hcS1, h⟩ := cl_some h
    refine p_callS (k := 8) [.int v1, .int a3] [] rfl (tX4_hasBit hcS1) lc_X4_hasBit ml_RX4_198 ms_X4_hasBit (by decide) (by decide) (Nat.le_of_ble_eq_true rfl) rfl ?_
    exact s_zret h (k := 9) rfl rfl
  rw [if_neg hx0] at h
  by_cases hx1 : a1 = 1
  · rw [if_pos hx1] at h
    refine p_tableIn (k := 1) (off := 41) 42 rfl (by rw [hx1]; decide) (by rw [hx1]; decide) (by rw [hx1]; decide) (by decide) ?_
    refine p_aload_n (k := 10) (i := 0) rfl rfl rfl ?_
    refine p_getr (k := 11) rfl lay_X4 rfl fl_RX4_16 ?_
    refine p_iload_n (k := 12) (i := 2) rfl rfl rfl ?_
    obtain ⟨v3, S2, hcS2, h⟩ := cl_some h
    refine p_callV (k := 13) [.int a2] [] rfl (tX0_isInPrint isC_10 hcS2) (lay_c isC_10) rfl lc_X0_isInPrint ml_RX4_184 mi_X0_isInPrint mv_X0_isInPrint (by decide) (by decide) (Nat.le_of_ble_eq_true rfl) rfl ?_
    refine p_if_ne (k := 14) 57 rfl (by decide) (fun hc => ?_) (fun hc => ?_)
    · rw [if_neg hc] at h
      refine p_iconst (k := 17) 0 rfl (by decide) ?_
      refine p_msk [false, false, false, false] (L2 := [none, none, none, none]) rfl ?_
      exact sX4_hasCome_L58 h
    · rw [if_pos hc] at h
      refine p_iconst (k := 15) 1 rfl (by decide) ?_
      refine p_goto (k := 16) 58 rfl (by decide) ?_
      refine p_msk [false, false, false, false] (L2 := [none, none, none, none]) rfl ?_
      exact sX4_hasCome_L58 h
  rw [if_neg hx1] at h
  by_cases hx2 : a1 = 2
  · rw [if_pos hx2] at h
    refine p_tableIn (k := 1) (off := 58) 59 rfl (by rw [hx2]; decide) (by rw [hx2]; decide) (by rw [hx2]; decide) (by decide) ?_
    refine p_aload_n (k := 19) (i := 0) rfl rfl rfl ?_
    refine p_getr (k := 20) rfl lay_X4 rfl fl_RX4_16 ?_
    refine p_getr (k := 21) rfl (lay_c isC_10) rfl fl_RX4_122 ?_
    refine p_iload_n (k := 22) (i := 2) rfl rfl rfl ?_
    refine s_rd h (k := 23) rfl (lay_c2 isC_10) (fun v4 h => ?_)
    refine p_aload_n (k := 24) (i := 0) rfl rfl rfl ?_
    refine p_getr (k := 25) rfl lay_X4 rfl fl_RX4_16 ?_
    refine p_getr (k := 26) rfl (lay_c isC_10) rfl fl_RX4_122 ?_
    refine p_iload_n (k := 27) (i := 3) rfl rfl rfl ?_
    refine s_rd h (k := 28) rfl (lay_c2 isC_10) (fun v5 h => ?_)
    refine p_icmp_ne (k := 29) 84 rfl (by decide) (fun hc => ?_) (fun hc => ?_)
    · rw [if_neg hc] at h
      refine p_iconst (k := 32) 0 rfl (by decide) ?_
      refine p_msk [false, false, false, false] (L2 := [none, none, none, none]) rfl ?_
      exact sX4_hasCome_L85 h
    · rw [if_pos hc] at h
      refine p_iconst (k := 30) 1 rfl (by decide) ?_
      refine p_goto (k := 31) 85 rfl (by decide) ?_
      refine p_msk [false, false, false, false] (L2 := [none, none, none, none]) rfl ?_
      exact sX4_hasCome_L85 h
  rw [if_neg hx2] at h
  have hz0 := toInt_ne hx0 (z := 0) (by decide)
  have hz1 := toInt_ne hx1 (z := 1) (by decide)
  have hz2 := toInt_ne hx2 (z := 2) (by decide)
  refine p_tableOut (k := 1) 86 rfl (by omega) (by decide) ?_
  refine p_aload_n (k := 34) (i := 0) rfl rfl rfl ?_
  refine p_getr (k := 35) rfl lay_X4 rfl fl_RX4_16 ?_
  refine p_getr (k := 36) rfl (lay_c isC_10) rfl fl_RX4_122 ?_
  refine p_iload_n (k := 37) (i := 2) rfl rfl rfl ?_
  refine s_rd h (k := 38) rfl (lay_c2 isC_10) (fun v6 h => ?_)
  refine p_iload_n (k := 39) (i := 3) rfl rfl rfl ?_
  refine p_icmp_ne (k := 40) 103 rfl (by decide) (fun hc => ?_) (fun hc => ?_)
  · rw [if_neg hc] at h
    refine p_iconst (k := 43) 0 rfl (by decide) ?_
    refine p_msk [false, false, false, false] (L2 := [none, none, none, none]) rfl ?_
    exact sX4_hasCome_L104 h
  · rw [if_pos hc] at h
    refine p_iconst (k := 41) 1 rfl (by decide) ?_
    refine p_goto (k := 42) 104 rfl (by decide) ?_
    refine p_msk [false, false, false, false] (L2 := [none, none, none, none]) rfl ?_
    exact sX4_hasCome_L104 h
theorem tX4_hasCome {a1 : Int32} {a2 : Int32} {a3 : Int32} {S : St} {r : Int32} {S9 : St} (h : fX4_hasCome a1 a2 a3 S = some (r, S9)) : MR yX4_hasCome cX4_hasCome mX4_hasCome [.ref 0, .int a1, .int a2, .int a3] S (some (.int r), S9) := MR.of (n := 0) okX4_hasCome rfl rfl (sX4_hasCome h)
-- daysUntil(III)I
def fX4_daysUntil_L14 : Nat → Int32 → Int32 → Int32 → Int32 → St → Option (Int32 × St)
  | 0 => fun _ _ _ _ _ => none
  | n + 1 => fun x1 x2 x3 x4 S =>
    if 100 < x4 then
      cl (fX4_found (-1000004) S) fun v1 S1 =>
      some (v1, S1)
    else
      cl (fX4_hasCome x1 x2 x3 S) fun v2 S2 =>
      if v2 = 0 then
        cl (fX0_passDay 10 S2) fun _ S3 =>
        bnd (x4 + 1) fun v3 =>
        fX4_daysUntil_L14 n x1 x2 x3 v3 S3
      else
        some (x4, S2)
theorem sX4_daysUntil_L14 {r : Int32} {S9 : St} : ∀ (n : Nat) (x1 : Int32) (x2 : Int32) (x3 : Int32) (x4 : Int32) (S : St), fX4_daysUntil_L14 n x1 x2 x3 x4 S = some (r, S9) → PW mX4_daysUntil (some (.int r), S9) 14 [some (.ref 0), some (.int x1), some (.int x2), some (.int x3), some (.int x4)] [] S := by
  intro n
  induction n with
  | zero => intro x1 x2 x3 x4 S h; cases h
  | succ n ih =>
    intro x1 x2 x3 x4 S h
    unfold fX4_daysUntil_L14 at h
    refine p_iload (k := 7) rfl rfl ?_
    refine p_bipush (k := 8) 100 rfl (by decide) ?_
    refine p_icmp_gt (k := 9) 47 rfl (by decide) (fun hc => ?_) (fun hc => ?_)
    · rw [if_pos hc] at h
      refine p_aload_n (k := 23) (i := 0) rfl rfl rfl ?_
      refine p_ldc (k := 24) rfl k_RX4_134 ?_
      obtain ⟨v1, S1, hcS1, h⟩ := cl_some h
      refine p_callV (k := 25) [.int (-1000004)] [] rfl (tX4_found hcS1) lay_X4 rfl lc_X4_found ml_RX4_62 mi_X4_found mv_X4_found (by decide) (by decide) (Nat.le_of_ble_eq_true rfl) rfl ?_
      exact s_iret h (k := 26) rfl rfl
    · rw [if_neg hc] at h
      refine p_aload_n (k := 10) (i := 0) rfl rfl rfl ?_
      refine p_iload_n (k := 11) (i := 1) rfl rfl rfl ?_
      refine p_iload_n (k := 12) (i := 2) rfl rfl rfl ?_
      refine p_iload_n (k := 13) (i := 3) rfl rfl rfl ?_
      obtain ⟨v2, S2, hcS2, h⟩ := cl_some h
      refine p_callV (k := 14) [.int x1, .int x2, .int x3] [] rfl (tX4_hasCome hcS2) lay_X4 rfl lc_X4_hasCome ml_RX4_278 mi_X4_hasCome mv_X4_hasCome (by decide) (by decide) (Nat.le_of_ble_eq_true rfl) rfl ?_
      refine p_if_eq (k := 15) 34 rfl (by decide) (fun hc => ?_) (fun hc => ?_)
      · rw [if_pos hc] at h
        refine p_aload_n (k := 18) (i := 0) rfl rfl rfl ?_
        refine p_getr (k := 19) rfl lay_X4 rfl fl_RX4_16 ?_
        obtain ⟨_, S3, hcS3, h⟩ := cl_some h
        refine p_callV (k := 20) [] [] rfl (tX0_passDay isC_10 hcS3) (lay_c isC_10) rfl lc_X0_passDay ml_RX4_212 mi_X0_passDay mv_X0_passDay (by decide) (by decide) (Nat.le_of_ble_eq_true rfl) rfl ?_
        obtain ⟨v3, ev3, h⟩ := bnd_ex h
        refine p_iinc (k := 21) v3 [some (.ref 0), some (.int x1), some (.int x2), some (.int x3), some (.int v3)] rfl rfl (by rw [← ev3]; rfl) rfl (by decide) rfl ?_
        refine p_goto (k := 22) 14 rfl (by decide) ?_
        refine p_msk [true, true, true, true, true] (L2 := [some (.ref 0), some (.int x1), some (.int x2), some (.int x3), some (.int v3)]) rfl ?_
        exact ih _ _ _ _ _ h
      · rw [if_neg hc] at h
        refine p_iload (k := 16) rfl rfl ?_
        exact s_iret h (k := 17) rfl rfl
def fX4_daysUntil (a1 : Int32) (a2 : Int32) (a3 : Int32) (S : St) : Option (Int32 × St) :=
  cl (fX0_become 10 1 S) fun _ S1 =>
  fX4_daysUntil_L14 FU a1 a2 a3 0 S1
theorem sX4_daysUntil {a1 : Int32} {a2 : Int32} {a3 : Int32} {S : St} {r : Int32} {S9 : St} (h : fX4_daysUntil a1 a2 a3 S = some (r, S9)) : PW mX4_daysUntil (some (.int r), S9) 0 [some (.ref 0), some (.int a1), some (.int a2), some (.int a3), none] [] S := by
  unfold fX4_daysUntil at h
  refine p_aload_n (k := 0) (i := 0) rfl rfl rfl ?_
  refine p_getr (k := 1) rfl lay_X4 rfl fl_RX4_16 ?_
  refine p_aload_n (k := 2) (i := 0) rfl rfl rfl ?_
  refine p_getr (k := 3) rfl lay_X4 rfl fl_RX4_12 ?_
  obtain ⟨_, S1, hcS1, h⟩ := cl_some h
  refine p_callV (k := 4) [.ref 1] [] rfl (tX0_become isC_10 isC_1 hcS1) (lay_c isC_10) rfl lc_X0_become ml_RX4_172 mi_X0_become mv_X0_become (by decide) (by decide) (Nat.le_of_ble_eq_true rfl) rfl ?_
  refine p_iconst (k := 5) 0 rfl (by decide) ?_
  refine p_istore (k := 6) [some (.ref 0), some (.int a1), some (.int a2), some (.int a3), some (.int 0)] rfl rfl (by decide) rfl ?_
  refine p_msk [true, true, true, true, true] (L2 := [some (.ref 0), some (.int a1), some (.int a2), some (.int a3), some (.int 0)]) rfl ?_
  exact sX4_daysUntil_L14 _ _ _ _ _ _ h
theorem tX4_daysUntil {a1 : Int32} {a2 : Int32} {a3 : Int32} {S : St} {r : Int32} {S9 : St} (h : fX4_daysUntil a1 a2 a3 S = some (r, S9)) : MR yX4_daysUntil cX4_daysUntil mX4_daysUntil [.ref 0, .int a1, .int a2, .int a3] S (some (.int r), S9) := MR.of (n := 1) okX4_daysUntil rfl rfl (sX4_daysUntil h)
-- learns(II)I
def fX4_learns_L15 (S : St) : Option (Int32 × St) :=
  cl (fX4_found (-1000001) S) fun v1 S1 =>
  some (v1, S1)
theorem sX4_learns_L15 {r : Int32} {S9 : St}  {S : St} (h : fX4_learns_L15 S = some (r, S9)) : PW mX4_learns (some (.int r), S9) 15 [some (.ref 0), none, none] [] S := by
  unfold fX4_learns_L15 at h
  refine p_aload_n (k := 7) (i := 0) rfl rfl rfl ?_
  refine p_ldc (k := 8) rfl k_RX4_61 ?_
  obtain ⟨v1, S1, hcS1, h⟩ := cl_some h
  refine p_callV (k := 9) [.int (-1000001)] [] rfl (tX4_found hcS1) lay_X4 rfl lc_X4_found ml_RX4_62 mi_X4_found mv_X4_found (by decide) (by decide) (Nat.le_of_ble_eq_true rfl) rfl ?_
  exact s_iret h (k := 10) rfl rfl
def fX4_learns (a1 : Int32) (a2 : Int32) (S : St) : Option (Int32 × St) :=
  cl (fX4_isGoat a1 S) fun v1 S1 =>
  if v1 = 0 then
    fX4_learns_L15 S1
  else
    cl (fX4_isPage a2 S1) fun v2 S2 =>
    if v2 = 0 then
      fX4_learns_L15 S2
    else
      cl (fX4_daysUntil 0 a1 a2 S2) fun v3 S3 =>
      some (v3, S3)
theorem sX4_learns {a1 : Int32} {a2 : Int32} {S : St} {r : Int32} {S9 : St} (h : fX4_learns a1 a2 S = some (r, S9)) : PW mX4_learns (some (.int r), S9) 0 [some (.ref 0), some (.int a1), some (.int a2)] [] S := by
  unfold fX4_learns at h
  refine p_aload_n (k := 0) (i := 0) rfl rfl rfl ?_
  refine p_iload_n (k := 1) (i := 1) rfl rfl rfl ?_
  obtain ⟨v1, S1, hcS1, h⟩ := cl_some h
  refine p_callV (k := 2) [.int a1] [] rfl (tX4_isGoat hcS1) lay_X4 rfl lc_X4_isGoat ml_RX4_94 mi_X4_isGoat mv_X4_isGoat (by decide) (by decide) (Nat.le_of_ble_eq_true rfl) rfl ?_
  refine p_if_eq (k := 3) 15 rfl (by decide) (fun hc => ?_) (fun hc => ?_)
  · rw [if_pos hc] at h
    refine p_msk [true, false, false] (L2 := [some (.ref 0), none, none]) rfl ?_
    exact sX4_learns_L15 h
  · rw [if_neg hc] at h
    refine p_iload_n (k := 4) (i := 2) rfl rfl rfl ?_
    obtain ⟨v2, S2, hcS2, h⟩ := cl_some h
    refine p_callS (k := 5) [.int a2] [] rfl (tX4_isPage hcS2) lc_X4_isPage ml_RX4_128 ms_X4_isPage (by decide) (by decide) (Nat.le_of_ble_eq_true rfl) rfl ?_
    refine p_if_ne (k := 6) 22 rfl (by decide) (fun hc => ?_) (fun hc => ?_)
    · rw [if_neg hc] at h
      refine p_aload_n (k := 11) (i := 0) rfl rfl rfl ?_
      refine p_iconst (k := 12) 0 rfl (by decide) ?_
      refine p_iload_n (k := 13) (i := 1) rfl rfl rfl ?_
      refine p_iload_n (k := 14) (i := 2) rfl rfl rfl ?_
      obtain ⟨v3, S3, hcS3, h⟩ := cl_some h
      refine p_callV (k := 15) [.int 0, .int a1, .int a2] [] rfl (tX4_daysUntil hcS3) lay_X4 rfl lc_X4_daysUntil ml_RX4_176 mi_X4_daysUntil mv_X4_daysUntil (by decide) (by decide) (Nat.le_of_ble_eq_true rfl) rfl ?_
      exact s_iret h (k := 16) rfl rfl
    · rw [if_pos hc] at h
      refine p_msk [true, false, false] (L2 := [some (.ref 0), none, none]) rfl ?_
      exact sX4_learns_L15 h
theorem tX4_learns {a1 : Int32} {a2 : Int32} {S : St} {r : Int32} {S9 : St} (h : fX4_learns a1 a2 S = some (r, S9)) : MR yX4_learns cX4_learns mX4_learns [.ref 0, .int a1, .int a2] S (some (.int r), S9) := MR.of (n := 0) okX4_learns rfl rfl (sX4_learns h)
-- lost(I)I
def fX4_lost (a1 : Int32) (S : St) : Option (Int32 × St) :=
  cl (fX4_isPage a1 S) fun v1 S1 =>
  if v1 = 0 then
    cl (fX4_found (-1000001) S1) fun v3 S3 =>
    some (v3, S3)
  else
    cl (fX4_daysUntil 1 a1 0 S1) fun v2 S2 =>
    some (v2, S2)
theorem sX4_lost {a1 : Int32} {S : St} {r : Int32} {S9 : St} (h : fX4_lost a1 S = some (r, S9)) : PW mX4_lost (some (.int r), S9) 0 [some (.ref 0), some (.int a1)] [] S := by
  unfold fX4_lost at h
  refine p_iload_n (k := 0) (i := 1) rfl rfl rfl ?_
  obtain ⟨v1, S1, hcS1, h⟩ := cl_some h
  refine p_callS (k := 1) [.int a1] [] rfl (tX4_isPage hcS1) lc_X4_isPage ml_RX4_128 ms_X4_isPage (by decide) (by decide) (Nat.le_of_ble_eq_true rfl) rfl ?_
  refine p_if_ne (k := 2) 14 rfl (by decide) (fun hc => ?_) (fun hc => ?_)
  · rw [if_neg hc] at h
    refine p_aload_n (k := 7) (i := 0) rfl rfl rfl ?_
    refine p_iconst (k := 8) 1 rfl (by decide) ?_
    refine p_iload_n (k := 9) (i := 1) rfl rfl rfl ?_
    refine p_iconst (k := 10) 0 rfl (by decide) ?_
    obtain ⟨v2, S2, hcS2, h⟩ := cl_some h
    refine p_callV (k := 11) [.int 1, .int a1, .int 0] [] rfl (tX4_daysUntil hcS2) lay_X4 rfl lc_X4_daysUntil ml_RX4_176 mi_X4_daysUntil mv_X4_daysUntil (by decide) (by decide) (Nat.le_of_ble_eq_true rfl) rfl ?_
    exact s_iret h (k := 12) rfl rfl
  · rw [if_pos hc] at h
    refine p_aload_n (k := 3) (i := 0) rfl rfl rfl ?_
    refine p_ldc (k := 4) rfl k_RX4_61 ?_
    obtain ⟨v3, S3, hcS3, h⟩ := cl_some h
    refine p_callV (k := 5) [.int (-1000001)] [] rfl (tX4_found hcS3) lay_X4 rfl lc_X4_found ml_RX4_62 mi_X4_found mv_X4_found (by decide) (by decide) (Nat.le_of_ble_eq_true rfl) rfl ?_
    exact s_iret h (k := 6) rfl rfl
theorem tX4_lost {a1 : Int32} {S : St} {r : Int32} {S9 : St} (h : fX4_lost a1 S = some (r, S9)) : MR yX4_lost cX4_lost mX4_lost [.ref 0, .int a1] S (some (.int r), S9) := MR.of (n := 0) okX4_lost rfl rfl (sX4_lost h)
-- meet(II)I
def fX4_meet_L21 (S : St) : Option (Int32 × St) :=
  cl (fX4_found (-1000001) S) fun v1 S1 =>
  some (v1, S1)
theorem sX4_meet_L21 {r : Int32} {S9 : St}  {S : St} (h : fX4_meet_L21 S = some (r, S9)) : PW mX4_meet (some (.int r), S9) 21 [some (.ref 0), none, none] [] S := by
  unfold fX4_meet_L21 at h
  refine p_aload_n (k := 11) (i := 0) rfl rfl rfl ?_
  refine p_ldc (k := 12) rfl k_RX4_61 ?_
  obtain ⟨v1, S1, hcS1, h⟩ := cl_some h
  refine p_callV (k := 13) [.int (-1000001)] [] rfl (tX4_found hcS1) lay_X4 rfl lc_X4_found ml_RX4_62 mi_X4_found mv_X4_found (by decide) (by decide) (Nat.le_of_ble_eq_true rfl) rfl ?_
  exact s_iret h (k := 14) rfl rfl
def fX4_meet (a1 : Int32) (a2 : Int32) (S : St) : Option (Int32 × St) :=
  cl (fX4_isGoat a1 S) fun v1 S1 =>
  if v1 = 0 then
    fX4_meet_L21 S1
  else
    cl (fX4_isGoat a2 S1) fun v2 S2 =>
    if v2 = 0 then
      fX4_meet_L21 S2
    else
      if a1 = a2 then
        fX4_meet_L21 S2
      else
        cl (fX4_daysUntil 2 a1 a2 S2) fun v3 S3 =>
        some (v3, S3)
theorem sX4_meet {a1 : Int32} {a2 : Int32} {S : St} {r : Int32} {S9 : St} (h : fX4_meet a1 a2 S = some (r, S9)) : PW mX4_meet (some (.int r), S9) 0 [some (.ref 0), some (.int a1), some (.int a2)] [] S := by
  unfold fX4_meet at h
  refine p_aload_n (k := 0) (i := 0) rfl rfl rfl ?_
  refine p_iload_n (k := 1) (i := 1) rfl rfl rfl ?_
  obtain ⟨v1, S1, hcS1, h⟩ := cl_some h
  refine p_callV (k := 2) [.int a1] [] rfl (tX4_isGoat hcS1) lay_X4 rfl lc_X4_isGoat ml_RX4_94 mi_X4_isGoat mv_X4_isGoat (by decide) (by decide) (Nat.le_of_ble_eq_true rfl) rfl ?_
  refine p_if_eq (k := 3) 21 rfl (by decide) (fun hc => ?_) (fun hc => ?_)
  · rw [if_pos hc] at h
    refine p_msk [true, false, false] (L2 := [some (.ref 0), none, none]) rfl ?_
    exact sX4_meet_L21 h
  · rw [if_neg hc] at h
    refine p_aload_n (k := 4) (i := 0) rfl rfl rfl ?_
    refine p_iload_n (k := 5) (i := 2) rfl rfl rfl ?_
    obtain ⟨v2, S2, hcS2, h⟩ := cl_some h
    refine p_callV (k := 6) [.int a2] [] rfl (tX4_isGoat hcS2) lay_X4 rfl lc_X4_isGoat ml_RX4_94 mi_X4_isGoat mv_X4_isGoat (by decide) (by decide) (Nat.le_of_ble_eq_true rfl) rfl ?_
    refine p_if_eq (k := 7) 21 rfl (by decide) (fun hc => ?_) (fun hc => ?_)
    · rw [if_pos hc] at h
      refine p_msk [true, false, false] (L2 := [some (.ref 0), none, none]) rfl ?_
      exact sX4_meet_L21 h
    · rw [if_neg hc] at h
      refine p_iload_n (k := 8) (i := 1) rfl rfl rfl ?_
      refine p_iload_n (k := 9) (i := 2) rfl rfl rfl ?_
      refine p_icmp_ne (k := 10) 28 rfl (by decide) (fun hc => ?_) (fun hc => ?_)
      · rw [if_neg hc] at h
        refine p_aload_n (k := 15) (i := 0) rfl rfl rfl ?_
        refine p_iconst (k := 16) 2 rfl (by decide) ?_
        refine p_iload_n (k := 17) (i := 1) rfl rfl rfl ?_
        refine p_iload_n (k := 18) (i := 2) rfl rfl rfl ?_
        obtain ⟨v3, S3, hcS3, h⟩ := cl_some h
        refine p_callV (k := 19) [.int 2, .int a1, .int a2] [] rfl (tX4_daysUntil hcS3) lay_X4 rfl lc_X4_daysUntil ml_RX4_176 mi_X4_daysUntil mv_X4_daysUntil (by decide) (by decide) (Nat.le_of_ble_eq_true rfl) rfl ?_
        exact s_iret h (k := 20) rfl rfl
      · rw [if_pos hc] at h
        refine p_msk [true, false, false] (L2 := [some (.ref 0), none, none]) rfl ?_
        exact sX4_meet_L21 h
theorem tX4_meet {a1 : Int32} {a2 : Int32} {S : St} {r : Int32} {S9 : St} (h : fX4_meet a1 a2 S = some (r, S9)) : MR yX4_meet cX4_meet mX4_meet [.ref 0, .int a1, .int a2] S (some (.int r), S9) := MR.of (n := 0) okX4_meet rfl rfl (sX4_meet h)
-- reach(II)I
def fX4_reach_L15 (S : St) : Option (Int32 × St) :=
  cl (fX4_found (-1000001) S) fun v1 S1 =>
  some (v1, S1)
theorem sX4_reach_L15 {r : Int32} {S9 : St}  {S : St} (h : fX4_reach_L15 S = some (r, S9)) : PW mX4_reach (some (.int r), S9) 15 [some (.ref 0), none, none] [] S := by
  unfold fX4_reach_L15 at h
  refine p_aload_n (k := 7) (i := 0) rfl rfl rfl ?_
  refine p_ldc (k := 8) rfl k_RX4_61 ?_
  obtain ⟨v1, S1, hcS1, h⟩ := cl_some h
  refine p_callV (k := 9) [.int (-1000001)] [] rfl (tX4_found hcS1) lay_X4 rfl lc_X4_found ml_RX4_62 mi_X4_found mv_X4_found (by decide) (by decide) (Nat.le_of_ble_eq_true rfl) rfl ?_
  exact s_iret h (k := 10) rfl rfl
def fX4_reach (a1 : Int32) (a2 : Int32) (S : St) : Option (Int32 × St) :=
  cl (fX4_isGoat a1 S) fun v1 S1 =>
  if v1 = 0 then
    fX4_reach_L15 S1
  else
    cl (fX4_isLedge a2 S1) fun v2 S2 =>
    if v2 = 0 then
      fX4_reach_L15 S2
    else
      cl (fX4_daysUntil 3 a1 a2 S2) fun v3 S3 =>
      some (v3, S3)
theorem sX4_reach {a1 : Int32} {a2 : Int32} {S : St} {r : Int32} {S9 : St} (h : fX4_reach a1 a2 S = some (r, S9)) : PW mX4_reach (some (.int r), S9) 0 [some (.ref 0), some (.int a1), some (.int a2)] [] S := by
  unfold fX4_reach at h
  refine p_aload_n (k := 0) (i := 0) rfl rfl rfl ?_
  refine p_iload_n (k := 1) (i := 1) rfl rfl rfl ?_
  obtain ⟨v1, S1, hcS1, h⟩ := cl_some h
  refine p_callV (k := 2) [.int a1] [] rfl (tX4_isGoat hcS1) lay_X4 rfl lc_X4_isGoat ml_RX4_94 mi_X4_isGoat mv_X4_isGoat (by decide) (by decide) (Nat.le_of_ble_eq_true rfl) rfl ?_
  refine p_if_eq (k := 3) 15 rfl (by decide) (fun hc => ?_) (fun hc => ?_)
  · rw [if_pos hc] at h
    refine p_msk [true, false, false] (L2 := [some (.ref 0), none, none]) rfl ?_
    exact sX4_reach_L15 h
  · rw [if_neg hc] at h
    refine p_iload_n (k := 4) (i := 2) rfl rfl rfl ?_
    obtain ⟨v2, S2, hcS2, h⟩ := cl_some h
    refine p_callS (k := 5) [.int a2] [] rfl (tX4_isLedge hcS2) lc_X4_isLedge ml_RX4_53 ms_X4_isLedge (by decide) (by decide) (Nat.le_of_ble_eq_true rfl) rfl ?_
    refine p_if_ne (k := 6) 22 rfl (by decide) (fun hc => ?_) (fun hc => ?_)
    · rw [if_neg hc] at h
      refine p_aload_n (k := 11) (i := 0) rfl rfl rfl ?_
      refine p_iconst (k := 12) 3 rfl (by decide) ?_
      refine p_iload_n (k := 13) (i := 1) rfl rfl rfl ?_
      refine p_iload_n (k := 14) (i := 2) rfl rfl rfl ?_
      obtain ⟨v3, S3, hcS3, h⟩ := cl_some h
      refine p_callV (k := 15) [.int 3, .int a1, .int a2] [] rfl (tX4_daysUntil hcS3) lay_X4 rfl lc_X4_daysUntil ml_RX4_176 mi_X4_daysUntil mv_X4_daysUntil (by decide) (by decide) (Nat.le_of_ble_eq_true rfl) rfl ?_
      exact s_iret h (k := 16) rfl rfl
    · rw [if_pos hc] at h
      refine p_msk [true, false, false] (L2 := [some (.ref 0), none, none]) rfl ?_
      exact sX4_reach_L15 h
theorem tX4_reach {a1 : Int32} {a2 : Int32} {S : St} {r : Int32} {S9 : St} (h : fX4_reach a1 a2 S = some (r, S9)) : MR yX4_reach cX4_reach mX4_reach [.ref 0, .int a1, .int a2] S (some (.int r), S9) := MR.of (n := 0) okX4_reach rfl rfl (sX4_reach h)
-- bestTrait(IIII)I
def fX4_bestTrait_L75 (k9 : Int32 → Int32 → Int32 → Int32 → Int32 → Int32 → Int32 → St → Option (Int32 × St)) (x1 : Int32) (x2 : Int32) (x3 : Int32) (x4 : Int32) (x5 : Int32) (x6 : Int32) (x7 : Int32) (S : St) : Option (Int32 × St) :=
  bnd (x7 + 1) fun v1 =>
  k9 x1 x2 x3 x4 x5 x6 v1 S
theorem sX4_bestTrait_L75 {r : Int32} {S9 : St} {k9 : Int32 → Int32 → Int32 → Int32 → Int32 → Int32 → Int32 → St → Option (Int32 × St)} (hk9 : ∀ x1 x2 x3 x4 x5 x6 x7 S, k9 x1 x2 x3 x4 x5 x6 x7 S = some (r, S9) → PW mX4_bestTrait (some (.int r), S9) 9 [some (.ref 0), some (.int x1), some (.int x2), some (.int x3), some (.int x4), some (.int x5), some (.int x6), some (.int x7), none] [] S) {x1 : Int32} {x2 : Int32} {x3 : Int32} {x4 : Int32} {x5 : Int32} {x6 : Int32} {x7 : Int32} {S : St} (h : fX4_bestTrait_L75 k9 x1 x2 x3 x4 x5 x6 x7 S = some (r, S9)) : PW mX4_bestTrait (some (.int r), S9) 75 [some (.ref 0), some (.int x1), some (.int x2), some (.int x3), some (.int x4), some (.int x5), some (.int x6), some (.int x7), none] [] S := by
  unfold fX4_bestTrait_L75 at h
  obtain ⟨v1, ev1, h⟩ := bnd_ex h
  refine p_iinc (k := 38) v1 [some (.ref 0), some (.int x1), some (.int x2), some (.int x3), some (.int x4), some (.int x5), some (.int x6), some (.int v1), none] rfl rfl (by rw [← ev1]; rfl) rfl (by decide) rfl ?_
  refine p_goto (k := 39) 9 rfl (by decide) ?_
  refine p_msk [true, true, true, true, true, true, true, true, false] (L2 := [some (.ref 0), some (.int x1), some (.int x2), some (.int x3), some (.int x4), some (.int x5), some (.int x6), some (.int v1), none]) rfl ?_
  exact hk9 _ _ _ _ _ _ _ _ h
def fX4_bestTrait_L9 : Nat → Int32 → Int32 → Int32 → Int32 → Int32 → Int32 → Int32 → St → Option (Int32 × St)
  | 0 => fun _ _ _ _ _ _ _ _ => none
  | n + 1 => fun x1 x2 x3 x4 x5 x6 x7 S =>
    if x3 ≤ x7 then
      some (x5, S)
    else
      cl (fX0_become 10 1 S) fun _ S1 =>
      cl (fX0_setTrait 10 x1 x2 x7 S1) fun _ S2 =>
      cl (fX0_passDays 10 x4 S2) fun _ S3 =>
      rd S3 (10 + 4) 8 x1 fun v1 =>
      cl (fJ6_bitCount_0f7a4 v1 S3) fun v2 S4 =>
      if v2 ≤ x6 then
        fX4_bestTrait_L75 (fun x1 x2 x3 x4 x5 x6 x7 S => fX4_bestTrait_L9 n x1 x2 x3 x4 x5 x6 x7 S) x1 x2 x3 x4 x5 x6 x7 S4
      else
        fX4_bestTrait_L75 (fun x1 x2 x3 x4 x5 x6 x7 S => fX4_bestTrait_L9 n x1 x2 x3 x4 x5 x6 x7 S) x1 x2 x3 x4 x7 v2 x7 S4
theorem sX4_bestTrait_L9 {r : Int32} {S9 : St} : ∀ (n : Nat) (x1 : Int32) (x2 : Int32) (x3 : Int32) (x4 : Int32) (x5 : Int32) (x6 : Int32) (x7 : Int32) (S : St), fX4_bestTrait_L9 n x1 x2 x3 x4 x5 x6 x7 S = some (r, S9) → PW mX4_bestTrait (some (.int r), S9) 9 [some (.ref 0), some (.int x1), some (.int x2), some (.int x3), some (.int x4), some (.int x5), some (.int x6), some (.int x7), none] [] S := by
  intro n
  induction n with
  | zero => intro x1 x2 x3 x4 x5 x6 x7 S h; cases h
  | succ n ih =>
    intro x1 x2 x3 x4 x5 x6 x7 S h
    unfold fX4_bestTrait_L9 at h
    refine p_iload (k := 6) rfl rfl ?_
    refine p_iload_n (k := 7) (i := 3) rfl rfl rfl ?_
    refine p_icmp_ge (k := 8) 81 rfl (by decide) (fun hc => ?_) (fun hc => ?_)
    · rw [if_pos hc] at h
      refine p_iload (k := 40) rfl rfl ?_
      exact s_iret h (k := 41) rfl rfl
    · rw [if_neg hc] at h
      refine p_aload_n (k := 9) (i := 0) rfl rfl rfl ?_
      refine p_getr (k := 10) rfl lay_X4 rfl fl_RX4_16 ?_
      refine p_aload_n (k := 11) (i := 0) rfl rfl rfl ?_
      refine p_getr (k := 12) rfl lay_X4 rfl fl_RX4_12 ?_
      obtain ⟨_, S1, hcS1, h⟩ := cl_some h
      refine p_callV (k := 13) [.ref 1] [] rfl (tX0_become isC_10 isC_1 hcS1) (lay_c isC_10) rfl lc_X0_become ml_RX4_172 mi_X0_become mv_X0_become (by decide) (by decide) (Nat.le_of_ble_eq_true rfl) rfl ?_
      refine p_aload_n (k := 14) (i := 0) rfl rfl rfl ?_
      refine p_getr (k := 15) rfl lay_X4 rfl fl_RX4_16 ?_
      refine p_iload_n (k := 16) (i := 1) rfl rfl rfl ?_
      refine p_iload_n (k := 17) (i := 2) rfl rfl rfl ?_
      refine p_iload (k := 18) rfl rfl ?_
      obtain ⟨_, S2, hcS2, h⟩ := cl_some h
      refine p_callV (k := 19) [.int x1, .int x2, .int x7] [] rfl (tX0_setTrait isC_10 hcS2) (lay_c isC_10) rfl lc_X0_setTrait ml_RX4_115 mi_X0_setTrait mv_X0_setTrait (by decide) (by decide) (Nat.le_of_ble_eq_true rfl) rfl ?_
      refine p_aload_n (k := 20) (i := 0) rfl rfl rfl ?_
      refine p_getr (k := 21) rfl lay_X4 rfl fl_RX4_16 ?_
      refine p_iload (k := 22) rfl rfl ?_
      obtain ⟨_, S3, hcS3, h⟩ := cl_some h
      refine p_callV (k := 23) [.int x4] [] rfl (tX0_passDays isC_10 hcS3) (lay_c isC_10) rfl lc_X0_passDays ml_RX4_148 mi_X0_passDays mv_X0_passDays (by decide) (by decide) (Nat.le_of_ble_eq_true rfl) rfl ?_
      refine p_aload_n (k := 24) (i := 0) rfl rfl rfl ?_
      refine p_getr (k := 25) rfl lay_X4 rfl fl_RX4_16 ?_
      refine p_getr (k := 26) rfl (lay_c isC_10) rfl fl_RX4_119 ?_
      refine p_iload_n (k := 27) (i := 1) rfl rfl rfl ?_
      refine s_rd h (k := 28) rfl (lay_c3 isC_10) (fun v1 h => ?_)
      obtain ⟨v2, S4, hcS4, h⟩ := cl_some h
      refine p_callS (k := 29) [.int v1] [] rfl (tJ6_bitCount_0f7a4 hcS4) lc_J6_bitCount_0f7a4 ml_RX4_190 ms_J6_bitCount_0f7a4 (by decide) (by decide) (Nat.le_of_ble_eq_true rfl) rfl ?_
      refine p_istore (k := 30) [some (.ref 0), some (.int x1), some (.int x2), some (.int x3), some (.int x4), some (.int x5), some (.int x6), some (.int x7), some (.int v2)] rfl rfl (by decide) rfl ?_
      refine p_iload (k := 31) rfl rfl ?_
      refine p_iload (k := 32) rfl rfl ?_
      refine p_icmp_le (k := 33) 75 rfl (by decide) (fun hc => ?_) (fun hc => ?_)
      · rw [if_pos hc] at h
        refine p_msk [true, true, true, true, true, true, true, true, false] (L2 := [some (.ref 0), some (.int x1), some (.int x2), some (.int x3), some (.int x4), some (.int x5), some (.int x6), some (.int x7), none]) rfl ?_
        exact sX4_bestTrait_L75 ih h
      · rw [if_neg hc] at h
        refine p_iload (k := 34) rfl rfl ?_
        refine p_istore (k := 35) [some (.ref 0), some (.int x1), some (.int x2), some (.int x3), some (.int x4), some (.int x5), some (.int v2), some (.int x7), some (.int v2)] rfl rfl (by decide) rfl ?_
        refine p_iload (k := 36) rfl rfl ?_
        refine p_istore (k := 37) [some (.ref 0), some (.int x1), some (.int x2), some (.int x3), some (.int x4), some (.int x7), some (.int v2), some (.int x7), some (.int v2)] rfl rfl (by decide) rfl ?_
        refine p_msk [true, true, true, true, true, true, true, true, false] (L2 := [some (.ref 0), some (.int x1), some (.int x2), some (.int x3), some (.int x4), some (.int x7), some (.int v2), some (.int x7), none]) rfl ?_
        exact sX4_bestTrait_L75 ih h
def fX4_bestTrait (a1 : Int32) (a2 : Int32) (a3 : Int32) (a4 : Int32) (S : St) : Option (Int32 × St) :=
  fX4_bestTrait_L9 FU a1 a2 a3 a4 0 (-1) 0 S
theorem sX4_bestTrait {a1 : Int32} {a2 : Int32} {a3 : Int32} {a4 : Int32} {S : St} {r : Int32} {S9 : St} (h : fX4_bestTrait a1 a2 a3 a4 S = some (r, S9)) : PW mX4_bestTrait (some (.int r), S9) 0 [some (.ref 0), some (.int a1), some (.int a2), some (.int a3), some (.int a4), none, none, none, none] [] S := by
  unfold fX4_bestTrait at h
  refine p_iconst (k := 0) 0 rfl (by decide) ?_
  refine p_istore (k := 1) [some (.ref 0), some (.int a1), some (.int a2), some (.int a3), some (.int a4), some (.int 0), none, none, none] rfl rfl (by decide) rfl ?_
  refine p_iconst (k := 2) (-1) rfl (by decide) ?_
  refine p_istore (k := 3) [some (.ref 0), some (.int a1), some (.int a2), some (.int a3), some (.int a4), some (.int 0), some (.int (-1)), none, none] rfl rfl (by decide) rfl ?_
  refine p_iconst (k := 4) 0 rfl (by decide) ?_
  refine p_istore (k := 5) [some (.ref 0), some (.int a1), some (.int a2), some (.int a3), some (.int a4), some (.int 0), some (.int (-1)), some (.int 0), none] rfl rfl (by decide) rfl ?_
  refine p_msk [true, true, true, true, true, true, true, true, false] (L2 := [some (.ref 0), some (.int a1), some (.int a2), some (.int a3), some (.int a4), some (.int 0), some (.int (-1)), some (.int 0), none]) rfl ?_
  exact sX4_bestTrait_L9 _ _ _ _ _ _ _ _ _ h
theorem tX4_bestTrait {a1 : Int32} {a2 : Int32} {a3 : Int32} {a4 : Int32} {S : St} {r : Int32} {S9 : St} (h : fX4_bestTrait a1 a2 a3 a4 S = some (r, S9)) : MR yX4_bestTrait cX4_bestTrait mX4_bestTrait [.ref 0, .int a1, .int a2, .int a3, .int a4] S (some (.int r), S9) := MR.of (n := 4) okX4_bestTrait rfl rfl (sX4_bestTrait h)
-- put(II)I
def fX4_put_L17 (S : St) : Option (Int32 × St) :=
  cl (fX4_found (-1000001) S) fun v1 S1 =>
  some (v1, S1)
theorem sX4_put_L17 {r : Int32} {S9 : St}  {S : St} (h : fX4_put_L17 S = some (r, S9)) : PW mX4_put (some (.int r), S9) 17 [some (.ref 0), none, none] [] S := by
  unfold fX4_put_L17 at h
  refine p_aload_n (k := 8) (i := 0) rfl rfl rfl ?_
  refine p_ldc (k := 9) rfl k_RX4_61 ?_
  obtain ⟨v1, S1, hcS1, h⟩ := cl_some h
  refine p_callV (k := 10) [.int (-1000001)] [] rfl (tX4_found hcS1) lay_X4 rfl lc_X4_found ml_RX4_62 mi_X4_found mv_X4_found (by decide) (by decide) (Nat.le_of_ble_eq_true rfl) rfl ?_
  exact s_iret h (k := 11) rfl rfl
def fX4_put (a1 : Int32) (a2 : Int32) (S : St) : Option (Int32 × St) :=
  cl (fX4_isGoat a1 S) fun v1 S1 =>
  if v1 = 0 then
    fX4_put_L17 S1
  else
    cl (fX4_isWithin a2 40 S1) fun v2 S2 =>
    if v2 = 0 then
      fX4_put_L17 S2
    else
      cl (fX4_bestTrait a1 1 12 a2 S2) fun v3 S3 =>
      some (v3, S3)
theorem sX4_put {a1 : Int32} {a2 : Int32} {S : St} {r : Int32} {S9 : St} (h : fX4_put a1 a2 S = some (r, S9)) : PW mX4_put (some (.int r), S9) 0 [some (.ref 0), some (.int a1), some (.int a2)] [] S := by
  unfold fX4_put at h
  refine p_aload_n (k := 0) (i := 0) rfl rfl rfl ?_
  refine p_iload_n (k := 1) (i := 1) rfl rfl rfl ?_
  obtain ⟨v1, S1, hcS1, h⟩ := cl_some h
  refine p_callV (k := 2) [.int a1] [] rfl (tX4_isGoat hcS1) lay_X4 rfl lc_X4_isGoat ml_RX4_94 mi_X4_isGoat mv_X4_isGoat (by decide) (by decide) (Nat.le_of_ble_eq_true rfl) rfl ?_
  refine p_if_eq (k := 3) 17 rfl (by decide) (fun hc => ?_) (fun hc => ?_)
  · rw [if_pos hc] at h
    refine p_msk [true, false, false] (L2 := [some (.ref 0), none, none]) rfl ?_
    exact sX4_put_L17 h
  · rw [if_neg hc] at h
    refine p_iload_n (k := 4) (i := 2) rfl rfl rfl ?_
    refine p_bipush (k := 5) 40 rfl (by decide) ?_
    obtain ⟨v2, S2, hcS2, h⟩ := cl_some h
    refine p_callS (k := 6) [.int a2, .int 40] [] rfl (tX4_isWithin hcS2) lc_X4_isWithin ml_RX4_57 ms_X4_isWithin (by decide) (by decide) (Nat.le_of_ble_eq_true rfl) rfl ?_
    refine p_if_ne (k := 7) 24 rfl (by decide) (fun hc => ?_) (fun hc => ?_)
    · rw [if_neg hc] at h
      refine p_aload_n (k := 12) (i := 0) rfl rfl rfl ?_
      refine p_iload_n (k := 13) (i := 1) rfl rfl rfl ?_
      refine p_iconst (k := 14) 1 rfl (by decide) ?_
      refine p_bipush (k := 15) 12 rfl (by decide) ?_
      refine p_iload_n (k := 16) (i := 2) rfl rfl rfl ?_
      obtain ⟨v3, S3, hcS3, h⟩ := cl_some h
      refine p_callV (k := 17) [.int a1, .int 1, .int 12, .int a2] [] rfl (tX4_bestTrait hcS3) lay_X4 rfl lc_X4_bestTrait ml_RX4_180 mi_X4_bestTrait mv_X4_bestTrait (by decide) (by decide) (Nat.le_of_ble_eq_true rfl) rfl ?_
      exact s_iret h (k := 18) rfl rfl
    · rw [if_pos hc] at h
      refine p_msk [true, false, false] (L2 := [some (.ref 0), none, none]) rfl ?_
      exact sX4_put_L17 h
theorem tX4_put {a1 : Int32} {a2 : Int32} {S : St} {r : Int32} {S9 : St} (h : fX4_put a1 a2 S = some (r, S9)) : MR yX4_put cX4_put mX4_put [.ref 0, .int a1, .int a2] S (some (.int r), S9) := MR.of (n := 0) okX4_put rfl rfl (sX4_put h)
-- kindFor(II)I
def fX4_kindFor_L17 (S : St) : Option (Int32 × St) :=
  cl (fX4_found (-1000001) S) fun v1 S1 =>
  some (v1, S1)
theorem sX4_kindFor_L17 {r : Int32} {S9 : St}  {S : St} (h : fX4_kindFor_L17 S = some (r, S9)) : PW mX4_kindFor (some (.int r), S9) 17 [some (.ref 0), none, none] [] S := by
  unfold fX4_kindFor_L17 at h
  refine p_aload_n (k := 8) (i := 0) rfl rfl rfl ?_
  refine p_ldc (k := 9) rfl k_RX4_61 ?_
  obtain ⟨v1, S1, hcS1, h⟩ := cl_some h
  refine p_callV (k := 10) [.int (-1000001)] [] rfl (tX4_found hcS1) lay_X4 rfl lc_X4_found ml_RX4_62 mi_X4_found mv_X4_found (by decide) (by decide) (Nat.le_of_ble_eq_true rfl) rfl ?_
  exact s_iret h (k := 11) rfl rfl
def fX4_kindFor (a1 : Int32) (a2 : Int32) (S : St) : Option (Int32 × St) :=
  cl (fX4_isGoat a1 S) fun v1 S1 =>
  if v1 = 0 then
    fX4_kindFor_L17 S1
  else
    cl (fX4_isWithin a2 40 S1) fun v2 S2 =>
    if v2 = 0 then
      fX4_kindFor_L17 S2
    else
      cl (fX4_bestTrait a1 0 7 a2 S2) fun v3 S3 =>
      some (v3, S3)
theorem sX4_kindFor {a1 : Int32} {a2 : Int32} {S : St} {r : Int32} {S9 : St} (h : fX4_kindFor a1 a2 S = some (r, S9)) : PW mX4_kindFor (some (.int r), S9) 0 [some (.ref 0), some (.int a1), some (.int a2)] [] S := by
  unfold fX4_kindFor at h
  refine p_aload_n (k := 0) (i := 0) rfl rfl rfl ?_
  refine p_iload_n (k := 1) (i := 1) rfl rfl rfl ?_
  obtain ⟨v1, S1, hcS1, h⟩ := cl_some h
  refine p_callV (k := 2) [.int a1] [] rfl (tX4_isGoat hcS1) lay_X4 rfl lc_X4_isGoat ml_RX4_94 mi_X4_isGoat mv_X4_isGoat (by decide) (by decide) (Nat.le_of_ble_eq_true rfl) rfl ?_
  refine p_if_eq (k := 3) 17 rfl (by decide) (fun hc => ?_) (fun hc => ?_)
  · rw [if_pos hc] at h
    refine p_msk [true, false, false] (L2 := [some (.ref 0), none, none]) rfl ?_
    exact sX4_kindFor_L17 h
  · rw [if_neg hc] at h
    refine p_iload_n (k := 4) (i := 2) rfl rfl rfl ?_
    refine p_bipush (k := 5) 40 rfl (by decide) ?_
    obtain ⟨v2, S2, hcS2, h⟩ := cl_some h
    refine p_callS (k := 6) [.int a2, .int 40] [] rfl (tX4_isWithin hcS2) lc_X4_isWithin ml_RX4_57 ms_X4_isWithin (by decide) (by decide) (Nat.le_of_ble_eq_true rfl) rfl ?_
    refine p_if_ne (k := 7) 24 rfl (by decide) (fun hc => ?_) (fun hc => ?_)
    · rw [if_neg hc] at h
      refine p_aload_n (k := 12) (i := 0) rfl rfl rfl ?_
      refine p_iload_n (k := 13) (i := 1) rfl rfl rfl ?_
      refine p_iconst (k := 14) 0 rfl (by decide) ?_
      refine p_bipush (k := 15) 7 rfl (by decide) ?_
      refine p_iload_n (k := 16) (i := 2) rfl rfl rfl ?_
      obtain ⟨v3, S3, hcS3, h⟩ := cl_some h
      refine p_callV (k := 17) [.int a1, .int 0, .int 7, .int a2] [] rfl (tX4_bestTrait hcS3) lay_X4 rfl lc_X4_bestTrait ml_RX4_180 mi_X4_bestTrait mv_X4_bestTrait (by decide) (by decide) (Nat.le_of_ble_eq_true rfl) rfl ?_
      exact s_iret h (k := 18) rfl rfl
    · rw [if_pos hc] at h
      refine p_msk [true, false, false] (L2 := [some (.ref 0), none, none]) rfl ?_
      exact sX4_kindFor_L17 h
theorem tX4_kindFor {a1 : Int32} {a2 : Int32} {S : St} {r : Int32} {S9 : St} (h : fX4_kindFor a1 a2 S = some (r, S9)) : MR yX4_kindFor cX4_kindFor mX4_kindFor [.ref 0, .int a1, .int a2] S (some (.int r), S9) := MR.of (n := 0) okX4_kindFor rfl rfl (sX4_kindFor h)
-- growsFor(II)I
def fX4_growsFor_L16 (S : St) : Option (Int32 × St) :=
  cl (fX4_found (-1000001) S) fun v1 S1 =>
  some (v1, S1)
theorem sX4_growsFor_L16 {r : Int32} {S9 : St}  {S : St} (h : fX4_growsFor_L16 S = some (r, S9)) : PW mX4_growsFor (some (.int r), S9) 16 [some (.ref 0), none, none, none] [] S := by
  unfold fX4_growsFor_L16 at h
  refine p_aload_n (k := 7) (i := 0) rfl rfl rfl ?_
  refine p_ldc (k := 8) rfl k_RX4_61 ?_
  obtain ⟨v1, S1, hcS1, h⟩ := cl_some h
  refine p_callV (k := 9) [.int (-1000001)] [] rfl (tX4_found hcS1) lay_X4 rfl lc_X4_found ml_RX4_62 mi_X4_found mv_X4_found (by decide) (by decide) (Nat.le_of_ble_eq_true rfl) rfl ?_
  exact s_iret h (k := 10) rfl rfl
def fX4_growsFor_L25 : Nat → Int32 → Int32 → Int32 → St → Option (Int32 × St)
  | 0 => fun _ _ _ _ => none
  | n + 1 => fun x1 x2 x3 S =>
    if 20 < x3 then
      cl (fX4_found (-1000004) S) fun v1 S1 =>
      some (v1, S1)
    else
      cl (fX0_become 10 1 S) fun _ S2 =>
      bnd (up2 S2 10 10 x3) fun S3 =>
      cl (fX0_passDays 10 x2 S3) fun _ S4 =>
      cl (fX0_isInPrint 10 x1 S4) fun v2 S5 =>
      if v2 = 0 then
        bnd (x3 + 1) fun v3 =>
        fX4_growsFor_L25 n x1 x2 v3 S5
      else
        some (x3, S5)
theorem sX4_growsFor_L25 {r : Int32} {S9 : St} : ∀ (n : Nat) (x1 : Int32) (x2 : Int32) (x3 : Int32) (S : St), fX4_growsFor_L25 n x1 x2 x3 S = some (r, S9) → PW mX4_growsFor (some (.int r), S9) 25 [some (.ref 0), some (.int x1), some (.int x2), some (.int x3)] [] S := by
  intro n
  induction n with
  | zero => intro x1 x2 x3 S h; cases h
  | succ n ih =>
    intro x1 x2 x3 S h
    unfold fX4_growsFor_L25 at h
    refine p_iload_n (k := 13) (i := 3) rfl rfl rfl ?_
    refine p_bipush (k := 14) 20 rfl (by decide) ?_
    refine p_icmp_gt (k := 15) 77 rfl (by decide) (fun hc => ?_) (fun hc => ?_)
    · rw [if_pos hc] at h
      refine p_aload_n (k := 38) (i := 0) rfl rfl rfl ?_
      refine p_ldc (k := 39) rfl k_RX4_134 ?_
      obtain ⟨v1, S1, hcS1, h⟩ := cl_some h
      refine p_callV (k := 40) [.int (-1000004)] [] rfl (tX4_found hcS1) lay_X4 rfl lc_X4_found ml_RX4_62 mi_X4_found mv_X4_found (by decide) (by decide) (Nat.le_of_ble_eq_true rfl) rfl ?_
      exact s_iret h (k := 41) rfl rfl
    · rw [if_neg hc] at h
      refine p_aload_n (k := 16) (i := 0) rfl rfl rfl ?_
      refine p_getr (k := 17) rfl lay_X4 rfl fl_RX4_16 ?_
      refine p_aload_n (k := 18) (i := 0) rfl rfl rfl ?_
      refine p_getr (k := 19) rfl lay_X4 rfl fl_RX4_12 ?_
      obtain ⟨_, S2, hcS2, h⟩ := cl_some h
      refine p_callV (k := 20) [.ref 1] [] rfl (tX0_become isC_10 isC_1 hcS2) (lay_c isC_10) rfl lc_X0_become ml_RX4_172 mi_X0_become mv_X0_become (by decide) (by decide) (Nat.le_of_ble_eq_true rfl) rfl ?_
      refine p_aload_n (k := 21) (i := 0) rfl rfl rfl ?_
      refine p_getr (k := 22) rfl lay_X4 rfl fl_RX4_16 ?_
      refine p_iload_n (k := 23) (i := 3) rfl rfl rfl ?_
      refine s_put h (k := 24) rfl (lay_c isC_10) rfl fl_RX4_75 fp_0_10 rfl rfl (fun S3 h => ?_)
      refine p_aload_n (k := 25) (i := 0) rfl rfl rfl ?_
      refine p_getr (k := 26) rfl lay_X4 rfl fl_RX4_16 ?_
      refine p_iload_n (k := 27) (i := 2) rfl rfl rfl ?_
      obtain ⟨_, S4, hcS4, h⟩ := cl_some h
      refine p_callV (k := 28) [.int x2] [] rfl (tX0_passDays isC_10 hcS4) (lay_c isC_10) rfl lc_X0_passDays ml_RX4_148 mi_X0_passDays mv_X0_passDays (by decide) (by decide) (Nat.le_of_ble_eq_true rfl) rfl ?_
      refine p_aload_n (k := 29) (i := 0) rfl rfl rfl ?_
      refine p_getr (k := 30) rfl lay_X4 rfl fl_RX4_16 ?_
      refine p_iload_n (k := 31) (i := 1) rfl rfl rfl ?_
      obtain ⟨v2, S5, hcS5, h⟩ := cl_some h
      refine p_callV (k := 32) [.int x1] [] rfl (tX0_isInPrint isC_10 hcS5) (lay_c isC_10) rfl lc_X0_isInPrint ml_RX4_184 mi_X0_isInPrint mv_X0_isInPrint (by decide) (by decide) (Nat.le_of_ble_eq_true rfl) rfl ?_
      refine p_if_eq (k := 33) 71 rfl (by decide) (fun hc => ?_) (fun hc => ?_)
      · rw [if_pos hc] at h
        obtain ⟨v3, ev3, h⟩ := bnd_ex h
        refine p_iinc (k := 36) v3 [some (.ref 0), some (.int x1), some (.int x2), some (.int v3)] rfl rfl (by rw [← ev3]; rfl) rfl (by decide) rfl ?_
        refine p_goto (k := 37) 25 rfl (by decide) ?_
        refine p_msk [true, true, true, true] (L2 := [some (.ref 0), some (.int x1), some (.int x2), some (.int v3)]) rfl ?_
        exact ih _ _ _ _ h
      · rw [if_neg hc] at h
        refine p_iload_n (k := 34) (i := 3) rfl rfl rfl ?_
        exact s_iret h (k := 35) rfl rfl
def fX4_growsFor (a1 : Int32) (a2 : Int32) (S : St) : Option (Int32 × St) :=
  cl (fX4_isPage a1 S) fun v1 S1 =>
  if v1 = 0 then
    fX4_growsFor_L16 S1
  else
    cl (fX4_isWithin a2 40 S1) fun v2 S2 =>
    if v2 = 0 then
      fX4_growsFor_L16 S2
    else
      fX4_growsFor_L25 FU a1 a2 0 S2
theorem sX4_growsFor {a1 : Int32} {a2 : Int32} {S : St} {r : Int32} {S9 : St} (h : fX4_growsFor a1 a2 S = some (r, S9)) : PW mX4_growsFor (some (.int r), S9) 0 [some (.ref 0), some (.int a1), some (.int a2), none] [] S := by
  unfold fX4_growsFor at h
  refine p_iload_n (k := 0) (i := 1) rfl rfl rfl ?_
  obtain ⟨v1, S1, hcS1, h⟩ := cl_some h
  refine p_callS (k := 1) [.int a1] [] rfl (tX4_isPage hcS1) lc_X4_isPage ml_RX4_128 ms_X4_isPage (by decide) (by decide) (Nat.le_of_ble_eq_true rfl) rfl ?_
  refine p_if_eq (k := 2) 16 rfl (by decide) (fun hc => ?_) (fun hc => ?_)
  · rw [if_pos hc] at h
    refine p_msk [true, false, false, false] (L2 := [some (.ref 0), none, none, none]) rfl ?_
    exact sX4_growsFor_L16 h
  · rw [if_neg hc] at h
    refine p_iload_n (k := 3) (i := 2) rfl rfl rfl ?_
    refine p_bipush (k := 4) 40 rfl (by decide) ?_
    obtain ⟨v2, S2, hcS2, h⟩ := cl_some h
    refine p_callS (k := 5) [.int a2, .int 40] [] rfl (tX4_isWithin hcS2) lc_X4_isWithin ml_RX4_57 ms_X4_isWithin (by decide) (by decide) (Nat.le_of_ble_eq_true rfl) rfl ?_
    refine p_if_ne (k := 6) 23 rfl (by decide) (fun hc => ?_) (fun hc => ?_)
    · rw [if_neg hc] at h
      refine p_iconst (k := 11) 0 rfl (by decide) ?_
      refine p_istore_n (k := 12) 3 [some (.ref 0), some (.int a1), some (.int a2), some (.int 0)] rfl rfl rfl (by decide) rfl ?_
      refine p_msk [true, true, true, true] (L2 := [some (.ref 0), some (.int a1), some (.int a2), some (.int 0)]) rfl ?_
      exact sX4_growsFor_L25 _ _ _ _ _ h
    · rw [if_pos hc] at h
      refine p_msk [true, false, false, false] (L2 := [some (.ref 0), none, none, none]) rfl ?_
      exact sX4_growsFor_L16 h
theorem tX4_growsFor {a1 : Int32} {a2 : Int32} {S : St} {r : Int32} {S9 : St} (h : fX4_growsFor a1 a2 S = some (r, S9)) : MR yX4_growsFor cX4_growsFor mX4_growsFor [.ref 0, .int a1, .int a2] S (some (.int r), S9) := MR.of (n := 1) okX4_growsFor rfl rfl (sX4_growsFor h)
-- cover(I)I
def fX4_cover_L84 (k31 : Int32 → Int32 → Int32 → Int32 → St → Option (Int32 × St)) (x1 : Int32) (x2 : Int32) (x3 : Int32) (x4 : Int32) (S : St) : Option (Int32 × St) :=
  bnd (x4 + 1) fun v1 =>
  k31 x1 x2 x3 v1 S
theorem sX4_cover_L84 {r : Int32} {S9 : St} {k31 : Int32 → Int32 → Int32 → Int32 → St → Option (Int32 × St)} (hk31 : ∀ x1 x2 x3 x4 S, k31 x1 x2 x3 x4 S = some (r, S9) → PW mX4_cover (some (.int r), S9) 31 [some (.ref 0), some (.int x1), some (.int x2), some (.int x3), some (.int x4), none] [] S) {x1 : Int32} {x2 : Int32} {x3 : Int32} {x4 : Int32} {S : St} (h : fX4_cover_L84 k31 x1 x2 x3 x4 S = some (r, S9)) : PW mX4_cover (some (.int r), S9) 84 [some (.ref 0), some (.int x1), some (.int x2), some (.int x3), some (.int x4), none] [] S := by
  unfold fX4_cover_L84 at h
  obtain ⟨v1, ev1, h⟩ := bnd_ex h
  refine p_iinc (k := 45) v1 [some (.ref 0), some (.int x1), some (.int x2), some (.int x3), some (.int v1), none] rfl rfl (by rw [← ev1]; rfl) rfl (by decide) rfl ?_
  refine p_goto (k := 46) 31 rfl (by decide) ?_
  refine p_msk [true, true, true, true, true, false] (L2 := [some (.ref 0), some (.int x1), some (.int x2), some (.int x3), some (.int v1), none]) rfl ?_
  exact hk31 _ _ _ _ _ h
def fX4_cover_L58 (k31 : Int32 → Int32 → Int32 → Int32 → St → Option (Int32 × St)) (x1 : Int32) (x2 : Int32) (x3 : Int32) (x4 : Int32) (y0 : Int32) (S : St) : Option (Int32 × St) :=
  if y0 = 0 then
    fX4_cover_L84 k31 x1 x2 x3 x4 S
  else
    cl (fX0_pagesOf 1 x4 S) fun v1 S1 =>
    if (x1 &&& (v1 ^^^ (-1))) = 0 then
      fX4_cover_L84 k31 x1 x4 x3 x4 S1
    else
      fX4_cover_L84 k31 x1 x2 x3 x4 S1
theorem sX4_cover_L58 {r : Int32} {S9 : St} {k31 : Int32 → Int32 → Int32 → Int32 → St → Option (Int32 × St)} (hk31 : ∀ x1 x2 x3 x4 S, k31 x1 x2 x3 x4 S = some (r, S9) → PW mX4_cover (some (.int r), S9) 31 [some (.ref 0), some (.int x1), some (.int x2), some (.int x3), some (.int x4), none] [] S) {x1 : Int32} {x2 : Int32} {x3 : Int32} {x4 : Int32} {y0 : Int32} {S : St} (h : fX4_cover_L58 k31 x1 x2 x3 x4 y0 S = some (r, S9)) : PW mX4_cover (some (.int r), S9) 58 [some (.ref 0), some (.int x1), some (.int x2), some (.int x3), some (.int x4), none] [.int y0] S := by
  unfold fX4_cover_L58 at h
  refine p_istore (k := 31) [some (.ref 0), some (.int x1), some (.int x2), some (.int x3), some (.int x4), some (.int y0)] rfl rfl (by decide) rfl ?_
  refine p_iload (k := 32) rfl rfl ?_
  refine p_if_eq (k := 33) 84 rfl (by decide) (fun hc => ?_) (fun hc => ?_)
  · rw [if_pos hc] at h
    refine p_msk [true, true, true, true, true, false] (L2 := [some (.ref 0), some (.int x1), some (.int x2), some (.int x3), some (.int x4), none]) rfl ?_
    exact sX4_cover_L84 hk31 h
  · rw [if_neg hc] at h
    refine p_iload_n (k := 34) (i := 1) rfl rfl rfl ?_
    refine p_aload_n (k := 35) (i := 0) rfl rfl rfl ?_
    refine p_getr (k := 36) rfl lay_X4 rfl fl_RX4_12 ?_
    refine p_iload (k := 37) rfl rfl ?_
    obtain ⟨v1, S1, hcS1, h⟩ := cl_some h
    refine p_callV (k := 38) [.int x4] [.int x1] rfl (tX0_pagesOf isC_1 hcS1) (lay_c isC_1) rfl lc_X0_pagesOf ml_RX4_195 mi_X0_pagesOf mv_X0_pagesOf (by decide) (by decide) (Nat.le_of_ble_eq_true rfl) rfl ?_
    refine p_iconst (k := 39) (-1) rfl (by decide) ?_
    refine p_ixor (k := 40) rfl ?_
    refine p_iand (k := 41) rfl ?_
    refine p_if_ne (k := 42) 84 rfl (by decide) (fun hc => ?_) (fun hc => ?_)
    · rw [if_neg hc] at h
      refine p_msk [true, true, true, true, true, false] (L2 := [some (.ref 0), some (.int x1), some (.int x2), some (.int x3), some (.int x4), none]) rfl ?_
      exact sX4_cover_L84 hk31 h
    · rw [if_pos hc] at h
      refine p_iload (k := 43) rfl rfl ?_
      refine p_istore_n (k := 44) 2 [some (.ref 0), some (.int x1), some (.int x4), some (.int x3), some (.int x4), some (.int y0)] rfl rfl rfl (by decide) rfl ?_
      refine p_msk [true, true, true, true, true, false] (L2 := [some (.ref 0), some (.int x1), some (.int x4), some (.int x3), some (.int x4), none]) rfl ?_
      exact sX4_cover_L84 hk31 h
def fX4_cover_L53 (k31 : Int32 → Int32 → Int32 → Int32 → St → Option (Int32 × St)) (x1 : Int32) (x2 : Int32) (x3 : Int32) (x4 : Int32) (S : St) : Option (Int32 × St) :=
  fX4_cover_L58 k31 x1 x2 x3 x4 1 S
theorem sX4_cover_L53 {r : Int32} {S9 : St} {k31 : Int32 → Int32 → Int32 → Int32 → St → Option (Int32 × St)} (hk31 : ∀ x1 x2 x3 x4 S, k31 x1 x2 x3 x4 S = some (r, S9) → PW mX4_cover (some (.int r), S9) 31 [some (.ref 0), some (.int x1), some (.int x2), some (.int x3), some (.int x4), none] [] S) {x1 : Int32} {x2 : Int32} {x3 : Int32} {x4 : Int32} {S : St} (h : fX4_cover_L53 k31 x1 x2 x3 x4 S = some (r, S9)) : PW mX4_cover (some (.int r), S9) 53 [some (.ref 0), some (.int x1), some (.int x2), some (.int x3), some (.int x4), none] [] S := by
  unfold fX4_cover_L53 at h
  refine p_iconst (k := 28) 1 rfl (by decide) ?_
  refine p_goto (k := 29) 58 rfl (by decide) ?_
  refine p_msk [true, true, true, true, true, false] (L2 := [some (.ref 0), some (.int x1), some (.int x2), some (.int x3), some (.int x4), none]) rfl ?_
  exact sX4_cover_L58 hk31 h
def fX4_cover_L104 (y0 : Int32) (S : St) : Option (Int32 × St) :=
  some (y0, S)
theorem sX4_cover_L104 {r : Int32} {S9 : St} {y0 : Int32} {S : St} (h : fX4_cover_L104 y0 S = some (r, S9)) : PW mX4_cover (some (.int r), S9) 104 [none, none, none, none, none, none] [.int y0] S := by
  unfold fX4_cover_L104 at h
  exact s_iret h (k := 54) rfl rfl
def fX4_cover_L31 : Nat → Int32 → Int32 → Int32 → Int32 → St → Option (Int32 × St)
  | 0 => fun _ _ _ _ _ => none
  | n + 1 => fun x1 x2 x3 x4 S =>
    if x3 ≤ x4 then
      if 0 ≤ x2 then
        fX4_cover_L104 x2 S
      else
        cl (fX4_found (-1000004) S) fun v1 S1 =>
        fX4_cover_L104 v1 S1
    else
      if x2 < 0 then
        fX4_cover_L53 (fun x1 x2 x3 x4 S => fX4_cover_L31 n x1 x2 x3 x4 S) x1 x2 x3 x4 S
      else
        cl (fJ6_bitCount_0f7a4 x4 S) fun v2 S2 =>
        cl (fJ6_bitCount_0f7a4 x2 S2) fun v3 S3 =>
        if v3 ≤ v2 then
          fX4_cover_L58 (fun x1 x2 x3 x4 S => fX4_cover_L31 n x1 x2 x3 x4 S) x1 x2 x3 x4 0 S3
        else
          fX4_cover_L53 (fun x1 x2 x3 x4 S => fX4_cover_L31 n x1 x2 x3 x4 S) x1 x2 x3 x4 S3
theorem sX4_cover_L31 {r : Int32} {S9 : St} : ∀ (n : Nat) (x1 : Int32) (x2 : Int32) (x3 : Int32) (x4 : Int32) (S : St), fX4_cover_L31 n x1 x2 x3 x4 S = some (r, S9) → PW mX4_cover (some (.int r), S9) 31 [some (.ref 0), some (.int x1), some (.int x2), some (.int x3), some (.int x4), none] [] S := by
  intro n
  induction n with
  | zero => intro x1 x2 x3 x4 S h; cases h
  | succ n ih =>
    intro x1 x2 x3 x4 S h
    unfold fX4_cover_L31 at h
    refine p_iload (k := 18) rfl rfl ?_
    refine p_iload_n (k := 19) (i := 3) rfl rfl rfl ?_
    refine p_icmp_ge (k := 20) 90 rfl (by decide) (fun hc => ?_) (fun hc => ?_)
    · rw [if_pos hc] at h
      refine p_iload_n (k := 47) (i := 2) rfl rfl rfl ?_
      refine p_if_ge (k := 48) 103 rfl (by decide) (fun hc => ?_) (fun hc => ?_)
      · rw [if_pos hc] at h
        refine p_iload_n (k := 53) (i := 2) rfl rfl rfl ?_
        refine p_msk [false, false, false, false, false, false] (L2 := [none, none, none, none, none, none]) rfl ?_
        exact sX4_cover_L104 h
      · rw [if_neg hc] at h
        refine p_aload_n (k := 49) (i := 0) rfl rfl rfl ?_
        refine p_ldc (k := 50) rfl k_RX4_134 ?_
        obtain ⟨v1, S1, hcS1, h⟩ := cl_some h
        refine p_callV (k := 51) [.int (-1000004)] [] rfl (tX4_found hcS1) lay_X4 rfl lc_X4_found ml_RX4_62 mi_X4_found mv_X4_found (by decide) (by decide) (Nat.le_of_ble_eq_true rfl) rfl ?_
        refine p_goto (k := 52) 104 rfl (by decide) ?_
        refine p_msk [false, false, false, false, false, false] (L2 := [none, none, none, none, none, none]) rfl ?_
        exact sX4_cover_L104 h
    · rw [if_neg hc] at h
      refine p_iload_n (k := 21) (i := 2) rfl rfl rfl ?_
      refine p_if_lt (k := 22) 53 rfl (by decide) (fun hc => ?_) (fun hc => ?_)
      · rw [if_pos hc] at h
        refine p_msk [true, true, true, true, true, false] (L2 := [some (.ref 0), some (.int x1), some (.int x2), some (.int x3), some (.int x4), none]) rfl ?_
        exact sX4_cover_L53 ih h
      · rw [if_neg hc] at h
        refine p_iload (k := 23) rfl rfl ?_
        obtain ⟨v2, S2, hcS2, h⟩ := cl_some h
        refine p_callS (k := 24) [.int x4] [] rfl (tJ6_bitCount_0f7a4 hcS2) lc_J6_bitCount_0f7a4 ml_RX4_190 ms_J6_bitCount_0f7a4 (by decide) (by decide) (Nat.le_of_ble_eq_true rfl) rfl ?_
        refine p_iload_n (k := 25) (i := 2) rfl rfl rfl ?_
        obtain ⟨v3, S3, hcS3, h⟩ := cl_some h
        refine p_callS (k := 26) [.int x2] [.int v2] rfl (tJ6_bitCount_0f7a4 hcS3) lc_J6_bitCount_0f7a4 ml_RX4_190 ms_J6_bitCount_0f7a4 (by decide) (by decide) (Nat.le_of_ble_eq_true rfl) rfl ?_
        refine p_icmp_ge (k := 27) 57 rfl (by decide) (fun hc => ?_) (fun hc => ?_)
        · rw [if_pos hc] at h
          refine p_iconst (k := 30) 0 rfl (by decide) ?_
          refine p_msk [true, true, true, true, true, false] (L2 := [some (.ref 0), some (.int x1), some (.int x2), some (.int x3), some (.int x4), none]) rfl ?_
          exact sX4_cover_L58 ih h
        · rw [if_neg hc] at h
          refine p_msk [true, true, true, true, true, false] (L2 := [some (.ref 0), some (.int x1), some (.int x2), some (.int x3), some (.int x4), none]) rfl ?_
          exact sX4_cover_L53 ih h
def fX4_cover (a1 : Int32) (S : St) : Option (Int32 × St) :=
  cl (fX4_isWithin a1 65535 S) fun v1 S1 =>
  if v1 = 0 then
    cl (fX4_found (-1000001) S1) fun v3 S2 =>
    some (v3, S2)
  else
    bnd (1 <<< ((S1 1 8) &&& 31)) fun v2 =>
    fX4_cover_L31 FU a1 (-1) v2 0 S1
theorem sX4_cover {a1 : Int32} {S : St} {r : Int32} {S9 : St} (h : fX4_cover a1 S = some (r, S9)) : PW mX4_cover (some (.int r), S9) 0 [some (.ref 0), some (.int a1), none, none, none, none] [] S := by
  unfold fX4_cover at h
  refine p_iload_n (k := 0) (i := 1) rfl rfl rfl ?_
  refine p_ldc (k := 1) rfl k_RX4_156 ?_
  obtain ⟨v1, S1, hcS1, h⟩ := cl_some h
  refine p_callS (k := 2) [.int a1, .int 65535] [] rfl (tX4_isWithin hcS1) lc_X4_isWithin ml_RX4_57 ms_X4_isWithin (by decide) (by decide) (Nat.le_of_ble_eq_true rfl) rfl ?_
  refine p_if_ne (k := 3) 16 rfl (by decide) (fun hc => ?_) (fun hc => ?_)
  · rw [if_neg hc] at h
    refine p_iconst (k := 8) (-1) rfl (by decide) ?_
    refine p_istore_n (k := 9) 2 [some (.ref 0), some (.int a1), some (.int (-1)), none, none, none] rfl rfl rfl (by decide) rfl ?_
    refine p_iconst (k := 10) 1 rfl (by decide) ?_
    refine p_aload_n (k := 11) (i := 0) rfl rfl rfl ?_
    refine p_getr (k := 12) rfl lay_X4 rfl fl_RX4_12 ?_
    refine p_geti (k := 13) rfl (lay_c isC_1) rfl fl_RX4_187 ?_
    refine p_ishl (k := 14) rfl ?_
    refine s_bnd h (fun v2 h => ?_)
    refine p_istore_n (k := 15) 3 [some (.ref 0), some (.int a1), some (.int (-1)), some (.int v2), none, none] rfl rfl rfl (by decide) rfl ?_
    refine p_iconst (k := 16) 0 rfl (by decide) ?_
    refine p_istore (k := 17) [some (.ref 0), some (.int a1), some (.int (-1)), some (.int v2), some (.int 0), none] rfl rfl (by decide) rfl ?_
    refine p_msk [true, true, true, true, true, false] (L2 := [some (.ref 0), some (.int a1), some (.int (-1)), some (.int v2), some (.int 0), none]) rfl ?_
    exact sX4_cover_L31 _ _ _ _ _ _ h
  · rw [if_pos hc] at h
    refine p_aload_n (k := 4) (i := 0) rfl rfl rfl ?_
    refine p_ldc (k := 5) rfl k_RX4_61 ?_
    obtain ⟨v3, S2, hcS2, h⟩ := cl_some h
    refine p_callV (k := 6) [.int (-1000001)] [] rfl (tX4_found hcS2) lay_X4 rfl lc_X4_found ml_RX4_62 mi_X4_found mv_X4_found (by decide) (by decide) (Nat.le_of_ble_eq_true rfl) rfl ?_
    exact s_iret h (k := 7) rfl rfl
theorem tX4_cover {a1 : Int32} {S : St} {r : Int32} {S9 : St} (h : fX4_cover a1 S = some (r, S9)) : MR yX4_cover cX4_cover mX4_cover [.ref 0, .int a1] S (some (.int r), S9) := MR.of (n := 4) okX4_cover rfl rfl (sX4_cover h)
-- price(I)I
def fX4_price_L68 (k20 : Int32 → Int32 → Int32 → St → Option (Int32 × St)) (x1 : Int32) (x2 : Int32) (x3 : Int32) (S : St) : Option (Int32 × St) :=
  bnd (x3 + 1) fun v1 =>
  k20 x1 x2 v1 S
theorem sX4_price_L68 {r : Int32} {S9 : St} {k20 : Int32 → Int32 → Int32 → St → Option (Int32 × St)} (hk20 : ∀ x1 x2 x3 S, k20 x1 x2 x3 S = some (r, S9) → PW mX4_price (some (.int r), S9) 20 [some (.ref 0), some (.int x1), some (.int x2), some (.int x3), none] [] S) {x1 : Int32} {x2 : Int32} {x3 : Int32} {S : St} (h : fX4_price_L68 k20 x1 x2 x3 S = some (r, S9)) : PW mX4_price (some (.int r), S9) 68 [some (.ref 0), some (.int x1), some (.int x2), some (.int x3), none] [] S := by
  unfold fX4_price_L68 at h
  obtain ⟨v1, ev1, h⟩ := bnd_ex h
  refine p_iinc (k := 37) v1 [some (.ref 0), some (.int x1), some (.int x2), some (.int v1), none] rfl rfl (by rw [← ev1]; rfl) rfl (by decide) rfl ?_
  refine p_goto (k := 38) 20 rfl (by decide) ?_
  refine p_msk [true, true, true, true, false] (L2 := [some (.ref 0), some (.int x1), some (.int x2), some (.int v1), none]) rfl ?_
  exact hk20 _ _ _ _ h
def fX4_price_L20 : Nat → Int32 → Int32 → Int32 → St → Option (Int32 × St)
  | 0 => fun _ _ _ _ => none
  | n + 1 => fun x1 x2 x3 S =>
    if 16 ≤ x3 then
      some (x2, S)
    else
      cl (fX4_hasBit x1 x3 S) fun v1 S1 =>
      if v1 = 0 then
        fX4_price_L68 (fun x1 x2 x3 S => fX4_price_L20 n x1 x2 x3 S) x1 x2 x3 S1
      else
        cl (fX0_cheapestQuoting 1 x3 S1) fun v2 S2 =>
        if 0 ≤ v2 then
          cl (fX0_costs 1 v2 S2) fun v3 S3 =>
          bnd (x2 + v3) fun v4 =>
          fX4_price_L68 (fun x1 x2 x3 S => fX4_price_L20 n x1 x2 x3 S) x1 v4 x3 S3
        else
          cl (fX4_found (-1000004) S2) fun v5 S4 =>
          some (v5, S4)
theorem sX4_price_L20 {r : Int32} {S9 : St} : ∀ (n : Nat) (x1 : Int32) (x2 : Int32) (x3 : Int32) (S : St), fX4_price_L20 n x1 x2 x3 S = some (r, S9) → PW mX4_price (some (.int r), S9) 20 [some (.ref 0), some (.int x1), some (.int x2), some (.int x3), none] [] S := by
  intro n
  induction n with
  | zero => intro x1 x2 x3 S h; cases h
  | succ n ih =>
    intro x1 x2 x3 S h
    unfold fX4_price_L20 at h
    refine p_iload_n (k := 12) (i := 3) rfl rfl rfl ?_
    refine p_bipush (k := 13) 16 rfl (by decide) ?_
    refine p_icmp_ge (k := 14) 74 rfl (by decide) (fun hc => ?_) (fun hc => ?_)
    · rw [if_pos hc] at h
      refine p_iload_n (k := 39) (i := 2) rfl rfl rfl ?_
      exact s_iret h (k := 40) rfl rfl
    · rw [if_neg hc] at h
      refine p_iload_n (k := 15) (i := 1) rfl rfl rfl ?_
      refine p_iload_n (k := 16) (i := 3) rfl rfl rfl ?_
      obtain ⟨v1, S1, hcS1, h⟩ := cl_some h
      refine p_callS (k := 17) [.int x1, .int x3] [] rfl (tX4_hasBit hcS1) lc_X4_hasBit ml_RX4_198 ms_X4_hasBit (by decide) (by decide) (Nat.le_of_ble_eq_true rfl) rfl ?_
      refine p_if_eq (k := 18) 68 rfl (by decide) (fun hc => ?_) (fun hc => ?_)
      · rw [if_pos hc] at h
        refine p_msk [true, true, true, true, false] (L2 := [some (.ref 0), some (.int x1), some (.int x2), some (.int x3), none]) rfl ?_
        exact sX4_price_L68 ih h
      · rw [if_neg hc] at h
        refine p_aload_n (k := 19) (i := 0) rfl rfl rfl ?_
        refine p_getr (k := 20) rfl lay_X4 rfl fl_RX4_12 ?_
        refine p_iload_n (k := 21) (i := 3) rfl rfl rfl ?_
        obtain ⟨v2, S2, hcS2, h⟩ := cl_some h
        refine p_callV (k := 22) [.int x3] [] rfl (tX0_cheapestQuoting isC_1 hcS2) (lay_c isC_1) rfl lc_X0_cheapestQuoting ml_RX4_131 mi_X0_cheapestQuoting mv_X0_cheapestQuoting (by decide) (by decide) (Nat.le_of_ble_eq_true rfl) rfl ?_
        refine p_istore (k := 23) [some (.ref 0), some (.int x1), some (.int x2), some (.int x3), some (.int v2)] rfl rfl (by decide) rfl ?_
        refine p_iload (k := 24) rfl rfl ?_
        refine p_if_ge (k := 25) 56 rfl (by decide) (fun hc => ?_) (fun hc => ?_)
        · rw [if_pos hc] at h
          refine p_iload_n (k := 30) (i := 2) rfl rfl rfl ?_
          refine p_aload_n (k := 31) (i := 0) rfl rfl rfl ?_
          refine p_getr (k := 32) rfl lay_X4 rfl fl_RX4_12 ?_
          refine p_iload (k := 33) rfl rfl ?_
          obtain ⟨v3, S3, hcS3, h⟩ := cl_some h
          refine p_callV (k := 34) [.int v2] [.int x2] rfl (tX0_costs isC_1 hcS3) (lay_c isC_1) rfl lc_X0_costs ml_RX4_97 mi_X0_costs mv_X0_costs (by decide) (by decide) (Nat.le_of_ble_eq_true rfl) rfl ?_
          refine p_iadd (k := 35) rfl ?_
          refine s_bnd h (fun v4 h => ?_)
          refine p_istore_n (k := 36) 2 [some (.ref 0), some (.int x1), some (.int v4), some (.int x3), some (.int v2)] rfl rfl rfl (by decide) rfl ?_
          refine p_msk [true, true, true, true, false] (L2 := [some (.ref 0), some (.int x1), some (.int v4), some (.int x3), none]) rfl ?_
          exact sX4_price_L68 ih h
        · rw [if_neg hc] at h
          refine p_aload_n (k := 26) (i := 0) rfl rfl rfl ?_
          refine p_ldc (k := 27) rfl k_RX4_134 ?_
          obtain ⟨v5, S4, hcS4, h⟩ := cl_some h
          refine p_callV (k := 28) [.int (-1000004)] [] rfl (tX4_found hcS4) lay_X4 rfl lc_X4_found ml_RX4_62 mi_X4_found mv_X4_found (by decide) (by decide) (Nat.le_of_ble_eq_true rfl) rfl ?_
          exact s_iret h (k := 29) rfl rfl
def fX4_price (a1 : Int32) (S : St) : Option (Int32 × St) :=
  cl (fX4_isWithin a1 65535 S) fun v1 S1 =>
  if v1 = 0 then
    cl (fX4_found (-1000001) S1) fun v2 S2 =>
    some (v2, S2)
  else
    fX4_price_L20 FU a1 0 0 S1
theorem sX4_price {a1 : Int32} {S : St} {r : Int32} {S9 : St} (h : fX4_price a1 S = some (r, S9)) : PW mX4_price (some (.int r), S9) 0 [some (.ref 0), some (.int a1), none, none, none] [] S := by
  unfold fX4_price at h
  refine p_iload_n (k := 0) (i := 1) rfl rfl rfl ?_
  refine p_ldc (k := 1) rfl k_RX4_156 ?_
  obtain ⟨v1, S1, hcS1, h⟩ := cl_some h
  refine p_callS (k := 2) [.int a1, .int 65535] [] rfl (tX4_isWithin hcS1) lc_X4_isWithin ml_RX4_57 ms_X4_isWithin (by decide) (by decide) (Nat.le_of_ble_eq_true rfl) rfl ?_
  refine p_if_ne (k := 3) 16 rfl (by decide) (fun hc => ?_) (fun hc => ?_)
  · rw [if_neg hc] at h
    refine p_iconst (k := 8) 0 rfl (by decide) ?_
    refine p_istore_n (k := 9) 2 [some (.ref 0), some (.int a1), some (.int 0), none, none] rfl rfl rfl (by decide) rfl ?_
    refine p_iconst (k := 10) 0 rfl (by decide) ?_
    refine p_istore_n (k := 11) 3 [some (.ref 0), some (.int a1), some (.int 0), some (.int 0), none] rfl rfl rfl (by decide) rfl ?_
    refine p_msk [true, true, true, true, false] (L2 := [some (.ref 0), some (.int a1), some (.int 0), some (.int 0), none]) rfl ?_
    exact sX4_price_L20 _ _ _ _ _ h
  · rw [if_pos hc] at h
    refine p_aload_n (k := 4) (i := 0) rfl rfl rfl ?_
    refine p_ldc (k := 5) rfl k_RX4_61 ?_
    obtain ⟨v2, S2, hcS2, h⟩ := cl_some h
    refine p_callV (k := 6) [.int (-1000001)] [] rfl (tX4_found hcS2) lay_X4 rfl lc_X4_found ml_RX4_62 mi_X4_found mv_X4_found (by decide) (by decide) (Nat.le_of_ble_eq_true rfl) rfl ?_
    exact s_iret h (k := 7) rfl rfl
theorem tX4_price {a1 : Int32} {S : St} {r : Int32} {S9 : St} (h : fX4_price a1 S = some (r, S9)) : MR yX4_price cX4_price mX4_price [.ref 0, .int a1] S (some (.int r), S9) := MR.of (n := 3) okX4_price rfl rfl (sX4_price h)
-- isLostWithout(III)Z
def fX4_isLostWithout_L43 (y0 : Int32) (S : St) : Option (Int32 × St) :=
  retN .boolean y0 S
theorem sX4_isLostWithout_L43 {r : Int32} {S9 : St} {y0 : Int32} {S : St} (h : fX4_isLostWithout_L43 y0 S = some (r, S9)) : PW mX4_isLostWithout (some (.int r), S9) 43 [none, none, none, none] [.int y0] S := by
  unfold fX4_isLostWithout_L43 at h
  exact s_zret h (k := 21) rfl rfl
def fX4_isLostWithout (a1 : Int32) (a2 : Int32) (a3 : Int32) (S : St) : Option (Int32 × St) :=
  cl (fX0_become 10 1 S) fun _ S1 =>
  bnd (up2 S1 10 9 a1) fun S2 =>
  cl (fX0_passDays 10 a3 S2) fun _ S3 =>
  cl (fX0_isInPrint 10 a2 S3) fun v1 S4 =>
  if v1 = 0 then
    fX4_isLostWithout_L43 1 S4
  else
    fX4_isLostWithout_L43 0 S4
theorem sX4_isLostWithout {a1 : Int32} {a2 : Int32} {a3 : Int32} {S : St} {r : Int32} {S9 : St} (h : fX4_isLostWithout a1 a2 a3 S = some (r, S9)) : PW mX4_isLostWithout (some (.int r), S9) 0 [some (.ref 0), some (.int a1), some (.int a2), some (.int a3)] [] S := by
  unfold fX4_isLostWithout at h
  refine p_aload_n (k := 0) (i := 0) rfl rfl rfl ?_
  refine p_getr (k := 1) rfl lay_X4 rfl fl_RX4_16 ?_
  refine p_aload_n (k := 2) (i := 0) rfl rfl rfl ?_
  refine p_getr (k := 3) rfl lay_X4 rfl fl_RX4_12 ?_
  obtain ⟨_, S1, hcS1, h⟩ := cl_some h
  refine p_callV (k := 4) [.ref 1] [] rfl (tX0_become isC_10 isC_1 hcS1) (lay_c isC_10) rfl lc_X0_become ml_RX4_172 mi_X0_become mv_X0_become (by decide) (by decide) (Nat.le_of_ble_eq_true rfl) rfl ?_
  refine p_aload_n (k := 5) (i := 0) rfl rfl rfl ?_
  refine p_getr (k := 6) rfl lay_X4 rfl fl_RX4_16 ?_
  refine p_iload_n (k := 7) (i := 1) rfl rfl rfl ?_
  refine s_put h (k := 8) rfl (lay_c isC_10) rfl fl_RX4_281 fp_0_9 rfl rfl (fun S2 h => ?_)
  refine p_aload_n (k := 9) (i := 0) rfl rfl rfl ?_
  refine p_getr (k := 10) rfl lay_X4 rfl fl_RX4_16 ?_
  refine p_iload_n (k := 11) (i := 3) rfl rfl rfl ?_
  obtain ⟨_, S3, hcS3, h⟩ := cl_some h
  refine p_callV (k := 12) [.int a3] [] rfl (tX0_passDays isC_10 hcS3) (lay_c isC_10) rfl lc_X0_passDays ml_RX4_148 mi_X0_passDays mv_X0_passDays (by decide) (by decide) (Nat.le_of_ble_eq_true rfl) rfl ?_
  refine p_aload_n (k := 13) (i := 0) rfl rfl rfl ?_
  refine p_getr (k := 14) rfl lay_X4 rfl fl_RX4_16 ?_
  refine p_iload_n (k := 15) (i := 2) rfl rfl rfl ?_
  obtain ⟨v1, S4, hcS4, h⟩ := cl_some h
  refine p_callV (k := 16) [.int a2] [] rfl (tX0_isInPrint isC_10 hcS4) (lay_c isC_10) rfl lc_X0_isInPrint ml_RX4_184 mi_X0_isInPrint mv_X0_isInPrint (by decide) (by decide) (Nat.le_of_ble_eq_true rfl) rfl ?_
  refine p_if_ne (k := 17) 42 rfl (by decide) (fun hc => ?_) (fun hc => ?_)
  · rw [if_neg hc] at h
    refine p_iconst (k := 20) 0 rfl (by decide) ?_
    refine p_msk [false, false, false, false] (L2 := [none, none, none, none]) rfl ?_
    exact sX4_isLostWithout_L43 h
  · rw [if_pos hc] at h
    refine p_iconst (k := 18) 1 rfl (by decide) ?_
    refine p_goto (k := 19) 43 rfl (by decide) ?_
    refine p_msk [false, false, false, false] (L2 := [none, none, none, none]) rfl ?_
    exact sX4_isLostWithout_L43 h
theorem tX4_isLostWithout {a1 : Int32} {a2 : Int32} {a3 : Int32} {S : St} {r : Int32} {S9 : St} (h : fX4_isLostWithout a1 a2 a3 S = some (r, S9)) : MR yX4_isLostWithout cX4_isLostWithout mX4_isLostWithout [.ref 0, .int a1, .int a2, .int a3] S (some (.int r), S9) := MR.of (n := 0) okX4_isLostWithout rfl rfl (sX4_isLostWithout h)
-- censor(II)I
def fX4_censor_L16 (S : St) : Option (Int32 × St) :=
  cl (fX4_found (-1000001) S) fun v1 S1 =>
  some (v1, S1)
theorem sX4_censor_L16 {r : Int32} {S9 : St}  {S : St} (h : fX4_censor_L16 S = some (r, S9)) : PW mX4_censor (some (.int r), S9) 16 [some (.ref 0), none, none, none, none, none, none] [] S := by
  unfold fX4_censor_L16 at h
  refine p_aload_n (k := 7) (i := 0) rfl rfl rfl ?_
  refine p_ldc (k := 8) rfl k_RX4_61 ?_
  obtain ⟨v1, S1, hcS1, h⟩ := cl_some h
  refine p_callV (k := 9) [.int (-1000001)] [] rfl (tX4_found hcS1) lay_X4 rfl lc_X4_found ml_RX4_62 mi_X4_found mv_X4_found (by decide) (by decide) (Nat.le_of_ble_eq_true rfl) rfl ?_
  exact s_iret h (k := 10) rfl rfl
def fX4_censor_L87 (k41 : Int32 → Int32 → Int32 → Int32 → Int32 → St → Option (Int32 × St)) (x1 : Int32) (x2 : Int32) (x3 : Int32) (x4 : Int32) (x5 : Int32) (S : St) : Option (Int32 × St) :=
  bnd (x5 + 1) fun v1 =>
  k41 x1 x2 x3 x4 v1 S
theorem sX4_censor_L87 {r : Int32} {S9 : St} {k41 : Int32 → Int32 → Int32 → Int32 → Int32 → St → Option (Int32 × St)} (hk41 : ∀ x1 x2 x3 x4 x5 S, k41 x1 x2 x3 x4 x5 S = some (r, S9) → PW mX4_censor (some (.int r), S9) 41 [some (.ref 0), some (.int x1), some (.int x2), some (.int x3), some (.int x4), some (.int x5), none] [] S) {x1 : Int32} {x2 : Int32} {x3 : Int32} {x4 : Int32} {x5 : Int32} {S : St} (h : fX4_censor_L87 k41 x1 x2 x3 x4 x5 S = some (r, S9)) : PW mX4_censor (some (.int r), S9) 87 [some (.ref 0), some (.int x1), some (.int x2), some (.int x3), some (.int x4), some (.int x5), none] [] S := by
  unfold fX4_censor_L87 at h
  obtain ⟨v1, ev1, h⟩ := bnd_ex h
  refine p_iinc (k := 45) v1 [some (.ref 0), some (.int x1), some (.int x2), some (.int x3), some (.int x4), some (.int v1), none] rfl rfl (by rw [← ev1]; rfl) rfl (by decide) rfl ?_
  refine p_goto (k := 46) 41 rfl (by decide) ?_
  refine p_msk [true, true, true, true, true, true, false] (L2 := [some (.ref 0), some (.int x1), some (.int x2), some (.int x3), some (.int x4), some (.int v1), none]) rfl ?_
  exact hk41 _ _ _ _ _ _ h
def fX4_censor_L65 (k41 : Int32 → Int32 → Int32 → Int32 → Int32 → St → Option (Int32 × St)) (x1 : Int32) (x2 : Int32) (x3 : Int32) (x4 : Int32) (x5 : Int32) (y0 : Int32) (S : St) : Option (Int32 × St) :=
  if y0 = 0 then
    fX4_censor_L87 k41 x1 x2 x3 x4 x5 S
  else
    cl (fX4_isLostWithout x5 x1 x2 S) fun v1 S1 =>
    if v1 = 0 then
      fX4_censor_L87 k41 x1 x2 x3 x4 x5 S1
    else
      fX4_censor_L87 k41 x1 x2 x3 x5 x5 S1
theorem sX4_censor_L65 {r : Int32} {S9 : St} {k41 : Int32 → Int32 → Int32 → Int32 → Int32 → St → Option (Int32 × St)} (hk41 : ∀ x1 x2 x3 x4 x5 S, k41 x1 x2 x3 x4 x5 S = some (r, S9) → PW mX4_censor (some (.int r), S9) 41 [some (.ref 0), some (.int x1), some (.int x2), some (.int x3), some (.int x4), some (.int x5), none] [] S) {x1 : Int32} {x2 : Int32} {x3 : Int32} {x4 : Int32} {x5 : Int32} {y0 : Int32} {S : St} (h : fX4_censor_L65 k41 x1 x2 x3 x4 x5 y0 S = some (r, S9)) : PW mX4_censor (some (.int r), S9) 65 [some (.ref 0), some (.int x1), some (.int x2), some (.int x3), some (.int x4), some (.int x5), none] [.int y0] S := by
  unfold fX4_censor_L65 at h
  refine p_istore (k := 34) [some (.ref 0), some (.int x1), some (.int x2), some (.int x3), some (.int x4), some (.int x5), some (.int y0)] rfl rfl (by decide) rfl ?_
  refine p_iload (k := 35) rfl rfl ?_
  refine p_if_eq (k := 36) 87 rfl (by decide) (fun hc => ?_) (fun hc => ?_)
  · rw [if_pos hc] at h
    refine p_msk [true, true, true, true, true, true, false] (L2 := [some (.ref 0), some (.int x1), some (.int x2), some (.int x3), some (.int x4), some (.int x5), none]) rfl ?_
    exact sX4_censor_L87 hk41 h
  · rw [if_neg hc] at h
    refine p_aload_n (k := 37) (i := 0) rfl rfl rfl ?_
    refine p_iload (k := 38) rfl rfl ?_
    refine p_iload_n (k := 39) (i := 1) rfl rfl rfl ?_
    refine p_iload_n (k := 40) (i := 2) rfl rfl rfl ?_
    obtain ⟨v1, S1, hcS1, h⟩ := cl_some h
    refine p_callV (k := 41) [.int x5, .int x1, .int x2] [] rfl (tX4_isLostWithout hcS1) lay_X4 rfl lc_X4_isLostWithout ml_RX4_201 mi_X4_isLostWithout mv_X4_isLostWithout (by decide) (by decide) (Nat.le_of_ble_eq_true rfl) rfl ?_
    refine p_if_eq (k := 42) 87 rfl (by decide) (fun hc => ?_) (fun hc => ?_)
    · rw [if_pos hc] at h
      refine p_msk [true, true, true, true, true, true, false] (L2 := [some (.ref 0), some (.int x1), some (.int x2), some (.int x3), some (.int x4), some (.int x5), none]) rfl ?_
      exact sX4_censor_L87 hk41 h
    · rw [if_neg hc] at h
      refine p_iload (k := 43) rfl rfl ?_
      refine p_istore (k := 44) [some (.ref 0), some (.int x1), some (.int x2), some (.int x3), some (.int x5), some (.int x5), some (.int y0)] rfl rfl (by decide) rfl ?_
      refine p_msk [true, true, true, true, true, true, false] (L2 := [some (.ref 0), some (.int x1), some (.int x2), some (.int x3), some (.int x5), some (.int x5), none]) rfl ?_
      exact sX4_censor_L87 hk41 h
def fX4_censor_L41 : Nat → Int32 → Int32 → Int32 → Int32 → Int32 → St → Option (Int32 × St)
  | 0 => fun _ _ _ _ _ _ => none
  | n + 1 => fun x1 x2 x3 x4 x5 S =>
    if x3 ≤ x5 then
      some (x4, S)
    else
      cl (fJ6_bitCount_0f7a4 x5 S) fun v1 S1 =>
      cl (fJ6_bitCount_0f7a4 x4 S1) fun v2 S2 =>
      if v2 ≤ v1 then
        fX4_censor_L65 (fun x1 x2 x3 x4 x5 S => fX4_censor_L41 n x1 x2 x3 x4 x5 S) x1 x2 x3 x4 x5 0 S2
      else
        fX4_censor_L65 (fun x1 x2 x3 x4 x5 S => fX4_censor_L41 n x1 x2 x3 x4 x5 S) x1 x2 x3 x4 x5 1 S2
theorem sX4_censor_L41 {r : Int32} {S9 : St} : ∀ (n : Nat) (x1 : Int32) (x2 : Int32) (x3 : Int32) (x4 : Int32) (x5 : Int32) (S : St), fX4_censor_L41 n x1 x2 x3 x4 x5 S = some (r, S9) → PW mX4_censor (some (.int r), S9) 41 [some (.ref 0), some (.int x1), some (.int x2), some (.int x3), some (.int x4), some (.int x5), none] [] S := by
  intro n
  induction n with
  | zero => intro x1 x2 x3 x4 x5 S h; cases h
  | succ n ih =>
    intro x1 x2 x3 x4 x5 S h
    unfold fX4_censor_L41 at h
    refine p_iload (k := 23) rfl rfl ?_
    refine p_iload_n (k := 24) (i := 3) rfl rfl rfl ?_
    refine p_icmp_ge (k := 25) 93 rfl (by decide) (fun hc => ?_) (fun hc => ?_)
    · rw [if_pos hc] at h
      refine p_iload (k := 47) rfl rfl ?_
      exact s_iret h (k := 48) rfl rfl
    · rw [if_neg hc] at h
      refine p_iload (k := 26) rfl rfl ?_
      obtain ⟨v1, S1, hcS1, h⟩ := cl_some h
      refine p_callS (k := 27) [.int x5] [] rfl (tJ6_bitCount_0f7a4 hcS1) lc_J6_bitCount_0f7a4 ml_RX4_190 ms_J6_bitCount_0f7a4 (by decide) (by decide) (Nat.le_of_ble_eq_true rfl) rfl ?_
      refine p_iload (k := 28) rfl rfl ?_
      obtain ⟨v2, S2, hcS2, h⟩ := cl_some h
      refine p_callS (k := 29) [.int x4] [.int v1] rfl (tJ6_bitCount_0f7a4 hcS2) lc_J6_bitCount_0f7a4 ml_RX4_190 ms_J6_bitCount_0f7a4 (by decide) (by decide) (Nat.le_of_ble_eq_true rfl) rfl ?_
      refine p_icmp_ge (k := 30) 64 rfl (by decide) (fun hc => ?_) (fun hc => ?_)
      · rw [if_pos hc] at h
        refine p_iconst (k := 33) 0 rfl (by decide) ?_
        refine p_msk [true, true, true, true, true, true, false] (L2 := [some (.ref 0), some (.int x1), some (.int x2), some (.int x3), some (.int x4), some (.int x5), none]) rfl ?_
        exact sX4_censor_L65 ih h
      · rw [if_neg hc] at h
        refine p_iconst (k := 31) 1 rfl (by decide) ?_
        refine p_goto (k := 32) 65 rfl (by decide) ?_
        refine p_msk [true, true, true, true, true, true, false] (L2 := [some (.ref 0), some (.int x1), some (.int x2), some (.int x3), some (.int x4), some (.int x5), none]) rfl ?_
        exact sX4_censor_L65 ih h
def fX4_censor (a1 : Int32) (a2 : Int32) (S : St) : Option (Int32 × St) :=
  cl (fX4_isPage a1 S) fun v1 S1 =>
  if v1 = 0 then
    fX4_censor_L16 S1
  else
    cl (fX4_isWithin a2 12 S1) fun v2 S2 =>
    if v2 = 0 then
      fX4_censor_L16 S2
    else
      bnd (1 <<< ((S2 1 8) &&& 31)) fun v3 =>
      bnd (v3 - 1) fun v4 =>
      fX4_censor_L41 FU a1 a2 v3 v4 0 S2
theorem sX4_censor {a1 : Int32} {a2 : Int32} {S : St} {r : Int32} {S9 : St} (h : fX4_censor a1 a2 S = some (r, S9)) : PW mX4_censor (some (.int r), S9) 0 [some (.ref 0), some (.int a1), some (.int a2), none, none, none, none] [] S := by
  unfold fX4_censor at h
  refine p_iload_n (k := 0) (i := 1) rfl rfl rfl ?_
  obtain ⟨v1, S1, hcS1, h⟩ := cl_some h
  refine p_callS (k := 1) [.int a1] [] rfl (tX4_isPage hcS1) lc_X4_isPage ml_RX4_128 ms_X4_isPage (by decide) (by decide) (Nat.le_of_ble_eq_true rfl) rfl ?_
  refine p_if_eq (k := 2) 16 rfl (by decide) (fun hc => ?_) (fun hc => ?_)
  · rw [if_pos hc] at h
    refine p_msk [true, false, false, false, false, false, false] (L2 := [some (.ref 0), none, none, none, none, none, none]) rfl ?_
    exact sX4_censor_L16 h
  · rw [if_neg hc] at h
    refine p_iload_n (k := 3) (i := 2) rfl rfl rfl ?_
    refine p_bipush (k := 4) 12 rfl (by decide) ?_
    obtain ⟨v2, S2, hcS2, h⟩ := cl_some h
    refine p_callS (k := 5) [.int a2, .int 12] [] rfl (tX4_isWithin hcS2) lc_X4_isWithin ml_RX4_57 ms_X4_isWithin (by decide) (by decide) (Nat.le_of_ble_eq_true rfl) rfl ?_
    refine p_if_ne (k := 6) 23 rfl (by decide) (fun hc => ?_) (fun hc => ?_)
    · rw [if_neg hc] at h
      refine p_iconst (k := 11) 1 rfl (by decide) ?_
      refine p_aload_n (k := 12) (i := 0) rfl rfl rfl ?_
      refine p_getr (k := 13) rfl lay_X4 rfl fl_RX4_12 ?_
      refine p_geti (k := 14) rfl (lay_c isC_1) rfl fl_RX4_187 ?_
      refine p_ishl (k := 15) rfl ?_
      refine s_bnd h (fun v3 h => ?_)
      refine p_istore_n (k := 16) 3 [some (.ref 0), some (.int a1), some (.int a2), some (.int v3), none, none, none] rfl rfl rfl (by decide) rfl ?_
      refine p_iload_n (k := 17) (i := 3) rfl rfl rfl ?_
      refine p_iconst (k := 18) 1 rfl (by decide) ?_
      refine p_isub (k := 19) rfl ?_
      refine s_bnd h (fun v4 h => ?_)
      refine p_istore (k := 20) [some (.ref 0), some (.int a1), some (.int a2), some (.int v3), some (.int v4), none, none] rfl rfl (by decide) rfl ?_
      refine p_iconst (k := 21) 0 rfl (by decide) ?_
      refine p_istore (k := 22) [some (.ref 0), some (.int a1), some (.int a2), some (.int v3), some (.int v4), some (.int 0), none] rfl rfl (by decide) rfl ?_
      refine p_msk [true, true, true, true, true, true, false] (L2 := [some (.ref 0), some (.int a1), some (.int a2), some (.int v3), some (.int v4), some (.int 0), none]) rfl ?_
      exact sX4_censor_L41 _ _ _ _ _ _ _ h
    · rw [if_pos hc] at h
      refine p_msk [true, false, false, false, false, false, false] (L2 := [some (.ref 0), none, none, none, none, none, none]) rfl ?_
      exact sX4_censor_L16 h
theorem tX4_censor {a1 : Int32} {a2 : Int32} {S : St} {r : Int32} {S9 : St} (h : fX4_censor a1 a2 S = some (r, S9)) : MR yX4_censor cX4_censor mX4_censor [.ref 0, .int a1, .int a2] S (some (.int r), S9) := MR.of (n := 4) okX4_censor rfl rfl (sX4_censor h)
-- isSheet(I)Z
def fX4_isSheet_L14 (y0 : Int32) (S : St) : Option (Int32 × St) :=
  retN .boolean y0 S
theorem sX4_isSheet_L14 {r : Int32} {S9 : St} {y0 : Int32} {S : St} (h : fX4_isSheet_L14 y0 S = some (r, S9)) : PW mX4_isSheet (some (.int r), S9) 14 [none] [.int y0] S := by
  unfold fX4_isSheet_L14 at h
  exact s_zret h (k := 8) rfl rfl
def fX4_isSheet_L13 (S : St) : Option (Int32 × St) :=
  fX4_isSheet_L14 0 S
theorem sX4_isSheet_L13 {r : Int32} {S9 : St}  {S : St} (h : fX4_isSheet_L13 S = some (r, S9)) : PW mX4_isSheet (some (.int r), S9) 13 [none] [] S := by
  unfold fX4_isSheet_L13 at h
  refine p_iconst (k := 7) 0 rfl (by decide) ?_
  refine p_msk [false] (L2 := [none]) rfl ?_
  exact sX4_isSheet_L14 h
def fX4_isSheet (a1 : Int32) (S : St) : Option (Int32 × St) :=
  if a1 < 0 then
    fX4_isSheet_L13 S
  else
    if 4 ≤ a1 then
      fX4_isSheet_L13 S
    else
      fX4_isSheet_L14 1 S
theorem sX4_isSheet {a1 : Int32} {S : St} {r : Int32} {S9 : St} (h : fX4_isSheet a1 S = some (r, S9)) : PW mX4_isSheet (some (.int r), S9) 0 [some (.int a1)] [] S := by
  unfold fX4_isSheet at h
  refine p_iload_n (k := 0) (i := 0) rfl rfl rfl ?_
  refine p_if_lt (k := 1) 13 rfl (by decide) (fun hc => ?_) (fun hc => ?_)
  · rw [if_pos hc] at h
    refine p_msk [false] (L2 := [none]) rfl ?_
    exact sX4_isSheet_L13 h
  · rw [if_neg hc] at h
    refine p_iload_n (k := 2) (i := 0) rfl rfl rfl ?_
    refine p_iconst (k := 3) 4 rfl (by decide) ?_
    refine p_icmp_ge (k := 4) 13 rfl (by decide) (fun hc => ?_) (fun hc => ?_)
    · rw [if_pos hc] at h
      refine p_msk [false] (L2 := [none]) rfl ?_
      exact sX4_isSheet_L13 h
    · rw [if_neg hc] at h
      refine p_iconst (k := 5) 1 rfl (by decide) ?_
      refine p_goto (k := 6) 14 rfl (by decide) ?_
      refine p_msk [false] (L2 := [none]) rfl ?_
      exact sX4_isSheet_L14 h
theorem tX4_isSheet {a1 : Int32} {S : St} {r : Int32} {S9 : St} (h : fX4_isSheet a1 S = some (r, S9)) : MR yX4_isSheet cX4_isSheet mX4_isSheet [.int a1] S (some (.int r), S9) := MR.of (n := 0) okX4_isSheet rfl rfl (sX4_isSheet h)
-- comesAsTold(LGoatShelves$Sheet;II)Z
def fX4_comesAsTold_L56 (a1 : Nat) (k3 : Int32 → Int32 → Int32 → St → Option (Int32 × St)) (x2 : Int32) (x3 : Int32) (x4 : Int32) (S : St) : Option (Int32 × St) :=
  bnd (x4 + 1) fun v1 =>
  k3 x2 x3 v1 S
theorem sX4_comesAsTold_L56 {a1 : Nat} (h1 : isS a1) {r : Int32} {S9 : St} {k3 : Int32 → Int32 → Int32 → St → Option (Int32 × St)} (hk3 : ∀ x2 x3 x4 S, k3 x2 x3 x4 S = some (r, S9) → PW mX4_comesAsTold (some (.int r), S9) 3 [some (.ref 0), some (.ref a1), some (.int x2), some (.int x3), some (.int x4)] [] S) {x2 : Int32} {x3 : Int32} {x4 : Int32} {S : St} (h : fX4_comesAsTold_L56 a1 k3 x2 x3 x4 S = some (r, S9)) : PW mX4_comesAsTold (some (.int r), S9) 56 [some (.ref 0), some (.ref a1), some (.int x2), some (.int x3), some (.int x4)] [] S := by
  unfold fX4_comesAsTold_L56 at h
  obtain ⟨v1, ev1, h⟩ := bnd_ex h
  refine p_iinc (k := 29) v1 [some (.ref 0), some (.ref a1), some (.int x2), some (.int x3), some (.int v1)] rfl rfl (by rw [← ev1]; rfl) rfl (by decide) rfl ?_
  refine p_goto (k := 30) 3 rfl (by decide) ?_
  refine p_msk [true, true, true, true, true] (L2 := [some (.ref 0), some (.ref a1), some (.int x2), some (.int x3), some (.int v1)]) rfl ?_
  exact hk3 _ _ _ _ h
def fX4_comesAsTold_L24 (a1 : Nat) (k3 : Int32 → Int32 → Int32 → St → Option (Int32 × St)) (x2 : Int32) (x3 : Int32) (x4 : Int32) (S : St) : Option (Int32 × St) :=
  rd S (a1 + 1) 40 x4 fun v1 =>
  if v1 = (-1) then
    fX4_comesAsTold_L56 a1 k3 x2 x3 x4 S
  else
    rd S (a1 + 1) 40 x4 fun v2 =>
    cl (fX0_trait 10 x2 x3 S) fun v3 S1 =>
    if v2 = v3 then
      fX4_comesAsTold_L56 a1 k3 x2 x3 x4 S1
    else
      retN .boolean 0 S1
theorem sX4_comesAsTold_L24 {a1 : Nat} (h1 : isS a1) {r : Int32} {S9 : St} {k3 : Int32 → Int32 → Int32 → St → Option (Int32 × St)} (hk3 : ∀ x2 x3 x4 S, k3 x2 x3 x4 S = some (r, S9) → PW mX4_comesAsTold (some (.int r), S9) 3 [some (.ref 0), some (.ref a1), some (.int x2), some (.int x3), some (.int x4)] [] S) {x2 : Int32} {x3 : Int32} {x4 : Int32} {S : St} (h : fX4_comesAsTold_L24 a1 k3 x2 x3 x4 S = some (r, S9)) : PW mX4_comesAsTold (some (.int r), S9) 24 [some (.ref 0), some (.ref a1), some (.int x2), some (.int x3), some (.int x4)] [] S := by
  unfold fX4_comesAsTold_L24 at h
  refine p_aload_n (k := 11) (i := 1) rfl rfl rfl ?_
  refine p_getr (k := 12) rfl (lay_s h1) rfl fl_RX4_257 ?_
  refine p_iload (k := 13) rfl rfl ?_
  refine s_rd h (k := 14) rfl (lay_s0 h1) (fun v1 h => ?_)
  refine p_iconst (k := 15) (-1) rfl (by decide) ?_
  refine p_icmp_eq (k := 16) 56 rfl (by decide) (fun hc => ?_) (fun hc => ?_)
  · rw [if_pos hc] at h
    refine p_msk [true, true, true, true, true] (L2 := [some (.ref 0), some (.ref a1), some (.int x2), some (.int x3), some (.int x4)]) rfl ?_
    exact sX4_comesAsTold_L56 h1 hk3 h
  · rw [if_neg hc] at h
    refine p_aload_n (k := 17) (i := 1) rfl rfl rfl ?_
    refine p_getr (k := 18) rfl (lay_s h1) rfl fl_RX4_257 ?_
    refine p_iload (k := 19) rfl rfl ?_
    refine s_rd h (k := 20) rfl (lay_s0 h1) (fun v2 h => ?_)
    refine p_aload_n (k := 21) (i := 0) rfl rfl rfl ?_
    refine p_getr (k := 22) rfl lay_X4 rfl fl_RX4_16 ?_
    refine p_iload_n (k := 23) (i := 2) rfl rfl rfl ?_
    refine p_iload_n (k := 24) (i := 3) rfl rfl rfl ?_
    obtain ⟨v3, S1, hcS1, h⟩ := cl_some h
    refine p_callV (k := 25) [.int x2, .int x3] [.int v2] rfl (tX0_trait isC_10 hcS1) (lay_c isC_10) rfl lc_X0_trait ml_RX4_109 mi_X0_trait mv_X0_trait (by decide) (by decide) (Nat.le_of_ble_eq_true rfl) rfl ?_
    refine p_icmp_eq (k := 26) 56 rfl (by decide) (fun hc => ?_) (fun hc => ?_)
    · rw [if_pos hc] at h
      refine p_msk [true, true, true, true, true] (L2 := [some (.ref 0), some (.ref a1), some (.int x2), some (.int x3), some (.int x4)]) rfl ?_
      exact sX4_comesAsTold_L56 h1 hk3 h
    · rw [if_neg hc] at h
      refine p_iconst (k := 27) 0 rfl (by decide) ?_
      exact s_zret h (k := 28) rfl rfl
def fX4_comesAsTold_L3 (a1 : Nat) : Nat → Int32 → Int32 → Int32 → St → Option (Int32 × St)
  | 0 => fun _ _ _ _ => none
  | n + 1 => fun x2 x3 x4 S =>
    if (S a1 2) ≤ x4 then
      retN .boolean 1 S
    else
      if x4 ≤ 0 then
        fX4_comesAsTold_L24 a1 (fun x2 x3 x4 S => fX4_comesAsTold_L3 a1 n x2 x3 x4 S) x2 x3 x4 S
      else
        cl (fX0_passDay 10 S) fun _ S1 =>
        fX4_comesAsTold_L24 a1 (fun x2 x3 x4 S => fX4_comesAsTold_L3 a1 n x2 x3 x4 S) x2 x3 x4 S1
theorem sX4_comesAsTold_L3 {a1 : Nat} (h1 : isS a1) {r : Int32} {S9 : St} : ∀ (n : Nat) (x2 : Int32) (x3 : Int32) (x4 : Int32) (S : St), fX4_comesAsTold_L3 a1 n x2 x3 x4 S = some (r, S9) → PW mX4_comesAsTold (some (.int r), S9) 3 [some (.ref 0), some (.ref a1), some (.int x2), some (.int x3), some (.int x4)] [] S := by
  intro n
  induction n with
  | zero => intro x2 x3 x4 S h; cases h
  | succ n ih =>
    intro x2 x3 x4 S h
    unfold fX4_comesAsTold_L3 at h
    refine p_iload (k := 2) rfl rfl ?_
    refine p_aload_n (k := 3) (i := 1) rfl rfl rfl ?_
    refine p_geti (k := 4) rfl (lay_s h1) rfl fl_RX4_253 ?_
    refine p_icmp_ge (k := 5) 62 rfl (by decide) (fun hc => ?_) (fun hc => ?_)
    · rw [if_pos hc] at h
      refine p_iconst (k := 31) 1 rfl (by decide) ?_
      exact s_zret h (k := 32) rfl rfl
    · rw [if_neg hc] at h
      refine p_iload (k := 6) rfl rfl ?_
      refine p_if_le (k := 7) 24 rfl (by decide) (fun hc => ?_) (fun hc => ?_)
      · rw [if_pos hc] at h
        refine p_msk [true, true, true, true, true] (L2 := [some (.ref 0), some (.ref a1), some (.int x2), some (.int x3), some (.int x4)]) rfl ?_
        exact sX4_comesAsTold_L24 h1 ih h
      · rw [if_neg hc] at h
        refine p_aload_n (k := 8) (i := 0) rfl rfl rfl ?_
        refine p_getr (k := 9) rfl lay_X4 rfl fl_RX4_16 ?_
        obtain ⟨_, S1, hcS1, h⟩ := cl_some h
        refine p_callV (k := 10) [] [] rfl (tX0_passDay isC_10 hcS1) (lay_c isC_10) rfl lc_X0_passDay ml_RX4_212 mi_X0_passDay mv_X0_passDay (by decide) (by decide) (Nat.le_of_ble_eq_true rfl) rfl ?_
        refine p_msk [true, true, true, true, true] (L2 := [some (.ref 0), some (.ref a1), some (.int x2), some (.int x3), some (.int x4)]) rfl ?_
        exact sX4_comesAsTold_L24 h1 ih h
def fX4_comesAsTold (a1 : Nat) (a2 : Int32) (a3 : Int32) (S : St) : Option (Int32 × St) :=
  fX4_comesAsTold_L3 a1 FU a2 a3 0 S
theorem sX4_comesAsTold {a1 : Nat} {a2 : Int32} {a3 : Int32} (h1 : isS a1) {S : St} {r : Int32} {S9 : St} (h : fX4_comesAsTold a1 a2 a3 S = some (r, S9)) : PW mX4_comesAsTold (some (.int r), S9) 0 [some (.ref 0), some (.ref a1), some (.int a2), some (.int a3), none] [] S := by
  unfold fX4_comesAsTold at h
  refine p_iconst (k := 0) 0 rfl (by decide) ?_
  refine p_istore (k := 1) [some (.ref 0), some (.ref a1), some (.int a2), some (.int a3), some (.int 0)] rfl rfl (by decide) rfl ?_
  refine p_msk [true, true, true, true, true] (L2 := [some (.ref 0), some (.ref a1), some (.int a2), some (.int a3), some (.int 0)]) rfl ?_
  exact sX4_comesAsTold_L3 h1 _ _ _ _ _ h
theorem tX4_comesAsTold {a1 : Nat} {a2 : Int32} {a3 : Int32} (h1 : isS a1) {S : St} {r : Int32} {S9 : St} (h : fX4_comesAsTold a1 a2 a3 S = some (r, S9)) : MR yX4_comesAsTold cX4_comesAsTold mX4_comesAsTold [.ref 0, .ref a1, .int a2, .int a3] S (some (.int r), S9) := MR.of (n := 1) okX4_comesAsTold rfl rfl (sX4_comesAsTold h1 h)
-- traitsAsTold(IIIII)I
def fX4_traitsAsTold_L108 (k54 : Int32 → Int32 → Int32 → Int32 → Int32 → Int32 → Int32 → St → Option (Int32 × St)) (x1 : Int32) (x2 : Int32) (x3 : Int32) (x4 : Int32) (x5 : Int32) (x6 : Int32) (x7 : Int32) (S : St) : Option (Int32 × St) :=
  bnd (x7 + 1) fun v1 =>
  k54 x1 x2 x3 x4 x5 x6 v1 S
theorem sX4_traitsAsTold_L108 {r : Int32} {S9 : St} {k54 : Int32 → Int32 → Int32 → Int32 → Int32 → Int32 → Int32 → St → Option (Int32 × St)} (hk54 : ∀ x1 x2 x3 x4 x5 x6 x7 S, k54 x1 x2 x3 x4 x5 x6 x7 S = some (r, S9) → PW mX4_traitsAsTold (some (.int r), S9) 54 [some (.ref 0), some (.int x1), some (.int x2), some (.int x3), some (.int x4), some (.int x5), some (.int x6), some (.int x7)] [] S) {x1 : Int32} {x2 : Int32} {x3 : Int32} {x4 : Int32} {x5 : Int32} {x6 : Int32} {x7 : Int32} {S : St} (h : fX4_traitsAsTold_L108 k54 x1 x2 x3 x4 x5 x6 x7 S = some (r, S9)) : PW mX4_traitsAsTold (some (.int r), S9) 108 [some (.ref 0), some (.int x1), some (.int x2), some (.int x3), some (.int x4), some (.int x5), some (.int x6), some (.int x7)] [] S := by
  unfold fX4_traitsAsTold_L108 at h
  obtain ⟨v1, ev1, h⟩ := bnd_ex h
  refine p_iinc (k := 58) v1 [some (.ref 0), some (.int x1), some (.int x2), some (.int x3), some (.int x4), some (.int x5), some (.int x6), some (.int v1)] rfl rfl (by rw [← ev1]; rfl) rfl (by decide) rfl ?_
  refine p_goto (k := 59) 54 rfl (by decide) ?_
  refine p_msk [true, true, true, true, true, true, true, true] (L2 := [some (.ref 0), some (.int x1), some (.int x2), some (.int x3), some (.int x4), some (.int x5), some (.int x6), some (.int v1)]) rfl ?_
  exact hk54 _ _ _ _ _ _ _ _ h
def fX4_traitsAsTold_L54 : Nat → Int32 → Int32 → Int32 → Int32 → Int32 → Int32 → Int32 → St → Option (Int32 × St)
  | 0 => fun _ _ _ _ _ _ _ _ => none
  | n + 1 => fun x1 x2 x3 x4 x5 x6 x7 S =>
    if x4 ≤ x7 then
      some (x6, S)
    else
      cl (fX0_become 10 1 S) fun _ S1 =>
      cl (fX0_setTrait 10 x2 x3 x7 S1) fun _ S2 =>
      ink 4 x1 <|
      cl (fX4_comesAsTold (32 + 2 * (x1 : Int32).toNatClampNeg) x2 x5 S2) fun v2 S3 =>
      if v2 = 0 then
        fX4_traitsAsTold_L108 (fun x1 x2 x3 x4 x5 x6 x7 S => fX4_traitsAsTold_L54 n x1 x2 x3 x4 x5 x6 x7 S) x1 x2 x3 x4 x5 x6 x7 S3
      else
        bnd (x6 ||| (1 <<< (x7 &&& 31))) fun v3 =>
        fX4_traitsAsTold_L108 (fun x1 x2 x3 x4 x5 x6 x7 S => fX4_traitsAsTold_L54 n x1 x2 x3 x4 x5 x6 x7 S) x1 x2 x3 x4 x5 v3 x7 S3
theorem sX4_traitsAsTold_L54 {r : Int32} {S9 : St} : ∀ (n : Nat) (x1 : Int32) (x2 : Int32) (x3 : Int32) (x4 : Int32) (x5 : Int32) (x6 : Int32) (x7 : Int32) (S : St), fX4_traitsAsTold_L54 n x1 x2 x3 x4 x5 x6 x7 S = some (r, S9) → PW mX4_traitsAsTold (some (.int r), S9) 54 [some (.ref 0), some (.int x1), some (.int x2), some (.int x3), some (.int x4), some (.int x5), some (.int x6), some (.int x7)] [] S := by
  intro n
  induction n with
  | zero => intro x1 x2 x3 x4 x5 x6 x7 S h; cases h
  | succ n ih =>
    intro x1 x2 x3 x4 x5 x6 x7 S h
    unfold fX4_traitsAsTold_L54 at h
    refine p_iload (k := 29) rfl rfl ?_
    refine p_iload (k := 30) rfl rfl ?_
    refine p_icmp_ge (k := 31) 114 rfl (by decide) (fun hc => ?_) (fun hc => ?_)
    · rw [if_pos hc] at h
      refine p_iload (k := 60) rfl rfl ?_
      exact s_iret h (k := 61) rfl rfl
    · rw [if_neg hc] at h
      refine p_aload_n (k := 32) (i := 0) rfl rfl rfl ?_
      refine p_getr (k := 33) rfl lay_X4 rfl fl_RX4_16 ?_
      refine p_aload_n (k := 34) (i := 0) rfl rfl rfl ?_
      refine p_getr (k := 35) rfl lay_X4 rfl fl_RX4_12 ?_
      obtain ⟨_, S1, hcS1, h⟩ := cl_some h
      refine p_callV (k := 36) [.ref 1] [] rfl (tX0_become isC_10 isC_1 hcS1) (lay_c isC_10) rfl lc_X0_become ml_RX4_172 mi_X0_become mv_X0_become (by decide) (by decide) (Nat.le_of_ble_eq_true rfl) rfl ?_
      refine p_aload_n (k := 37) (i := 0) rfl rfl rfl ?_
      refine p_getr (k := 38) rfl lay_X4 rfl fl_RX4_16 ?_
      refine p_iload_n (k := 39) (i := 2) rfl rfl rfl ?_
      refine p_iload_n (k := 40) (i := 3) rfl rfl rfl ?_
      refine p_iload (k := 41) rfl rfl ?_
      obtain ⟨_, S2, hcS2, h⟩ := cl_some h
      refine p_callV (k := 42) [.int x2, .int x3, .int x7] [] rfl (tX0_setTrait isC_10 hcS2) (lay_c isC_10) rfl lc_X0_setTrait ml_RX4_115 mi_X0_setTrait mv_X0_setTrait (by decide) (by decide) (Nat.le_of_ble_eq_true rfl) rfl ?_
      refine p_aload_n (k := 43) (i := 0) rfl rfl rfl ?_
      refine p_aload_n (k := 44) (i := 0) rfl rfl rfl ?_
      refine p_getr (k := 45) rfl lay_X4 rfl fl_RX4_44 ?_
      refine p_iload_n (k := 46) (i := 1) rfl rfl rfl ?_
      obtain ⟨hi1, h⟩ := ink_some h
      refine p_aald (k := 47) rfl lay_31 hi1 ?_
      refine p_iload_n (k := 48) (i := 2) rfl rfl rfl ?_
      refine p_iload (k := 49) rfl rfl ?_
      obtain ⟨v2, S3, hcS3, h⟩ := cl_some h
      refine p_callV (k := 50) [.ref (32 + 2 * (x1 : Int32).toNatClampNeg), .int x2, .int x5] [] rfl (tX4_comesAsTold (isS_of hi1) hcS3) lay_X4 rfl lc_X4_comesAsTold ml_RX4_284 mi_X4_comesAsTold mv_X4_comesAsTold (by decide) (by decide) (Nat.le_of_ble_eq_true rfl) rfl ?_
      refine p_if_eq (k := 51) 108 rfl (by decide) (fun hc => ?_) (fun hc => ?_)
      · rw [if_pos hc] at h
        refine p_msk [true, true, true, true, true, true, true, true] (L2 := [some (.ref 0), some (.int x1), some (.int x2), some (.int x3), some (.int x4), some (.int x5), some (.int x6), some (.int x7)]) rfl ?_
        exact sX4_traitsAsTold_L108 ih h
      · rw [if_neg hc] at h
        refine p_iload (k := 52) rfl rfl ?_
        refine p_iconst (k := 53) 1 rfl (by decide) ?_
        refine p_iload (k := 54) rfl rfl ?_
        refine p_ishl (k := 55) rfl ?_
        refine p_ior (k := 56) rfl ?_
        refine s_bnd h (fun v3 h => ?_)
        refine p_istore (k := 57) [some (.ref 0), some (.int x1), some (.int x2), some (.int x3), some (.int x4), some (.int x5), some (.int v3), some (.int x7)] rfl rfl (by decide) rfl ?_
        refine p_msk [true, true, true, true, true, true, true, true] (L2 := [some (.ref 0), some (.int x1), some (.int x2), some (.int x3), some (.int x4), some (.int x5), some (.int v3), some (.int x7)]) rfl ?_
        exact sX4_traitsAsTold_L108 ih h
def fX4_traitsAsTold (a1 : Int32) (a2 : Int32) (a3 : Int32) (a4 : Int32) (a5 : Int32) (S : St) : Option (Int32 × St) :=
  cl (fX4_isSheet a1 S) fun v1 S1 =>
  if v1 = 0 then
    cl (fX4_found (-1000001) S1) fun v7 S6 =>
    some (v7, S6)
  else
    ink 4 a1 <|
    cl (fX2_isMissing (32 + 2 * (a1 : Int32).toNatClampNeg) S1) fun v3 S2 =>
    if v3 = 0 then
      cl (fX4_isGoat a2 S2) fun v4 S3 =>
      if v4 = 0 then
        cl (fX4_found (-1000001) S3) fun v5 S4 =>
        some (v5, S4)
      else
        fX4_traitsAsTold_L54 FU a1 a2 a3 a4 a5 0 0 S3
    else
      cl (fX4_found (-1000006) S2) fun v6 S5 =>
      some (v6, S5)
theorem sX4_traitsAsTold {a1 : Int32} {a2 : Int32} {a3 : Int32} {a4 : Int32} {a5 : Int32} {S : St} {r : Int32} {S9 : St} (h : fX4_traitsAsTold a1 a2 a3 a4 a5 S = some (r, S9)) : PW mX4_traitsAsTold (some (.int r), S9) 0 [some (.ref 0), some (.int a1), some (.int a2), some (.int a3), some (.int a4), some (.int a5), none, none] [] S := by
  unfold fX4_traitsAsTold at h
  refine p_iload_n (k := 0) (i := 1) rfl rfl rfl ?_
  obtain ⟨v1, S1, hcS1, h⟩ := cl_some h
  refine p_callS (k := 1) [.int a1] [] rfl (tX4_isSheet hcS1) lc_X4_isSheet ml_RX4_246 ms_X4_isSheet (by decide) (by decide) (Nat.le_of_ble_eq_true rfl) rfl ?_
  refine p_if_ne (k := 2) 14 rfl (by decide) (fun hc => ?_) (fun hc => ?_)
  · rw [if_neg hc] at h
    refine p_aload_n (k := 7) (i := 0) rfl rfl rfl ?_
    refine p_getr (k := 8) rfl lay_X4 rfl fl_RX4_44 ?_
    refine p_iload_n (k := 9) (i := 1) rfl rfl rfl ?_
    obtain ⟨hi2, h⟩ := ink_some h
    refine p_aald (k := 10) rfl lay_31 hi2 ?_
    obtain ⟨v3, S2, hcS2, h⟩ := cl_some h
    refine p_callV (k := 11) [] [] rfl (tX2_isMissing (isS_of hi2) hcS2) (lay_s (isS_of hi2)) rfl lc_X2_isMissing ml_RX4_254 mi_X2_isMissing mv_X2_isMissing (by decide) (by decide) (Nat.le_of_ble_eq_true rfl) rfl ?_
    refine p_if_eq (k := 12) 33 rfl (by decide) (fun hc => ?_) (fun hc => ?_)
    · rw [if_pos hc] at h
      refine p_aload_n (k := 17) (i := 0) rfl rfl rfl ?_
      refine p_iload_n (k := 18) (i := 2) rfl rfl rfl ?_
      obtain ⟨v4, S3, hcS3, h⟩ := cl_some h
      refine p_callV (k := 19) [.int a2] [] rfl (tX4_isGoat hcS3) lay_X4 rfl lc_X4_isGoat ml_RX4_94 mi_X4_isGoat mv_X4_isGoat (by decide) (by decide) (Nat.le_of_ble_eq_true rfl) rfl ?_
      refine p_if_ne (k := 20) 48 rfl (by decide) (fun hc => ?_) (fun hc => ?_)
      · rw [if_neg hc] at h
        refine p_iconst (k := 25) 0 rfl (by decide) ?_
        refine p_istore (k := 26) [some (.ref 0), some (.int a1), some (.int a2), some (.int a3), some (.int a4), some (.int a5), some (.int 0), none] rfl rfl (by decide) rfl ?_
        refine p_iconst (k := 27) 0 rfl (by decide) ?_
        refine p_istore (k := 28) [some (.ref 0), some (.int a1), some (.int a2), some (.int a3), some (.int a4), some (.int a5), some (.int 0), some (.int 0)] rfl rfl (by decide) rfl ?_
        refine p_msk [true, true, true, true, true, true, true, true] (L2 := [some (.ref 0), some (.int a1), some (.int a2), some (.int a3), some (.int a4), some (.int a5), some (.int 0), some (.int 0)]) rfl ?_
        exact sX4_traitsAsTold_L54 _ _ _ _ _ _ _ _ _ h
      · rw [if_pos hc] at h
        refine p_aload_n (k := 21) (i := 0) rfl rfl rfl ?_
        refine p_ldc (k := 22) rfl k_RX4_61 ?_
        obtain ⟨v5, S4, hcS4, h⟩ := cl_some h
        refine p_callV (k := 23) [.int (-1000001)] [] rfl (tX4_found hcS4) lay_X4 rfl lc_X4_found ml_RX4_62 mi_X4_found mv_X4_found (by decide) (by decide) (Nat.le_of_ble_eq_true rfl) rfl ?_
        exact s_iret h (k := 24) rfl rfl
    · rw [if_neg hc] at h
      refine p_aload_n (k := 13) (i := 0) rfl rfl rfl ?_
      refine p_ldc (k := 14) rfl k_RX4_238 ?_
      obtain ⟨v6, S5, hcS5, h⟩ := cl_some h
      refine p_callV (k := 15) [.int (-1000006)] [] rfl (tX4_found hcS5) lay_X4 rfl lc_X4_found ml_RX4_62 mi_X4_found mv_X4_found (by decide) (by decide) (Nat.le_of_ble_eq_true rfl) rfl ?_
      exact s_iret h (k := 16) rfl rfl
  · rw [if_pos hc] at h
    refine p_aload_n (k := 3) (i := 0) rfl rfl rfl ?_
    refine p_ldc (k := 4) rfl k_RX4_61 ?_
    obtain ⟨v7, S6, hcS6, h⟩ := cl_some h
    refine p_callV (k := 5) [.int (-1000001)] [] rfl (tX4_found hcS6) lay_X4 rfl lc_X4_found ml_RX4_62 mi_X4_found mv_X4_found (by decide) (by decide) (Nat.le_of_ble_eq_true rfl) rfl ?_
    exact s_iret h (k := 6) rfl rfl
theorem tX4_traitsAsTold {a1 : Int32} {a2 : Int32} {a3 : Int32} {a4 : Int32} {a5 : Int32} {S : St} {r : Int32} {S9 : St} (h : fX4_traitsAsTold a1 a2 a3 a4 a5 S = some (r, S9)) : MR yX4_traitsAsTold cX4_traitsAsTold mX4_traitsAsTold [.ref 0, .int a1, .int a2, .int a3, .int a4, .int a5] S (some (.int r), S9) := MR.of (n := 2) okX4_traitsAsTold rfl rfl (sX4_traitsAsTold h)
-- kinds(II)I
def fX4_kinds (a1 : Int32) (a2 : Int32) (S : St) : Option (Int32 × St) :=
  cl (fX4_traitsAsTold a1 a2 0 7 1 S) fun v1 S1 =>
  some (v1, S1)
theorem sX4_kinds {a1 : Int32} {a2 : Int32} {S : St} {r : Int32} {S9 : St} (h : fX4_kinds a1 a2 S = some (r, S9)) : PW mX4_kinds (some (.int r), S9) 0 [some (.ref 0), some (.int a1), some (.int a2)] [] S := by
  unfold fX4_kinds at h
  refine p_aload_n (k := 0) (i := 0) rfl rfl rfl ?_
  refine p_iload_n (k := 1) (i := 1) rfl rfl rfl ?_
  refine p_iload_n (k := 2) (i := 2) rfl rfl rfl ?_
  refine p_iconst (k := 3) 0 rfl (by decide) ?_
  refine p_bipush (k := 4) 7 rfl (by decide) ?_
  refine p_iconst (k := 5) 1 rfl (by decide) ?_
  obtain ⟨v1, S1, hcS1, h⟩ := cl_some h
  refine p_callV (k := 6) [.int a1, .int a2, .int 0, .int 7, .int 1] [] rfl (tX4_traitsAsTold hcS1) lay_X4 rfl lc_X4_traitsAsTold ml_RX4_205 mi_X4_traitsAsTold mv_X4_traitsAsTold (by decide) (by decide) (Nat.le_of_ble_eq_true rfl) rfl ?_
  exact s_iret h (k := 7) rfl rfl
theorem tX4_kinds {a1 : Int32} {a2 : Int32} {S : St} {r : Int32} {S9 : St} (h : fX4_kinds a1 a2 S = some (r, S9)) : MR yX4_kinds cX4_kinds mX4_kinds [.ref 0, .int a1, .int a2] S (some (.int r), S9) := MR.of (n := 0) okX4_kinds rfl rfl (sX4_kinds h)
-- fits(II)I
def fX4_fits (a1 : Int32) (a2 : Int32) (S : St) : Option (Int32 × St) :=
  cl (fX4_traitsAsTold a1 a2 1 12 4 S) fun v1 S1 =>
  some (v1, S1)
theorem sX4_fits {a1 : Int32} {a2 : Int32} {S : St} {r : Int32} {S9 : St} (h : fX4_fits a1 a2 S = some (r, S9)) : PW mX4_fits (some (.int r), S9) 0 [some (.ref 0), some (.int a1), some (.int a2)] [] S := by
  unfold fX4_fits at h
  refine p_aload_n (k := 0) (i := 0) rfl rfl rfl ?_
  refine p_iload_n (k := 1) (i := 1) rfl rfl rfl ?_
  refine p_iload_n (k := 2) (i := 2) rfl rfl rfl ?_
  refine p_iconst (k := 3) 1 rfl (by decide) ?_
  refine p_bipush (k := 4) 12 rfl (by decide) ?_
  refine p_iconst (k := 5) 4 rfl (by decide) ?_
  obtain ⟨v1, S1, hcS1, h⟩ := cl_some h
  refine p_callV (k := 6) [.int a1, .int a2, .int 1, .int 12, .int 4] [] rfl (tX4_traitsAsTold hcS1) lay_X4 rfl lc_X4_traitsAsTold ml_RX4_205 mi_X4_traitsAsTold mv_X4_traitsAsTold (by decide) (by decide) (Nat.le_of_ble_eq_true rfl) rfl ?_
  exact s_iret h (k := 7) rfl rfl
theorem tX4_fits {a1 : Int32} {a2 : Int32} {S : St} {r : Int32} {S9 : St} (h : fX4_fits a1 a2 S = some (r, S9)) : MR yX4_fits cX4_fits mX4_fits [.ref 0, .int a1, .int a2] S (some (.int r), S9) := MR.of (n := 0) okX4_fits rfl rfl (sX4_fits h)
-- slips(I)I
def fX4_slips_L11 (S : St) : Option (Int32 × St) :=
  cl (fX4_found (-1000001) S) fun v1 S1 =>
  some (v1, S1)
theorem sX4_slips_L11 {r : Int32} {S9 : St}  {S : St} (h : fX4_slips_L11 S = some (r, S9)) : PW mX4_slips (some (.int r), S9) 11 [some (.ref 0), none, none] [] S := by
  unfold fX4_slips_L11 at h
  refine p_aload_n (k := 6) (i := 0) rfl rfl rfl ?_
  refine p_ldc (k := 7) rfl k_RX4_61 ?_
  obtain ⟨v1, S1, hcS1, h⟩ := cl_some h
  refine p_callV (k := 8) [.int (-1000001)] [] rfl (tX4_found hcS1) lay_X4 rfl lc_X4_found ml_RX4_62 mi_X4_found mv_X4_found (by decide) (by decide) (Nat.le_of_ble_eq_true rfl) rfl ?_
  exact s_iret h (k := 9) rfl rfl
def fX4_slips_L41 : Nat → Int32 → Int32 → St → Option (Int32 × St)
  | 0 => fun _ _ _ => none
  | n + 1 => fun x1 x2 S =>
    if x1 ≤ x2 then
      cl (fX0_pagesKnown 1 S) fun v1 S1 =>
      some (v1, S1)
    else
      cl (fX0_slip 1 S) fun _ S2 =>
      cl (fX0_passDay 1 S2) fun _ S3 =>
      bnd (x2 + 1) fun v2 =>
      fX4_slips_L41 n x1 v2 S3
theorem sX4_slips_L41 {r : Int32} {S9 : St} : ∀ (n : Nat) (x1 : Int32) (x2 : Int32) (S : St), fX4_slips_L41 n x1 x2 S = some (r, S9) → PW mX4_slips (some (.int r), S9) 41 [some (.ref 0), some (.int x1), some (.int x2)] [] S := by
  intro n
  induction n with
  | zero => intro x1 x2 S h; cases h
  | succ n ih =>
    intro x1 x2 S h
    unfold fX4_slips_L41 at h
    refine p_iload_n (k := 23) (i := 2) rfl rfl rfl ?_
    refine p_iload_n (k := 24) (i := 1) rfl rfl rfl ?_
    refine p_icmp_ge (k := 25) 66 rfl (by decide) (fun hc => ?_) (fun hc => ?_)
    · rw [if_pos hc] at h
      refine p_aload_n (k := 34) (i := 0) rfl rfl rfl ?_
      refine p_getr (k := 35) rfl lay_X4 rfl fl_RX4_12 ?_
      obtain ⟨v1, S1, hcS1, h⟩ := cl_some h
      refine p_callV (k := 36) [] [] rfl (tX0_pagesKnown isC_1 hcS1) (lay_c isC_1) rfl lc_X0_pagesKnown ml_RX4_152 mi_X0_pagesKnown mv_X0_pagesKnown (by decide) (by decide) (Nat.le_of_ble_eq_true rfl) rfl ?_
      exact s_iret h (k := 37) rfl rfl
    · rw [if_neg hc] at h
      refine p_aload_n (k := 26) (i := 0) rfl rfl rfl ?_
      refine p_getr (k := 27) rfl lay_X4 rfl fl_RX4_12 ?_
      obtain ⟨_, S2, hcS2, h⟩ := cl_some h
      refine p_callV (k := 28) [] [] rfl (tX0_slip isC_1 hcS2) (lay_c isC_1) rfl lc_X0_slip ml_RX4_209 mi_X0_slip mv_X0_slip (by decide) (by decide) (Nat.le_of_ble_eq_true rfl) rfl ?_
      refine p_aload_n (k := 29) (i := 0) rfl rfl rfl ?_
      refine p_getr (k := 30) rfl lay_X4 rfl fl_RX4_12 ?_
      obtain ⟨_, S3, hcS3, h⟩ := cl_some h
      refine p_callV (k := 31) [] [] rfl (tX0_passDay isC_1 hcS3) (lay_c isC_1) rfl lc_X0_passDay ml_RX4_212 mi_X0_passDay mv_X0_passDay (by decide) (by decide) (Nat.le_of_ble_eq_true rfl) rfl ?_
      obtain ⟨v2, ev2, h⟩ := bnd_ex h
      refine p_iinc (k := 32) v2 [some (.ref 0), some (.int x1), some (.int v2)] rfl rfl (by rw [← ev2]; rfl) rfl (by decide) rfl ?_
      refine p_goto (k := 33) 41 rfl (by decide) ?_
      refine p_msk [true, true, true] (L2 := [some (.ref 0), some (.int x1), some (.int v2)]) rfl ?_
      exact ih _ _ _ h
def fX4_slips (a1 : Int32) (S : St) : Option (Int32 × St) :=
  if a1 < 1 then
    fX4_slips_L11 S
  else
    if a1 ≤ 20 then
      if ((S 1 12) + a1) ≤ 99999 then
        fX4_slips_L41 FU a1 0 S
      else
        cl (fX4_found (-1000005) S) fun v1 S1 =>
        some (v1, S1)
    else
      fX4_slips_L11 S
theorem sX4_slips {a1 : Int32} {S : St} {r : Int32} {S9 : St} (h : fX4_slips a1 S = some (r, S9)) : PW mX4_slips (some (.int r), S9) 0 [some (.ref 0), some (.int a1), none] [] S := by
  unfold fX4_slips at h
  refine p_iload_n (k := 0) (i := 1) rfl rfl rfl ?_
  refine p_iconst (k := 1) 1 rfl (by decide) ?_
  refine p_icmp_lt (k := 2) 11 rfl (by decide) (fun hc => ?_) (fun hc => ?_)
  · rw [if_pos hc] at h
    refine p_msk [true, false, false] (L2 := [some (.ref 0), none, none]) rfl ?_
    exact sX4_slips_L11 h
  · rw [if_neg hc] at h
    refine p_iload_n (k := 3) (i := 1) rfl rfl rfl ?_
    refine p_bipush (k := 4) 20 rfl (by decide) ?_
    refine p_icmp_le (k := 5) 18 rfl (by decide) (fun hc => ?_) (fun hc => ?_)
    · rw [if_pos hc] at h
      refine p_aload_n (k := 10) (i := 0) rfl rfl rfl ?_
      refine p_getr (k := 11) rfl lay_X4 rfl fl_RX4_12 ?_
      refine p_geti (k := 12) rfl (lay_c isC_1) rfl fl_RX4_144 ?_
      refine p_iload_n (k := 13) (i := 1) rfl rfl rfl ?_
      refine p_iadd (k := 14) rfl ?_
      refine p_ldc (k := 15) rfl k_RX4_147 ?_
      refine p_icmp_le (k := 16) 39 rfl (by decide) (fun hc => ?_) (fun hc => ?_)
      · rw [if_pos hc] at h
        refine p_iconst (k := 21) 0 rfl (by decide) ?_
        refine p_istore_n (k := 22) 2 [some (.ref 0), some (.int a1), some (.int 0)] rfl rfl rfl (by decide) rfl ?_
        refine p_msk [true, true, true] (L2 := [some (.ref 0), some (.int a1), some (.int 0)]) rfl ?_
        exact sX4_slips_L41 _ _ _ _ h
      · rw [if_neg hc] at h
        refine p_aload_n (k := 17) (i := 0) rfl rfl rfl ?_
        refine p_ldc (k := 18) rfl k_RX4_135 ?_
        obtain ⟨v1, S1, hcS1, h⟩ := cl_some h
        refine p_callV (k := 19) [.int (-1000005)] [] rfl (tX4_found hcS1) lay_X4 rfl lc_X4_found ml_RX4_62 mi_X4_found mv_X4_found (by decide) (by decide) (Nat.le_of_ble_eq_true rfl) rfl ?_
        exact s_iret h (k := 20) rfl rfl
    · rw [if_neg hc] at h
      refine p_msk [true, false, false] (L2 := [some (.ref 0), none, none]) rfl ?_
      exact sX4_slips_L11 h
theorem tX4_slips {a1 : Int32} {S : St} {r : Int32} {S9 : St} (h : fX4_slips a1 S = some (r, S9)) : MR yX4_slips cX4_slips mX4_slips [.ref 0, .int a1] S (some (.int r), S9) := MR.of (n := 1) okX4_slips rfl rfl (sX4_slips h)
-- power(II)J
def fX4_power_L5 : Nat → Int32 → Int32 → Int64 → Int32 → St → Option (Int64 × St)
  | 0 => fun _ _ _ _ _ => none
  | n + 1 => fun x0 x1 x2 x4 S =>
    if x1 ≤ x4 then
      some (x2, S)
    else
      bnd (x2 * (Int32.toInt64 x0)) fun v1 =>
      bnd (x4 + 1) fun v2 =>
      fX4_power_L5 n x0 x1 v1 v2 S
theorem sX4_power_L5 {r : Int64} {S9 : St} : ∀ (n : Nat) (x0 : Int32) (x1 : Int32) (x2 : Int64) (x4 : Int32) (S : St), fX4_power_L5 n x0 x1 x2 x4 S = some (r, S9) → PW mX4_power (some (.long r), S9) 5 [some (.int x0), some (.int x1), some (.long x2), none, some (.int x4)] [] S := by
  intro n
  induction n with
  | zero => intro x0 x1 x2 x4 S h; cases h
  | succ n ih =>
    intro x0 x1 x2 x4 S h
    unfold fX4_power_L5 at h
    refine p_iload (k := 4) rfl rfl ?_
    refine p_iload_n (k := 5) (i := 1) rfl rfl rfl ?_
    refine p_icmp_ge (k := 6) 22 rfl (by decide) (fun hc => ?_) (fun hc => ?_)
    · rw [if_pos hc] at h
      refine p_lload_n (k := 14) (i := 2) rfl rfl rfl ?_
      exact s_lret h (k := 15) rfl rfl
    · rw [if_neg hc] at h
      refine p_lload_n (k := 7) (i := 2) rfl rfl rfl ?_
      refine p_iload_n (k := 8) (i := 0) rfl rfl rfl ?_
      refine p_i2l (k := 9) rfl ?_
      refine p_lmul (k := 10) rfl ?_
      refine s_bndL h (fun v1 h => ?_)
      refine p_lstore_n (k := 11) 2 [some (.int x0), some (.int x1), some (.long v1), none, some (.int x4)] rfl rfl rfl (by decide) rfl ?_
      obtain ⟨v2, ev2, h⟩ := bnd_ex h
      refine p_iinc (k := 12) v2 [some (.int x0), some (.int x1), some (.long v1), none, some (.int v2)] rfl rfl (by rw [← ev2]; rfl) rfl (by decide) rfl ?_
      refine p_goto (k := 13) 5 rfl (by decide) ?_
      refine p_msk [true, true, true, false, true] (L2 := [some (.int x0), some (.int x1), some (.long v1), none, some (.int v2)]) rfl ?_
      exact ih _ _ _ _ _ h
def fX4_power (a1 : Int32) (a2 : Int32) (S : St) : Option (Int64 × St) :=
  fX4_power_L5 FU a1 a2 1 0 S
theorem sX4_power {a1 : Int32} {a2 : Int32} {S : St} {r : Int64} {S9 : St} (h : fX4_power a1 a2 S = some (r, S9)) : PW mX4_power (some (.long r), S9) 0 [some (.int a1), some (.int a2), none, none, none] [] S := by
  unfold fX4_power at h
  refine p_lconst (k := 0) 1 rfl (by decide) ?_
  refine p_lstore_n (k := 1) 2 [some (.int a1), some (.int a2), some (.long 1), none, none] rfl rfl rfl (by decide) rfl ?_
  refine p_iconst (k := 2) 0 rfl (by decide) ?_
  refine p_istore (k := 3) [some (.int a1), some (.int a2), some (.long 1), none, some (.int 0)] rfl rfl (by decide) rfl ?_
  refine p_msk [true, true, true, false, true] (L2 := [some (.int a1), some (.int a2), some (.long 1), none, some (.int 0)]) rfl ?_
  exact sX4_power_L5 _ _ _ _ _ _ h
theorem tX4_power {a1 : Int32} {a2 : Int32} {S : St} {r : Int64} {S9 : St} (h : fX4_power a1 a2 S = some (r, S9)) : MR yX4_power cX4_power mX4_power [.int a1, .int a2] S (some (.long r), S9) := MR.of (n := 3) okX4_power rfl rfl (sX4_power h)
-- odds(II)J
def fX4_odds_L17 (S : St) : Option (Int64 × St) :=
  cl (fX4_found (-1000001) S) fun v1 S1 =>
  some (Int32.toInt64 v1, S1)
theorem sX4_odds_L17 {r : Int64} {S9 : St}  {S : St} (h : fX4_odds_L17 S = some (r, S9)) : PW mX4_odds (some (.long r), S9) 17 [some (.ref 0), none, none, none, none] [] S := by
  unfold fX4_odds_L17 at h
  refine p_aload_n (k := 8) (i := 0) rfl rfl rfl ?_
  refine p_ldc (k := 9) rfl k_RX4_61 ?_
  obtain ⟨v1, S1, hcS1, h⟩ := cl_some h
  refine p_callV (k := 10) [.int (-1000001)] [] rfl (tX4_found hcS1) lay_X4 rfl lc_X4_found ml_RX4_62 mi_X4_found mv_X4_found (by decide) (by decide) (Nat.le_of_ble_eq_true rfl) rfl ?_
  refine p_i2l (k := 11) rfl ?_
  exact s_lret h (k := 12) rfl rfl
def fX4_odds_L75 (x1 : Int32) (y0 : Int32) (S : St) : Option (Int64 × St) :=
  cl (fX4_power y0 x1 S) fun v1 S1 =>
  some (v1, S1)
theorem sX4_odds_L75 {r : Int64} {S9 : St} {x1 : Int32} {y0 : Int32} {S : St} (h : fX4_odds_L75 x1 y0 S = some (r, S9)) : PW mX4_odds (some (.long r), S9) 75 [none, some (.int x1), none, none, none] [.int y0] S := by
  unfold fX4_odds_L75 at h
  refine p_iload_n (k := 41) (i := 1) rfl rfl rfl ?_
  obtain ⟨v1, S1, hcS1, h⟩ := cl_some h
  refine p_callS (k := 42) [.int y0, .int x1] [] rfl (tX4_power hcS1) lc_X4_power ml_RX4_215 ms_X4_power (by decide) (by decide) (Nat.le_of_ble_eq_true rfl) rfl ?_
  exact s_lret h (k := 43) rfl rfl
def fX4_odds_L65 (x1 : Int32) (x2 : Int32) (x3 : Int32) (x4 : Int32) (S : St) : Option (Int64 × St) :=
  if x2 = 0 then
    fX4_odds_L75 x1 x3 S
  else
    fX4_odds_L75 x1 x4 S
theorem sX4_odds_L65 {r : Int64} {S9 : St} {x1 : Int32} {x2 : Int32} {x3 : Int32} {x4 : Int32} {S : St} (h : fX4_odds_L65 x1 x2 x3 x4 S = some (r, S9)) : PW mX4_odds (some (.long r), S9) 65 [none, some (.int x1), some (.int x2), some (.int x3), some (.int x4)] [] S := by
  unfold fX4_odds_L65 at h
  refine p_iload_n (k := 36) (i := 2) rfl rfl rfl ?_
  refine p_if_ne (k := 37) 73 rfl (by decide) (fun hc => ?_) (fun hc => ?_)
  · rw [if_neg hc] at h
    refine p_iload (k := 40) rfl rfl ?_
    refine p_msk [false, true, false, false, false] (L2 := [none, some (.int x1), none, none, none]) rfl ?_
    exact sX4_odds_L75 h
  · rw [if_pos hc] at h
    refine p_iload_n (k := 38) (i := 3) rfl rfl rfl ?_
    refine p_goto (k := 39) 75 rfl (by decide) ?_
    refine p_msk [false, true, false, false, false] (L2 := [none, some (.int x1), none, none, none]) rfl ?_
    exact sX4_odds_L75 h
def fX4_odds_L40 : Nat → Int32 → Int32 → Int32 → Int32 → St → Option (Int64 × St)
  | 0 => fun _ _ _ _ _ => none
  | n + 1 => fun x1 x2 x3 x4 S =>
    if x4 ≤ 1 then
      fX4_odds_L65 x1 x2 x3 x4 S
    else
      if (x3 - x3 / 2 * 2) = 0 then
        bnd (x3 / 2) fun v1 =>
        bnd (x4 / 2) fun v2 =>
        fX4_odds_L40 n x1 x2 v1 v2 S
      else
        fX4_odds_L65 x1 x2 x3 x4 S
theorem sX4_odds_L40 {r : Int64} {S9 : St} : ∀ (n : Nat) (x1 : Int32) (x2 : Int32) (x3 : Int32) (x4 : Int32) (S : St), fX4_odds_L40 n x1 x2 x3 x4 S = some (r, S9) → PW mX4_odds (some (.long r), S9) 40 [none, some (.int x1), some (.int x2), some (.int x3), some (.int x4)] [] S := by
  intro n
  induction n with
  | zero => intro x1 x2 x3 x4 S h; cases h
  | succ n ih =>
    intro x1 x2 x3 x4 S h
    unfold fX4_odds_L40 at h
    refine p_iload (k := 20) rfl rfl ?_
    refine p_iconst (k := 21) 1 rfl (by decide) ?_
    refine p_icmp_le (k := 22) 65 rfl (by decide) (fun hc => ?_) (fun hc => ?_)
    · rw [if_pos hc] at h
      refine p_msk [false, true, true, true, true] (L2 := [none, some (.int x1), some (.int x2), some (.int x3), some (.int x4)]) rfl ?_
      exact sX4_odds_L65 h
    · rw [if_neg hc] at h
      refine p_iload_n (k := 23) (i := 3) rfl rfl rfl ?_
      refine p_iconst (k := 24) 2 rfl (by decide) ?_
      refine p_irem (k := 25) rfl (by decide) ?_
      refine p_if_ne (k := 26) 65 rfl (by decide) (fun hc => ?_) (fun hc => ?_)
      · rw [if_neg hc] at h
        refine p_msk [false, true, true, true, true] (L2 := [none, some (.int x1), some (.int x2), some (.int x3), some (.int x4)]) rfl ?_
        exact sX4_odds_L65 h
      · rw [if_pos hc] at h
        refine p_iload_n (k := 27) (i := 3) rfl rfl rfl ?_
        refine p_iconst (k := 28) 2 rfl (by decide) ?_
        refine p_idiv (k := 29) rfl (by decide) ?_
        refine s_bnd h (fun v1 h => ?_)
        refine p_istore_n (k := 30) 3 [none, some (.int x1), some (.int x2), some (.int v1), some (.int x4)] rfl rfl rfl (by decide) rfl ?_
        refine p_iload (k := 31) rfl rfl ?_
        refine p_iconst (k := 32) 2 rfl (by decide) ?_
        refine p_idiv (k := 33) rfl (by decide) ?_
        refine s_bnd h (fun v2 h => ?_)
        refine p_istore (k := 34) [none, some (.int x1), some (.int x2), some (.int v1), some (.int v2)] rfl rfl (by decide) rfl ?_
        refine p_goto (k := 35) 40 rfl (by decide) ?_
        refine p_msk [false, true, true, true, true] (L2 := [none, some (.int x1), some (.int x2), some (.int v1), some (.int v2)]) rfl ?_
        exact ih _ _ _ _ _ h
def fX4_odds (a1 : Int32) (a2 : Int32) (S : St) : Option (Int64 × St) :=
  cl (fX4_isWithin a1 15 S) fun v1 S1 =>
  if v1 = 0 then
    fX4_odds_L17 S1
  else
    cl (fX4_isWithin a2 1 S1) fun v2 S2 =>
    if v2 = 0 then
      fX4_odds_L17 S2
    else
      cl (fX0_pagesKnown 1 S2) fun v3 S3 =>
      cl (fJ6_bitCount_0f7a4 v3 S3) fun v4 S4 =>
      fX4_odds_L40 FU a1 a2 v4 16 S4
theorem sX4_odds {a1 : Int32} {a2 : Int32} {S : St} {r : Int64} {S9 : St} (h : fX4_odds a1 a2 S = some (r, S9)) : PW mX4_odds (some (.long r), S9) 0 [some (.ref 0), some (.int a1), some (.int a2), none, none] [] S := by
  unfold fX4_odds at h
  refine p_iload_n (k := 0) (i := 1) rfl rfl rfl ?_
  refine p_bipush (k := 1) 15 rfl (by decide) ?_
  obtain ⟨v1, S1, hcS1, h⟩ := cl_some h
  refine p_callS (k := 2) [.int a1, .int 15] [] rfl (tX4_isWithin hcS1) lc_X4_isWithin ml_RX4_57 ms_X4_isWithin (by decide) (by decide) (Nat.le_of_ble_eq_true rfl) rfl ?_
  refine p_if_eq (k := 3) 17 rfl (by decide) (fun hc => ?_) (fun hc => ?_)
  · rw [if_pos hc] at h
    refine p_msk [true, false, false, false, false] (L2 := [some (.ref 0), none, none, none, none]) rfl ?_
    exact sX4_odds_L17 h
  · rw [if_neg hc] at h
    refine p_iload_n (k := 4) (i := 2) rfl rfl rfl ?_
    refine p_iconst (k := 5) 1 rfl (by decide) ?_
    obtain ⟨v2, S2, hcS2, h⟩ := cl_some h
    refine p_callS (k := 6) [.int a2, .int 1] [] rfl (tX4_isWithin hcS2) lc_X4_isWithin ml_RX4_57 ms_X4_isWithin (by decide) (by decide) (Nat.le_of_ble_eq_true rfl) rfl ?_
    refine p_if_ne (k := 7) 25 rfl (by decide) (fun hc => ?_) (fun hc => ?_)
    · rw [if_neg hc] at h
      refine p_aload_n (k := 13) (i := 0) rfl rfl rfl ?_
      refine p_getr (k := 14) rfl lay_X4 rfl fl_RX4_12 ?_
      obtain ⟨v3, S3, hcS3, h⟩ := cl_some h
      refine p_callV (k := 15) [] [] rfl (tX0_pagesKnown isC_1 hcS3) (lay_c isC_1) rfl lc_X0_pagesKnown ml_RX4_152 mi_X0_pagesKnown mv_X0_pagesKnown (by decide) (by decide) (Nat.le_of_ble_eq_true rfl) rfl ?_
      obtain ⟨v4, S4, hcS4, h⟩ := cl_some h
      refine p_callS (k := 16) [.int v3] [] rfl (tJ6_bitCount_0f7a4 hcS4) lc_J6_bitCount_0f7a4 ml_RX4_190 ms_J6_bitCount_0f7a4 (by decide) (by decide) (Nat.le_of_ble_eq_true rfl) rfl ?_
      refine p_istore_n (k := 17) 3 [some (.ref 0), some (.int a1), some (.int a2), some (.int v4), none] rfl rfl rfl (by decide) rfl ?_
      refine p_bipush (k := 18) 16 rfl (by decide) ?_
      refine p_istore (k := 19) [some (.ref 0), some (.int a1), some (.int a2), some (.int v4), some (.int 16)] rfl rfl (by decide) rfl ?_
      refine p_msk [false, true, true, true, true] (L2 := [none, some (.int a1), some (.int a2), some (.int v4), some (.int 16)]) rfl ?_
      exact sX4_odds_L40 _ _ _ _ _ _ h
    · rw [if_pos hc] at h
      refine p_msk [true, false, false, false, false] (L2 := [some (.ref 0), none, none, none, none]) rfl ?_
      exact sX4_odds_L17 h
theorem tX4_odds {a1 : Int32} {a2 : Int32} {S : St} {r : Int64} {S9 : St} (h : fX4_odds a1 a2 S = some (r, S9)) : MR yX4_odds cX4_odds mX4_odds [.ref 0, .int a1, .int a2] S (some (.long r), S9) := MR.of (n := 2) okX4_odds rfl rfl (sX4_odds h)
-- seed(I)I
def fX4_seed (a1 : Int32) (S : St) : Option (Int32 × St) :=
  bnd (S 1 13) fun v1 =>
  bnd (up2 S 1 13 a1) fun S1 =>
  some (v1, S1)
theorem sX4_seed {a1 : Int32} {S : St} {r : Int32} {S9 : St} (h : fX4_seed a1 S = some (r, S9)) : PW mX4_seed (some (.int r), S9) 0 [some (.ref 0), some (.int a1), none] [] S := by
  unfold fX4_seed at h
  refine p_aload_n (k := 0) (i := 0) rfl rfl rfl ?_
  refine p_getr (k := 1) rfl lay_X4 rfl fl_RX4_12 ?_
  refine p_geti (k := 2) rfl (lay_c isC_1) rfl fl_RX4_219 ?_
  refine s_bnd h (fun v1 h => ?_)
  refine p_istore_n (k := 3) 2 [some (.ref 0), some (.int a1), some (.int v1)] rfl rfl rfl (by decide) rfl ?_
  refine p_aload_n (k := 4) (i := 0) rfl rfl rfl ?_
  refine p_getr (k := 5) rfl lay_X4 rfl fl_RX4_12 ?_
  refine p_iload_n (k := 6) (i := 1) rfl rfl rfl ?_
  refine s_put h (k := 7) rfl (lay_c isC_1) rfl fl_RX4_219 fp_0_13 rfl rfl (fun S1 h => ?_)
  refine p_iload_n (k := 8) (i := 2) rfl rfl rfl ?_
  exact s_iret h (k := 9) rfl rfl
theorem tX4_seed {a1 : Int32} {S : St} {r : Int32} {S9 : St} (h : fX4_seed a1 S = some (r, S9)) : MR yX4_seed cX4_seed mX4_seed [.ref 0, .int a1] S (some (.int r), S9) := MR.of (n := 1) okX4_seed rfl rfl (sX4_seed h)
-- feed(II)I
def fX4_feed_L10 (S : St) : Option (Int32 × St) :=
  cl (fX4_found (-1000001) S) fun v1 S1 =>
  some (v1, S1)
theorem sX4_feed_L10 {r : Int32} {S9 : St}  {S : St} (h : fX4_feed_L10 S = some (r, S9)) : PW mX4_feed (some (.int r), S9) 10 [some (.ref 0), none, none] [] S := by
  unfold fX4_feed_L10 at h
  refine p_aload_n (k := 6) (i := 0) rfl rfl rfl ?_
  refine p_ldc (k := 7) rfl k_RX4_61 ?_
  obtain ⟨v1, S1, hcS1, h⟩ := cl_some h
  refine p_callV (k := 8) [.int (-1000001)] [] rfl (tX4_found hcS1) lay_X4 rfl lc_X4_found ml_RX4_62 mi_X4_found mv_X4_found (by decide) (by decide) (Nat.le_of_ble_eq_true rfl) rfl ?_
  exact s_iret h (k := 9) rfl rfl
def fX4_feed (a1 : Int32) (a2 : Int32) (S : St) : Option (Int32 × St) :=
  if a2 < 1 then
    fX4_feed_L10 S
  else
    if a2 ≤ 4 then
      if ((S 28 1) + a2) ≤ 120 then
        cl (fX3_append a1 a2 S) fun _ S1 =>
        some (S1 28 1, S1)
      else
        cl (fX4_found (-1000002) S) fun v1 S2 =>
        some (v1, S2)
    else
      fX4_feed_L10 S
theorem sX4_feed {a1 : Int32} {a2 : Int32} {S : St} {r : Int32} {S9 : St} (h : fX4_feed a1 a2 S = some (r, S9)) : PW mX4_feed (some (.int r), S9) 0 [some (.ref 0), some (.int a1), some (.int a2)] [] S := by
  unfold fX4_feed at h
  refine p_iload_n (k := 0) (i := 2) rfl rfl rfl ?_
  refine p_iconst (k := 1) 1 rfl (by decide) ?_
  refine p_icmp_lt (k := 2) 10 rfl (by decide) (fun hc => ?_) (fun hc => ?_)
  · rw [if_pos hc] at h
    refine p_msk [true, false, false] (L2 := [some (.ref 0), none, none]) rfl ?_
    exact sX4_feed_L10 h
  · rw [if_neg hc] at h
    refine p_iload_n (k := 3) (i := 2) rfl rfl rfl ?_
    refine p_iconst (k := 4) 4 rfl (by decide) ?_
    refine p_icmp_le (k := 5) 17 rfl (by decide) (fun hc => ?_) (fun hc => ?_)
    · rw [if_pos hc] at h
      refine p_aload_n (k := 10) (i := 0) rfl rfl rfl ?_
      refine p_getr (k := 11) rfl lay_X4 rfl fl_RX4_29 ?_
      refine p_geti (k := 12) rfl lay_X3 rfl fl_RX4_222 ?_
      refine p_iload_n (k := 13) (i := 2) rfl rfl rfl ?_
      refine p_iadd (k := 14) rfl ?_
      refine p_bipush (k := 15) 120 rfl (by decide) ?_
      refine p_icmp_le (k := 16) 38 rfl (by decide) (fun hc => ?_) (fun hc => ?_)
      · rw [if_pos hc] at h
        refine p_aload_n (k := 21) (i := 0) rfl rfl rfl ?_
        refine p_getr (k := 22) rfl lay_X4 rfl fl_RX4_29 ?_
        refine p_iload_n (k := 23) (i := 1) rfl rfl rfl ?_
        refine p_iload_n (k := 24) (i := 2) rfl rfl rfl ?_
        obtain ⟨_, S1, hcS1, h⟩ := cl_some h
        refine p_callV (k := 25) [.int a1, .int a2] [] rfl (tX3_append hcS1) lay_X3 rfl lc_X3_append ml_RX4_225 mi_X3_append mv_X3_append (by decide) (by decide) (Nat.le_of_ble_eq_true rfl) rfl ?_
        refine p_aload_n (k := 26) (i := 0) rfl rfl rfl ?_
        refine p_getr (k := 27) rfl lay_X4 rfl fl_RX4_29 ?_
        refine p_geti (k := 28) rfl lay_X3 rfl fl_RX4_222 ?_
        exact s_iret h (k := 29) rfl rfl
      · rw [if_neg hc] at h
        refine p_aload_n (k := 17) (i := 0) rfl rfl rfl ?_
        refine p_ldc (k := 18) rfl k_RX4_89 ?_
        obtain ⟨v1, S2, hcS2, h⟩ := cl_some h
        refine p_callV (k := 19) [.int (-1000002)] [] rfl (tX4_found hcS2) lay_X4 rfl lc_X4_found ml_RX4_62 mi_X4_found mv_X4_found (by decide) (by decide) (Nat.le_of_ble_eq_true rfl) rfl ?_
        exact s_iret h (k := 20) rfl rfl
    · rw [if_neg hc] at h
      refine p_msk [true, false, false] (L2 := [some (.ref 0), none, none]) rfl ?_
      exact sX4_feed_L10 h
theorem tX4_feed {a1 : Int32} {a2 : Int32} {S : St} {r : Int32} {S9 : St} (h : fX4_feed a1 a2 S = some (r, S9)) : MR yX4_feed cX4_feed mX4_feed [.ref 0, .int a1, .int a2] S (some (.int r), S9) := MR.of (n := 0) okX4_feed rfl rfl (sX4_feed h)
-- wipe()I
def fX4_wipe (S : St) : Option (Int32 × St) :=
  bnd (S 28 1) fun v1 =>
  bnd (up2 S 28 1 0) fun S1 =>
  some (v1, S1)
theorem sX4_wipe {S : St} {r : Int32} {S9 : St} (h : fX4_wipe S = some (r, S9)) : PW mX4_wipe (some (.int r), S9) 0 [some (.ref 0), none] [] S := by
  unfold fX4_wipe at h
  refine p_aload_n (k := 0) (i := 0) rfl rfl rfl ?_
  refine p_getr (k := 1) rfl lay_X4 rfl fl_RX4_29 ?_
  refine p_geti (k := 2) rfl lay_X3 rfl fl_RX4_222 ?_
  refine s_bnd h (fun v1 h => ?_)
  refine p_istore_n (k := 3) 1 [some (.ref 0), some (.int v1)] rfl rfl rfl (by decide) rfl ?_
  refine p_aload_n (k := 4) (i := 0) rfl rfl rfl ?_
  refine p_getr (k := 5) rfl lay_X4 rfl fl_RX4_29 ?_
  refine p_iconst (k := 6) 0 rfl (by decide) ?_
  refine s_put h (k := 7) rfl lay_X3 rfl fl_RX4_222 fp_3_1 rfl rfl (fun S1 h => ?_)
  refine p_iload_n (k := 8) (i := 1) rfl rfl rfl ?_
  exact s_iret h (k := 9) rfl rfl
theorem tX4_wipe {S : St} {r : Int32} {S9 : St} (h : fX4_wipe S = some (r, S9)) : MR yX4_wipe cX4_wipe mX4_wipe [.ref 0] S (some (.int r), S9) := MR.of (n := 1) okX4_wipe rfl rfl (sX4_wipe h)
-- text()I
def fX4_text_L34 (x1 : Int32) (S : St) : Option (Int32 × St) :=
  bnd (up2 S 28 1 0) fun S1 =>
  some (x1, S1)
theorem sX4_text_L34 {r : Int32} {S9 : St} {x1 : Int32} {S : St} (h : fX4_text_L34 x1 S = some (r, S9)) : PW mX4_text (some (.int r), S9) 34 [some (.ref 0), some (.int x1)] [] S := by
  unfold fX4_text_L34 at h
  refine p_aload_n (k := 16) (i := 0) rfl rfl rfl ?_
  refine p_getr (k := 17) rfl lay_X4 rfl fl_RX4_29 ?_
  refine p_iconst (k := 18) 0 rfl (by decide) ?_
  refine s_put h (k := 19) rfl lay_X3 rfl fl_RX4_222 fp_3_1 rfl rfl (fun S1 h => ?_)
  refine p_iload_n (k := 20) (i := 1) rfl rfl rfl ?_
  exact s_iret h (k := 21) rfl rfl
def fX4_text (S : St) : Option (Int32 × St) :=
  cl (fX0_become 10 1 S) fun _ S1 =>
  cl (fX1_readText S1) fun v1 S2 =>
  if v1 < 0 then
    fX4_text_L34 v1 S2
  else
    cl (fX0_become 1 10 S2) fun _ S3 =>
    fX4_text_L34 v1 S3
theorem sX4_text {S : St} {r : Int32} {S9 : St} (h : fX4_text S = some (r, S9)) : PW mX4_text (some (.int r), S9) 0 [some (.ref 0), none] [] S := by
  unfold fX4_text at h
  refine p_aload_n (k := 0) (i := 0) rfl rfl rfl ?_
  refine p_getr (k := 1) rfl lay_X4 rfl fl_RX4_16 ?_
  refine p_aload_n (k := 2) (i := 0) rfl rfl rfl ?_
  refine p_getr (k := 3) rfl lay_X4 rfl fl_RX4_12 ?_
  obtain ⟨_, S1, hcS1, h⟩ := cl_some h
  refine p_callV (k := 4) [.ref 1] [] rfl (tX0_become isC_10 isC_1 hcS1) (lay_c isC_10) rfl lc_X0_become ml_RX4_172 mi_X0_become mv_X0_become (by decide) (by decide) (Nat.le_of_ble_eq_true rfl) rfl ?_
  refine p_aload_n (k := 5) (i := 0) rfl rfl rfl ?_
  refine p_getr (k := 6) rfl lay_X4 rfl fl_RX4_38 ?_
  obtain ⟨v1, S2, hcS2, h⟩ := cl_some h
  refine p_callV (k := 7) [] [] rfl (tX1_readText hcS2) lay_X1 rfl lc_X1_readText ml_RX4_229 mi_X1_readText mv_X1_readText (by decide) (by decide) (Nat.le_of_ble_eq_true rfl) rfl ?_
  refine p_istore_n (k := 8) 1 [some (.ref 0), some (.int v1)] rfl rfl rfl (by decide) rfl ?_
  refine p_iload_n (k := 9) (i := 1) rfl rfl rfl ?_
  refine p_if_lt (k := 10) 34 rfl (by decide) (fun hc => ?_) (fun hc => ?_)
  · rw [if_pos hc] at h
    refine p_msk [true, true] (L2 := [some (.ref 0), some (.int v1)]) rfl ?_
    exact sX4_text_L34 h
  · rw [if_neg hc] at h
    refine p_aload_n (k := 11) (i := 0) rfl rfl rfl ?_
    refine p_getr (k := 12) rfl lay_X4 rfl fl_RX4_12 ?_
    refine p_aload_n (k := 13) (i := 0) rfl rfl rfl ?_
    refine p_getr (k := 14) rfl lay_X4 rfl fl_RX4_16 ?_
    obtain ⟨_, S3, hcS3, h⟩ := cl_some h
    refine p_callV (k := 15) [.ref 10] [] rfl (tX0_become isC_1 isC_10 hcS3) (lay_c isC_1) rfl lc_X0_become ml_RX4_172 mi_X0_become mv_X0_become (by decide) (by decide) (Nat.le_of_ble_eq_true rfl) rfl ?_
    refine p_msk [true, true] (L2 := [some (.ref 0), some (.int v1)]) rfl ?_
    exact sX4_text_L34 h
theorem tX4_text {S : St} {r : Int32} {S9 : St} (h : fX4_text S = some (r, S9)) : MR yX4_text cX4_text mX4_text [.ref 0] S (some (.int r), S9) := MR.of (n := 1) okX4_text rfl rfl (sX4_text h)
-- isSpot(I)Z
def fX4_isSpot_L15 (y0 : Int32) (S : St) : Option (Int32 × St) :=
  retN .boolean y0 S
theorem sX4_isSpot_L15 {r : Int32} {S9 : St} {y0 : Int32} {S : St} (h : fX4_isSpot_L15 y0 S = some (r, S9)) : PW mX4_isSpot (some (.int r), S9) 15 [none] [.int y0] S := by
  unfold fX4_isSpot_L15 at h
  exact s_zret h (k := 8) rfl rfl
def fX4_isSpot_L14 (S : St) : Option (Int32 × St) :=
  fX4_isSpot_L15 0 S
theorem sX4_isSpot_L14 {r : Int32} {S9 : St}  {S : St} (h : fX4_isSpot_L14 S = some (r, S9)) : PW mX4_isSpot (some (.int r), S9) 14 [none] [] S := by
  unfold fX4_isSpot_L14 at h
  refine p_iconst (k := 7) 0 rfl (by decide) ?_
  refine p_msk [false] (L2 := [none]) rfl ?_
  exact sX4_isSpot_L15 h
def fX4_isSpot (a1 : Int32) (S : St) : Option (Int32 × St) :=
  if a1 < 0 then
    fX4_isSpot_L14 S
  else
    if 10 ≤ a1 then
      fX4_isSpot_L14 S
    else
      fX4_isSpot_L15 1 S
theorem sX4_isSpot {a1 : Int32} {S : St} {r : Int32} {S9 : St} (h : fX4_isSpot a1 S = some (r, S9)) : PW mX4_isSpot (some (.int r), S9) 0 [some (.int a1)] [] S := by
  unfold fX4_isSpot at h
  refine p_iload_n (k := 0) (i := 0) rfl rfl rfl ?_
  refine p_if_lt (k := 1) 14 rfl (by decide) (fun hc => ?_) (fun hc => ?_)
  · rw [if_pos hc] at h
    refine p_msk [false] (L2 := [none]) rfl ?_
    exact sX4_isSpot_L14 h
  · rw [if_neg hc] at h
    refine p_iload_n (k := 2) (i := 0) rfl rfl rfl ?_
    refine p_bipush (k := 3) 10 rfl (by decide) ?_
    refine p_icmp_ge (k := 4) 14 rfl (by decide) (fun hc => ?_) (fun hc => ?_)
    · rw [if_pos hc] at h
      refine p_msk [false] (L2 := [none]) rfl ?_
      exact sX4_isSpot_L14 h
    · rw [if_neg hc] at h
      refine p_iconst (k := 5) 1 rfl (by decide) ?_
      refine p_goto (k := 6) 15 rfl (by decide) ?_
      refine p_msk [false] (L2 := [none]) rfl ?_
      exact sX4_isSpot_L15 h
theorem tX4_isSpot {a1 : Int32} {S : St} {r : Int32} {S9 : St} (h : fX4_isSpot a1 S = some (r, S9)) : MR yX4_isSpot cX4_isSpot mX4_isSpot [.int a1] S (some (.int r), S9) := MR.of (n := 0) okX4_isSpot rfl rfl (sX4_isSpot h)
-- hold(II)I
def fX4_hold_L20 (S : St) : Option (Int32 × St) :=
  cl (fX4_found (-1000001) S) fun v1 S1 =>
  some (v1, S1)
theorem sX4_hold_L20 {r : Int32} {S9 : St}  {S : St} (h : fX4_hold_L20 S = some (r, S9)) : PW mX4_hold (some (.int r), S9) 20 [some (.ref 0), none, none] [] S := by
  unfold fX4_hold_L20 at h
  refine p_aload_n (k := 10) (i := 0) rfl rfl rfl ?_
  refine p_ldc (k := 11) rfl k_RX4_61 ?_
  obtain ⟨v1, S1, hcS1, h⟩ := cl_some h
  refine p_callV (k := 12) [.int (-1000001)] [] rfl (tX4_found hcS1) lay_X4 rfl lc_X4_found ml_RX4_62 mi_X4_found mv_X4_found (by decide) (by decide) (Nat.le_of_ble_eq_true rfl) rfl ?_
  exact s_iret h (k := 13) rfl rfl
def fX4_hold_L27 (x1 : Int32) (x2 : Int32) (S : St) : Option (Int32 × St) :=
  wr S (1 + 8) 10 x1 x2 fun S1 =>
  some (1, S1)
theorem sX4_hold_L27 {r : Int32} {S9 : St} {x1 : Int32} {x2 : Int32} {S : St} (h : fX4_hold_L27 x1 x2 S = some (r, S9)) : PW mX4_hold (some (.int r), S9) 27 [some (.ref 0), some (.int x1), some (.int x2)] [] S := by
  unfold fX4_hold_L27 at h
  refine p_aload_n (k := 14) (i := 0) rfl rfl rfl ?_
  refine p_getr (k := 15) rfl lay_X4 rfl fl_RX4_12 ?_
  refine p_getr (k := 16) rfl (lay_c isC_1) rfl fl_RX4_235 ?_
  refine p_iload_n (k := 17) (i := 1) rfl rfl rfl ?_
  refine p_iload_n (k := 18) (i := 2) rfl rfl rfl ?_
  refine s_wr h (k := 19) rfl (lay_c7 isC_1) (fun S1 h => ?_)
  refine p_iconst (k := 20) 1 rfl (by decide) ?_
  exact s_iret h (k := 21) rfl rfl
def fX4_hold (a1 : Int32) (a2 : Int32) (S : St) : Option (Int32 × St) :=
  cl (fX4_isSpot a1 S) fun v1 S1 =>
  if v1 = 0 then
    fX4_hold_L20 S1
  else
    if a2 = (-1) then
      fX4_hold_L27 a1 a2 S1
    else
      cl (fX4_isGoat a2 S1) fun v2 S2 =>
      if v2 = 0 then
        fX4_hold_L20 S2
      else
        fX4_hold_L27 a1 a2 S2
theorem sX4_hold {a1 : Int32} {a2 : Int32} {S : St} {r : Int32} {S9 : St} (h : fX4_hold a1 a2 S = some (r, S9)) : PW mX4_hold (some (.int r), S9) 0 [some (.ref 0), some (.int a1), some (.int a2)] [] S := by
  unfold fX4_hold at h
  refine p_iload_n (k := 0) (i := 1) rfl rfl rfl ?_
  obtain ⟨v1, S1, hcS1, h⟩ := cl_some h
  refine p_callS (k := 1) [.int a1] [] rfl (tX4_isSpot hcS1) lc_X4_isSpot ml_RX4_232 ms_X4_isSpot (by decide) (by decide) (Nat.le_of_ble_eq_true rfl) rfl ?_
  refine p_if_eq (k := 2) 20 rfl (by decide) (fun hc => ?_) (fun hc => ?_)
  · rw [if_pos hc] at h
    refine p_msk [true, false, false] (L2 := [some (.ref 0), none, none]) rfl ?_
    exact sX4_hold_L20 h
  · rw [if_neg hc] at h
    refine p_iload_n (k := 3) (i := 2) rfl rfl rfl ?_
    refine p_iconst (k := 4) (-1) rfl (by decide) ?_
    refine p_icmp_eq (k := 5) 27 rfl (by decide) (fun hc => ?_) (fun hc => ?_)
    · rw [if_pos hc] at h
      refine p_msk [true, true, true] (L2 := [some (.ref 0), some (.int a1), some (.int a2)]) rfl ?_
      exact sX4_hold_L27 h
    · rw [if_neg hc] at h
      refine p_aload_n (k := 6) (i := 0) rfl rfl rfl ?_
      refine p_iload_n (k := 7) (i := 2) rfl rfl rfl ?_
      obtain ⟨v2, S2, hcS2, h⟩ := cl_some h
      refine p_callV (k := 8) [.int a2] [] rfl (tX4_isGoat hcS2) lay_X4 rfl lc_X4_isGoat ml_RX4_94 mi_X4_isGoat mv_X4_isGoat (by decide) (by decide) (Nat.le_of_ble_eq_true rfl) rfl ?_
      refine p_if_ne (k := 9) 27 rfl (by decide) (fun hc => ?_) (fun hc => ?_)
      · rw [if_neg hc] at h
        refine p_msk [true, true, true] (L2 := [some (.ref 0), some (.int a1), some (.int a2)]) rfl ?_
        exact sX4_hold_L27 h
      · rw [if_pos hc] at h
        refine p_msk [true, false, false] (L2 := [some (.ref 0), none, none]) rfl ?_
        exact sX4_hold_L20 h
theorem tX4_hold {a1 : Int32} {a2 : Int32} {S : St} {r : Int32} {S9 : St} (h : fX4_hold a1 a2 S = some (r, S9)) : MR yX4_hold cX4_hold mX4_hold [.ref 0, .int a1, .int a2] S (some (.int r), S9) := MR.of (n := 0) okX4_hold rfl rfl (sX4_hold h)
-- as(II)I
def fX4_as_L14 (S : St) : Option (Int32 × St) :=
  cl (fX4_found (-1000001) S) fun v1 S1 =>
  some (v1, S1)
theorem sX4_as_L14 {r : Int32} {S9 : St}  {S : St} (h : fX4_as_L14 S = some (r, S9)) : PW mX4_as (some (.int r), S9) 14 [some (.ref 0), none, none, none] [] S := by
  unfold fX4_as_L14 at h
  refine p_aload_n (k := 6) (i := 0) rfl rfl rfl ?_
  refine p_ldc (k := 7) rfl k_RX4_61 ?_
  obtain ⟨v1, S1, hcS1, h⟩ := cl_some h
  refine p_callV (k := 8) [.int (-1000001)] [] rfl (tX4_found hcS1) lay_X4 rfl lc_X4_found ml_RX4_62 mi_X4_found mv_X4_found (by decide) (by decide) (Nat.le_of_ble_eq_true rfl) rfl ?_
  exact s_iret h (k := 9) rfl rfl
def fX4_as (a1 : Int32) (a2 : Int32) (S : St) : Option (Int32 × St) :=
  cl (fX4_isSpot a1 S) fun v1 S1 =>
  if v1 = 0 then
    fX4_as_L14 S1
  else
    cl (fX4_isKind a2 S1) fun v2 S2 =>
    if v2 = 0 then
      fX4_as_L14 S2
    else
      rd S2 (1 + 8) 10 a1 fun v3 =>
      cl (fX4_isGoat v3 S2) fun v4 S3 =>
      if v4 = 0 then
        cl (fX4_found (-1000006) S3) fun v8 S6 =>
        some (v8, S6)
      else
        rd S3 (1 + 2) 8 v3 fun v5 =>
        cl (fX0_isOfKind v5 a2 S3) fun v6 S4 =>
        if v6 = 0 then
          cl (fX4_found (-1000003) S4) fun v7 S5 =>
          some (v7, S5)
        else
          some (v3, S4)
theorem sX4_as {a1 : Int32} {a2 : Int32} {S : St} {r : Int32} {S9 : St} (h : fX4_as a1 a2 S = some (r, S9)) : PW mX4_as (some (.int r), S9) 0 [some (.ref 0), some (.int a1), some (.int a2), none] [] S := by
  unfold fX4_as at h
  refine p_iload_n (k := 0) (i := 1) rfl rfl rfl ?_
  obtain ⟨v1, S1, hcS1, h⟩ := cl_some h
  refine p_callS (k := 1) [.int a1] [] rfl (tX4_isSpot hcS1) lc_X4_isSpot ml_RX4_232 ms_X4_isSpot (by decide) (by decide) (Nat.le_of_ble_eq_true rfl) rfl ?_
  refine p_if_eq (k := 2) 14 rfl (by decide) (fun hc => ?_) (fun hc => ?_)
  · rw [if_pos hc] at h
    refine p_msk [true, false, false, false] (L2 := [some (.ref 0), none, none, none]) rfl ?_
    exact sX4_as_L14 h
  · rw [if_neg hc] at h
    refine p_iload_n (k := 3) (i := 2) rfl rfl rfl ?_
    obtain ⟨v2, S2, hcS2, h⟩ := cl_some h
    refine p_callS (k := 4) [.int a2] [] rfl (tX4_isKind hcS2) lc_X4_isKind ml_RX4_82 ms_X4_isKind (by decide) (by decide) (Nat.le_of_ble_eq_true rfl) rfl ?_
    refine p_if_ne (k := 5) 21 rfl (by decide) (fun hc => ?_) (fun hc => ?_)
    · rw [if_neg hc] at h
      refine p_aload_n (k := 10) (i := 0) rfl rfl rfl ?_
      refine p_getr (k := 11) rfl lay_X4 rfl fl_RX4_12 ?_
      refine p_getr (k := 12) rfl (lay_c isC_1) rfl fl_RX4_235 ?_
      refine p_iload_n (k := 13) (i := 1) rfl rfl rfl ?_
      refine s_rd h (k := 14) rfl (lay_c7 isC_1) (fun v3 h => ?_)
      refine p_istore_n (k := 15) 3 [some (.ref 0), some (.int a1), some (.int a2), some (.int v3)] rfl rfl rfl (by decide) rfl ?_
      refine p_aload_n (k := 16) (i := 0) rfl rfl rfl ?_
      refine p_iload_n (k := 17) (i := 3) rfl rfl rfl ?_
      obtain ⟨v4, S3, hcS3, h⟩ := cl_some h
      refine p_callV (k := 18) [.int v3] [] rfl (tX4_isGoat hcS3) lay_X4 rfl lc_X4_isGoat ml_RX4_94 mi_X4_isGoat mv_X4_isGoat (by decide) (by decide) (Nat.le_of_ble_eq_true rfl) rfl ?_
      refine p_if_ne (k := 19) 46 rfl (by decide) (fun hc => ?_) (fun hc => ?_)
      · rw [if_neg hc] at h
        refine p_aload_n (k := 24) (i := 0) rfl rfl rfl ?_
        refine p_getr (k := 25) rfl lay_X4 rfl fl_RX4_12 ?_
        refine p_getr (k := 26) rfl (lay_c isC_1) rfl fl_RX4_239 ?_
        refine p_iload_n (k := 27) (i := 3) rfl rfl rfl ?_
        refine s_rd h (k := 28) rfl (lay_c1 isC_1) (fun v5 h => ?_)
        refine p_iload_n (k := 29) (i := 2) rfl rfl rfl ?_
        obtain ⟨v6, S4, hcS4, h⟩ := cl_some h
        refine p_callS (k := 30) [.int v5, .int a2] [] rfl (tX0_isOfKind hcS4) lc_X0_isOfKind ml_RX4_242 ms_X0_isOfKind (by decide) (by decide) (Nat.le_of_ble_eq_true rfl) rfl ?_
        refine p_if_ne (k := 31) 69 rfl (by decide) (fun hc => ?_) (fun hc => ?_)
        · rw [if_neg hc] at h
          refine p_iload_n (k := 36) (i := 3) rfl rfl rfl ?_
          exact s_iret h (k := 37) rfl rfl
        · rw [if_pos hc] at h
          refine p_aload_n (k := 32) (i := 0) rfl rfl rfl ?_
          refine p_ldc (k := 33) rfl k_RX4_245 ?_
          obtain ⟨v7, S5, hcS5, h⟩ := cl_some h
          refine p_callV (k := 34) [.int (-1000003)] [] rfl (tX4_found hcS5) lay_X4 rfl lc_X4_found ml_RX4_62 mi_X4_found mv_X4_found (by decide) (by decide) (Nat.le_of_ble_eq_true rfl) rfl ?_
          exact s_iret h (k := 35) rfl rfl
      · rw [if_pos hc] at h
        refine p_aload_n (k := 20) (i := 0) rfl rfl rfl ?_
        refine p_ldc (k := 21) rfl k_RX4_238 ?_
        obtain ⟨v8, S6, hcS6, h⟩ := cl_some h
        refine p_callV (k := 22) [.int (-1000006)] [] rfl (tX4_found hcS6) lay_X4 rfl lc_X4_found ml_RX4_62 mi_X4_found mv_X4_found (by decide) (by decide) (Nat.le_of_ble_eq_true rfl) rfl ?_
        exact s_iret h (k := 23) rfl rfl
    · rw [if_pos hc] at h
      refine p_msk [true, false, false, false] (L2 := [some (.ref 0), none, none, none]) rfl ?_
      exact sX4_as_L14 h
theorem tX4_as {a1 : Int32} {a2 : Int32} {S : St} {r : Int32} {S9 : St} (h : fX4_as a1 a2 S = some (r, S9)) : MR yX4_as cX4_as mX4_as [.ref 0, .int a1, .int a2] S (some (.int r), S9) := MR.of (n := 1) okX4_as rfl rfl (sX4_as h)
-- sheet(III)I
def fX4_sheet_L29 (S : St) : Option (Int32 × St) :=
  cl (fX4_found (-1000001) S) fun v1 S1 =>
  some (v1, S1)
theorem sX4_sheet_L29 {r : Int32} {S9 : St}  {S : St} (h : fX4_sheet_L29 S = some (r, S9)) : PW mX4_sheet (some (.int r), S9) 29 [some (.ref 0), none, none, none] [] S := by
  unfold fX4_sheet_L29 at h
  refine p_aload_n (k := 14) (i := 0) rfl rfl rfl ?_
  refine p_ldc (k := 15) rfl k_RX4_61 ?_
  obtain ⟨v1, S1, hcS1, h⟩ := cl_some h
  refine p_callV (k := 16) [.int (-1000001)] [] rfl (tX4_found hcS1) lay_X4 rfl lc_X4_found ml_RX4_62 mi_X4_found mv_X4_found (by decide) (by decide) (Nat.le_of_ble_eq_true rfl) rfl ?_
  exact s_iret h (k := 17) rfl rfl
def fX4_sheet_L36 (x1 : Int32) (x2 : Int32) (x3 : Int32) (S : St) : Option (Int32 × St) :=
  if 0 ≤ x3 then
    if x3 ≤ 40 then
      ink 4 x1 <|
      cl (fX2_begin (32 + 2 * (x1 : Int32).toNatClampNeg) x2 x3 S) fun _ S1 =>
      ink 4 x1 <|
      some (S1 (32 + 2 * (x1 : Int32).toNatClampNeg) 2, S1)
    else
      cl (fX4_found (-1000001) S) fun v3 S2 =>
      some (v3, S2)
  else
    cl (fX4_found (-1000007) S) fun v4 S3 =>
    some (v4, S3)
theorem sX4_sheet_L36 {r : Int32} {S9 : St} {x1 : Int32} {x2 : Int32} {x3 : Int32} {S : St} (h : fX4_sheet_L36 x1 x2 x3 S = some (r, S9)) : PW mX4_sheet (some (.int r), S9) 36 [some (.ref 0), some (.int x1), some (.int x2), some (.int x3)] [] S := by
  unfold fX4_sheet_L36 at h
  refine p_iload_n (k := 18) (i := 3) rfl rfl rfl ?_
  refine p_if_ge (k := 19) 47 rfl (by decide) (fun hc => ?_) (fun hc => ?_)
  · rw [if_pos hc] at h
    refine p_iload_n (k := 24) (i := 3) rfl rfl rfl ?_
    refine p_bipush (k := 25) 40 rfl (by decide) ?_
    refine p_icmp_le (k := 26) 60 rfl (by decide) (fun hc => ?_) (fun hc => ?_)
    · rw [if_pos hc] at h
      refine p_aload_n (k := 31) (i := 0) rfl rfl rfl ?_
      refine p_getr (k := 32) rfl lay_X4 rfl fl_RX4_44 ?_
      refine p_iload_n (k := 33) (i := 1) rfl rfl rfl ?_
      obtain ⟨hi1, h⟩ := ink_some h
      refine p_aald (k := 34) rfl lay_31 hi1 ?_
      refine p_iload_n (k := 35) (i := 2) rfl rfl rfl ?_
      refine p_iload_n (k := 36) (i := 3) rfl rfl rfl ?_
      obtain ⟨_, S1, hcS1, h⟩ := cl_some h
      refine p_callV (k := 37) [.int x2, .int x3] [] rfl (tX2_begin (isS_of hi1) hcS1) (lay_s (isS_of hi1)) rfl lc_X2_begin ml_RX4_250 mi_X2_begin mv_X2_begin (by decide) (by decide) (Nat.le_of_ble_eq_true rfl) rfl ?_
      refine p_aload_n (k := 38) (i := 0) rfl rfl rfl ?_
      refine p_getr (k := 39) rfl lay_X4 rfl fl_RX4_44 ?_
      refine p_iload_n (k := 40) (i := 1) rfl rfl rfl ?_
      obtain ⟨hi2, h⟩ := ink_some h
      refine p_aald (k := 41) rfl lay_31 hi2 ?_
      refine p_geti (k := 42) rfl (lay_s (isS_of hi2)) rfl fl_RX4_253 ?_
      exact s_iret h (k := 43) rfl rfl
    · rw [if_neg hc] at h
      refine p_aload_n (k := 27) (i := 0) rfl rfl rfl ?_
      refine p_ldc (k := 28) rfl k_RX4_61 ?_
      obtain ⟨v3, S2, hcS2, h⟩ := cl_some h
      refine p_callV (k := 29) [.int (-1000001)] [] rfl (tX4_found hcS2) lay_X4 rfl lc_X4_found ml_RX4_62 mi_X4_found mv_X4_found (by decide) (by decide) (Nat.le_of_ble_eq_true rfl) rfl ?_
      exact s_iret h (k := 30) rfl rfl
  · rw [if_neg hc] at h
    refine p_aload_n (k := 20) (i := 0) rfl rfl rfl ?_
    refine p_ldc (k := 21) rfl k_RX4_249 ?_
    obtain ⟨v4, S3, hcS3, h⟩ := cl_some h
    refine p_callV (k := 22) [.int (-1000007)] [] rfl (tX4_found hcS3) lay_X4 rfl lc_X4_found ml_RX4_62 mi_X4_found mv_X4_found (by decide) (by decide) (Nat.le_of_ble_eq_true rfl) rfl ?_
    exact s_iret h (k := 23) rfl rfl
def fX4_sheet (a1 : Int32) (a2 : Int32) (a3 : Int32) (S : St) : Option (Int32 × St) :=
  cl (fX4_isSheet a1 S) fun v1 S1 =>
  if v1 = 0 then
    fX4_sheet_L29 S1
  else
    if a2 = 0 then
      fX4_sheet_L36 a1 a2 a3 S1
    else
      if a2 = 8 then
        fX4_sheet_L36 a1 a2 a3 S1
      else
        if a2 = 16 then
          fX4_sheet_L36 a1 a2 a3 S1
        else
          if a2 = 32 then
            fX4_sheet_L36 a1 a2 a3 S1
          else
            fX4_sheet_L29 S1
theorem sX4_sheet {a1 : Int32} {a2 : Int32} {a3 : Int32} {S : St} {r : Int32} {S9 : St} (h : fX4_sheet a1 a2 a3 S = some (r, S9)) : PW mX4_sheet (some (.int r), S9) 0 [some (.ref 0), some (.int a1), some (.int a2), some (.int a3)] [] S := by
  unfold fX4_sheet at h
  refine p_iload_n (k := 0) (i := 1) rfl rfl rfl ?_
  obtain ⟨v1, S1, hcS1, h⟩ := cl_some h
  refine p_callS (k := 1) [.int a1] [] rfl (tX4_isSheet hcS1) lc_X4_isSheet ml_RX4_246 ms_X4_isSheet (by decide) (by decide) (Nat.le_of_ble_eq_true rfl) rfl ?_
  refine p_if_eq (k := 2) 29 rfl (by decide) (fun hc => ?_) (fun hc => ?_)
  · rw [if_pos hc] at h
    refine p_msk [true, false, false, false] (L2 := [some (.ref 0), none, none, none]) rfl ?_
    exact sX4_sheet_L29 h
  · rw [if_neg hc] at h
    refine p_iload_n (k := 3) (i := 2) rfl rfl rfl ?_
    refine p_if_eq (k := 4) 36 rfl (by decide) (fun hc => ?_) (fun hc => ?_)
    · rw [if_pos hc] at h
      refine p_msk [true, true, true, true] (L2 := [some (.ref 0), some (.int a1), some (.int a2), some (.int a3)]) rfl ?_
      exact sX4_sheet_L36 h
    · rw [if_neg hc] at h
      refine p_iload_n (k := 5) (i := 2) rfl rfl rfl ?_
      refine p_bipush (k := 6) 8 rfl (by decide) ?_
      refine p_icmp_eq (k := 7) 36 rfl (by decide) (fun hc => ?_) (fun hc => ?_)
      · rw [if_pos hc] at h
        refine p_msk [true, true, true, true] (L2 := [some (.ref 0), some (.int a1), some (.int a2), some (.int a3)]) rfl ?_
        exact sX4_sheet_L36 h
      · rw [if_neg hc] at h
        refine p_iload_n (k := 8) (i := 2) rfl rfl rfl ?_
        refine p_bipush (k := 9) 16 rfl (by decide) ?_
        refine p_icmp_eq (k := 10) 36 rfl (by decide) (fun hc => ?_) (fun hc => ?_)
        · rw [if_pos hc] at h
          refine p_msk [true, true, true, true] (L2 := [some (.ref 0), some (.int a1), some (.int a2), some (.int a3)]) rfl ?_
          exact sX4_sheet_L36 h
        · rw [if_neg hc] at h
          refine p_iload_n (k := 11) (i := 2) rfl rfl rfl ?_
          refine p_bipush (k := 12) 32 rfl (by decide) ?_
          refine p_icmp_eq (k := 13) 36 rfl (by decide) (fun hc => ?_) (fun hc => ?_)
          · rw [if_pos hc] at h
            refine p_msk [true, true, true, true] (L2 := [some (.ref 0), some (.int a1), some (.int a2), some (.int a3)]) rfl ?_
            exact sX4_sheet_L36 h
          · rw [if_neg hc] at h
            refine p_msk [true, false, false, false] (L2 := [some (.ref 0), none, none, none]) rfl ?_
            exact sX4_sheet_L29 h
theorem tX4_sheet {a1 : Int32} {a2 : Int32} {a3 : Int32} {S : St} {r : Int32} {S9 : St} (h : fX4_sheet a1 a2 a3 S = some (r, S9)) : MR yX4_sheet cX4_sheet mX4_sheet [.ref 0, .int a1, .int a2, .int a3] S (some (.int r), S9) := MR.of (n := 0) okX4_sheet rfl rfl (sX4_sheet h)
-- write(III)I
def fX4_write_L50 (S : St) : Option (Int32 × St) :=
  cl (fX4_found (-1000001) S) fun v1 S1 =>
  some (v1, S1)
theorem sX4_write_L50 {r : Int32} {S9 : St}  {S : St} (h : fX4_write_L50 S = some (r, S9)) : PW mX4_write (some (.int r), S9) 50 [some (.ref 0), none, none, none] [] S := by
  unfold fX4_write_L50 at h
  refine p_aload_n (k := 26) (i := 0) rfl rfl rfl ?_
  refine p_ldc (k := 27) rfl k_RX4_61 ?_
  obtain ⟨v1, S1, hcS1, h⟩ := cl_some h
  refine p_callV (k := 28) [.int (-1000001)] [] rfl (tX4_found hcS1) lay_X4 rfl lc_X4_found ml_RX4_62 mi_X4_found mv_X4_found (by decide) (by decide) (Nat.le_of_ble_eq_true rfl) rfl ?_
  exact s_iret h (k := 29) rfl rfl
def fX4_write (a1 : Int32) (a2 : Int32) (a3 : Int32) (S : St) : Option (Int32 × St) :=
  cl (fX4_isSheet a1 S) fun v1 S1 =>
  if v1 = 0 then
    cl (fX4_found (-1000001) S1) fun v9 S6 =>
    some (v9, S6)
  else
    ink 4 a1 <|
    cl (fX2_isMissing (32 + 2 * (a1 : Int32).toNatClampNeg) S1) fun v3 S2 =>
    if v3 = 0 then
      if a2 < 0 then
        fX4_write_L50 S2
      else
        ink 4 a1 <|
        if a2 < (S2 (32 + 2 * (a1 : Int32).toNatClampNeg) 2) then
          ink 4 a1 <|
          ink 4 a1 <|
          cl (fX2_cut (32 + 2 * (a1 : Int32).toNatClampNeg) a3 S2) fun v7 S3 =>
          wr S3 ((32 + 2 * (a1 : Int32).toNatClampNeg) + 1) 40 a2 v7 fun S4 =>
          some (1, S4)
        else
          fX4_write_L50 S2
    else
      cl (fX4_found (-1000006) S2) fun v8 S5 =>
      some (v8, S5)
theorem sX4_write {a1 : Int32} {a2 : Int32} {a3 : Int32} {S : St} {r : Int32} {S9 : St} (h : fX4_write a1 a2 a3 S = some (r, S9)) : PW mX4_write (some (.int r), S9) 0 [some (.ref 0), some (.int a1), some (.int a2), some (.int a3)] [] S := by
  unfold fX4_write at h
  refine p_iload_n (k := 0) (i := 1) rfl rfl rfl ?_
  obtain ⟨v1, S1, hcS1, h⟩ := cl_some h
  refine p_callS (k := 1) [.int a1] [] rfl (tX4_isSheet hcS1) lc_X4_isSheet ml_RX4_246 ms_X4_isSheet (by decide) (by decide) (Nat.le_of_ble_eq_true rfl) rfl ?_
  refine p_if_ne (k := 2) 14 rfl (by decide) (fun hc => ?_) (fun hc => ?_)
  · rw [if_neg hc] at h
    refine p_aload_n (k := 7) (i := 0) rfl rfl rfl ?_
    refine p_getr (k := 8) rfl lay_X4 rfl fl_RX4_44 ?_
    refine p_iload_n (k := 9) (i := 1) rfl rfl rfl ?_
    obtain ⟨hi2, h⟩ := ink_some h
    refine p_aald (k := 10) rfl lay_31 hi2 ?_
    obtain ⟨v3, S2, hcS2, h⟩ := cl_some h
    refine p_callV (k := 11) [] [] rfl (tX2_isMissing (isS_of hi2) hcS2) (lay_s (isS_of hi2)) rfl lc_X2_isMissing ml_RX4_254 mi_X2_isMissing mv_X2_isMissing (by decide) (by decide) (Nat.le_of_ble_eq_true rfl) rfl ?_
    refine p_if_eq (k := 12) 33 rfl (by decide) (fun hc => ?_) (fun hc => ?_)
    · rw [if_pos hc] at h
      refine p_iload_n (k := 17) (i := 2) rfl rfl rfl ?_
      refine p_if_lt (k := 18) 50 rfl (by decide) (fun hc => ?_) (fun hc => ?_)
      · rw [if_pos hc] at h
        refine p_msk [true, false, false, false] (L2 := [some (.ref 0), none, none, none]) rfl ?_
        exact sX4_write_L50 h
      · rw [if_neg hc] at h
        refine p_iload_n (k := 19) (i := 2) rfl rfl rfl ?_
        refine p_aload_n (k := 20) (i := 0) rfl rfl rfl ?_
        refine p_getr (k := 21) rfl lay_X4 rfl fl_RX4_44 ?_
        refine p_iload_n (k := 22) (i := 1) rfl rfl rfl ?_
        obtain ⟨hi4, h⟩ := ink_some h
        refine p_aald (k := 23) rfl lay_31 hi4 ?_
        refine p_geti (k := 24) rfl (lay_s (isS_of hi4)) rfl fl_RX4_253 ?_
        refine p_icmp_lt (k := 25) 57 rfl (by decide) (fun hc => ?_) (fun hc => ?_)
        · rw [if_pos hc] at h
          refine p_aload_n (k := 30) (i := 0) rfl rfl rfl ?_
          refine p_getr (k := 31) rfl lay_X4 rfl fl_RX4_44 ?_
          refine p_iload_n (k := 32) (i := 1) rfl rfl rfl ?_
          obtain ⟨hi5, h⟩ := ink_some h
          refine p_aald (k := 33) rfl lay_31 hi5 ?_
          refine p_getr (k := 34) rfl (lay_s (isS_of hi5)) rfl fl_RX4_257 ?_
          refine p_iload_n (k := 35) (i := 2) rfl rfl rfl ?_
          refine p_aload_n (k := 36) (i := 0) rfl rfl rfl ?_
          refine p_getr (k := 37) rfl lay_X4 rfl fl_RX4_44 ?_
          refine p_iload_n (k := 38) (i := 1) rfl rfl rfl ?_
          obtain ⟨hi6, h⟩ := ink_some h
          refine p_aald (k := 39) rfl lay_31 hi6 ?_
          refine p_iload_n (k := 40) (i := 3) rfl rfl rfl ?_
          obtain ⟨v7, S3, hcS3, h⟩ := cl_some h
          refine p_callV (k := 41) [.int a3] [.int a2, .ref ((32 + 2 * (a1 : Int32).toNatClampNeg) + 1)] rfl (tX2_cut (isS_of hi6) hcS3) (lay_s (isS_of hi6)) rfl lc_X2_cut ml_RX4_260 mi_X2_cut mv_X2_cut (by decide) (by decide) (Nat.le_of_ble_eq_true rfl) rfl ?_
          refine s_wr h (k := 42) rfl (lay_s0 (isS_of hi5)) (fun S4 h => ?_)
          refine p_iconst (k := 43) 1 rfl (by decide) ?_
          exact s_iret h (k := 44) rfl rfl
        · rw [if_neg hc] at h
          refine p_msk [true, false, false, false] (L2 := [some (.ref 0), none, none, none]) rfl ?_
          exact sX4_write_L50 h
    · rw [if_neg hc] at h
      refine p_aload_n (k := 13) (i := 0) rfl rfl rfl ?_
      refine p_ldc (k := 14) rfl k_RX4_238 ?_
      obtain ⟨v8, S5, hcS5, h⟩ := cl_some h
      refine p_callV (k := 15) [.int (-1000006)] [] rfl (tX4_found hcS5) lay_X4 rfl lc_X4_found ml_RX4_62 mi_X4_found mv_X4_found (by decide) (by decide) (Nat.le_of_ble_eq_true rfl) rfl ?_
      exact s_iret h (k := 16) rfl rfl
  · rw [if_pos hc] at h
    refine p_aload_n (k := 3) (i := 0) rfl rfl rfl ?_
    refine p_ldc (k := 4) rfl k_RX4_61 ?_
    obtain ⟨v9, S6, hcS6, h⟩ := cl_some h
    refine p_callV (k := 5) [.int (-1000001)] [] rfl (tX4_found hcS6) lay_X4 rfl lc_X4_found ml_RX4_62 mi_X4_found mv_X4_found (by decide) (by decide) (Nat.le_of_ble_eq_true rfl) rfl ?_
    exact s_iret h (k := 6) rfl rfl
theorem tX4_write {a1 : Int32} {a2 : Int32} {a3 : Int32} {S : St} {r : Int32} {S9 : St} (h : fX4_write a1 a2 a3 S = some (r, S9)) : MR yX4_write cX4_write mX4_write [.ref 0, .int a1, .int a2, .int a3] S (some (.int r), S9) := MR.of (n := 0) okX4_write rfl rfl (sX4_write h)
-- copy(IIIII)I
def fX4_copy_L14 (S : St) : Option (Int32 × St) :=
  cl (fX4_found (-1000001) S) fun v1 S1 =>
  some (v1, S1)
theorem sX4_copy_L14 {r : Int32} {S9 : St}  {S : St} (h : fX4_copy_L14 S = some (r, S9)) : PW mX4_copy (some (.int r), S9) 14 [some (.ref 0), none, none, none, none, none] [] S := by
  unfold fX4_copy_L14 at h
  refine p_aload_n (k := 6) (i := 0) rfl rfl rfl ?_
  refine p_ldc (k := 7) rfl k_RX4_61 ?_
  obtain ⟨v1, S1, hcS1, h⟩ := cl_some h
  refine p_callV (k := 8) [.int (-1000001)] [] rfl (tX4_found hcS1) lay_X4 rfl lc_X4_found ml_RX4_62 mi_X4_found mv_X4_found (by decide) (by decide) (Nat.le_of_ble_eq_true rfl) rfl ?_
  exact s_iret h (k := 9) rfl rfl
def fX4_copy_L45 (S : St) : Option (Int32 × St) :=
  cl (fX4_found (-1000006) S) fun v1 S1 =>
  some (v1, S1)
theorem sX4_copy_L45 {r : Int32} {S9 : St}  {S : St} (h : fX4_copy_L45 S = some (r, S9)) : PW mX4_copy (some (.int r), S9) 45 [some (.ref 0), none, none, none, none, none] [] S := by
  unfold fX4_copy_L45 at h
  refine p_aload_n (k := 22) (i := 0) rfl rfl rfl ?_
  refine p_ldc (k := 23) rfl k_RX4_238 ?_
  obtain ⟨v1, S1, hcS1, h⟩ := cl_some h
  refine p_callV (k := 24) [.int (-1000006)] [] rfl (tX4_found hcS1) lay_X4 rfl lc_X4_found ml_RX4_62 mi_X4_found mv_X4_found (by decide) (by decide) (Nat.le_of_ble_eq_true rfl) rfl ?_
  exact s_iret h (k := 25) rfl rfl
def fX4_copy_L111 (S : St) : Option (Int32 × St) :=
  cl (fX4_found (-1000001) S) fun v1 S1 =>
  some (v1, S1)
theorem sX4_copy_L111 {r : Int32} {S9 : St}  {S : St} (h : fX4_copy_L111 S = some (r, S9)) : PW mX4_copy (some (.int r), S9) 111 [some (.ref 0), none, none, none, none, none] [] S := by
  unfold fX4_copy_L111 at h
  refine p_aload_n (k := 57) (i := 0) rfl rfl rfl ?_
  refine p_ldc (k := 58) rfl k_RX4_61 ?_
  obtain ⟨v1, S1, hcS1, h⟩ := cl_some h
  refine p_callV (k := 59) [.int (-1000001)] [] rfl (tX4_found hcS1) lay_X4 rfl lc_X4_found ml_RX4_62 mi_X4_found mv_X4_found (by decide) (by decide) (Nat.le_of_ble_eq_true rfl) rfl ?_
  exact s_iret h (k := 60) rfl rfl
def fX4_copy (a1 : Int32) (a2 : Int32) (a3 : Int32) (a4 : Int32) (a5 : Int32) (S : St) : Option (Int32 × St) :=
  cl (fX4_isSheet a1 S) fun v1 S1 =>
  if v1 = 0 then
    fX4_copy_L14 S1
  else
    cl (fX4_isSheet a3 S1) fun v2 S2 =>
    if v2 = 0 then
      fX4_copy_L14 S2
    else
      ink 4 a1 <|
      cl (fX2_isMissing (32 + 2 * (a1 : Int32).toNatClampNeg) S2) fun v4 S3 =>
      if v4 = 0 then
        ink 4 a3 <|
        cl (fX2_isMissing (32 + 2 * (a3 : Int32).toNatClampNeg) S3) fun v6 S4 =>
        if v6 = 0 then
          ink 4 a1 <|
          ink 4 a3 <|
          if (S4 (32 + 2 * (a1 : Int32).toNatClampNeg) 1) = (S4 (32 + 2 * (a3 : Int32).toNatClampNeg) 1) then
            ink 4 a1 <|
            cl (fX2_hasRange (32 + 2 * (a1 : Int32).toNatClampNeg) a2 a5 S4) fun v10 S5 =>
            if v10 = 0 then
              fX4_copy_L111 S5
            else
              ink 4 a3 <|
              cl (fX2_hasRange (32 + 2 * (a3 : Int32).toNatClampNeg) a4 a5 S5) fun v12 S6 =>
              if v12 = 0 then
                fX4_copy_L111 S6
              else
                ink 4 a1 <|
                ink 4 a3 <|
                ac S6 ((32 + 2 * (a1 : Int32).toNatClampNeg) + 1) ((32 + 2 * (a3 : Int32).toNatClampNeg) + 1) 40 40 a2 a4 a5 fun S7 =>
                some (a5, S7)
          else
            cl (fX4_found (-1000003) S4) fun v15 S8 =>
            some (v15, S8)
        else
          fX4_copy_L45 S4
      else
        fX4_copy_L45 S3
theorem sX4_copy {a1 : Int32} {a2 : Int32} {a3 : Int32} {a4 : Int32} {a5 : Int32} {S : St} {r : Int32} {S9 : St} (h : fX4_copy a1 a2 a3 a4 a5 S = some (r, S9)) : PW mX4_copy (some (.int r), S9) 0 [some (.ref 0), some (.int a1), some (.int a2), some (.int a3), some (.int a4), some (.int a5)] [] S := by
  unfold fX4_copy at h
  refine p_iload_n (k := 0) (i := 1) rfl rfl rfl ?_
  obtain ⟨v1, S1, hcS1, h⟩ := cl_some h
  refine p_callS (k := 1) [.int a1] [] rfl (tX4_isSheet hcS1) lc_X4_isSheet ml_RX4_246 ms_X4_isSheet (by decide) (by decide) (Nat.le_of_ble_eq_true rfl) rfl ?_
  refine p_if_eq (k := 2) 14 rfl (by decide) (fun hc => ?_) (fun hc => ?_)
  · rw [if_pos hc] at h
    refine p_msk [true, false, false, false, false, false] (L2 := [some (.ref 0), none, none, none, none, none]) rfl ?_
    exact sX4_copy_L14 h
  · rw [if_neg hc] at h
    refine p_iload_n (k := 3) (i := 3) rfl rfl rfl ?_
    obtain ⟨v2, S2, hcS2, h⟩ := cl_some h
    refine p_callS (k := 4) [.int a3] [] rfl (tX4_isSheet hcS2) lc_X4_isSheet ml_RX4_246 ms_X4_isSheet (by decide) (by decide) (Nat.le_of_ble_eq_true rfl) rfl ?_
    refine p_if_ne (k := 5) 21 rfl (by decide) (fun hc => ?_) (fun hc => ?_)
    · rw [if_neg hc] at h
      refine p_aload_n (k := 10) (i := 0) rfl rfl rfl ?_
      refine p_getr (k := 11) rfl lay_X4 rfl fl_RX4_44 ?_
      refine p_iload_n (k := 12) (i := 1) rfl rfl rfl ?_
      obtain ⟨hi3, h⟩ := ink_some h
      refine p_aald (k := 13) rfl lay_31 hi3 ?_
      obtain ⟨v4, S3, hcS3, h⟩ := cl_some h
      refine p_callV (k := 14) [] [] rfl (tX2_isMissing (isS_of hi3) hcS3) (lay_s (isS_of hi3)) rfl lc_X2_isMissing ml_RX4_254 mi_X2_isMissing mv_X2_isMissing (by decide) (by decide) (Nat.le_of_ble_eq_true rfl) rfl ?_
      refine p_if_ne (k := 15) 45 rfl (by decide) (fun hc => ?_) (fun hc => ?_)
      · rw [if_neg hc] at h
        refine p_msk [true, false, false, false, false, false] (L2 := [some (.ref 0), none, none, none, none, none]) rfl ?_
        exact sX4_copy_L45 h
      · rw [if_pos hc] at h
        refine p_aload_n (k := 16) (i := 0) rfl rfl rfl ?_
        refine p_getr (k := 17) rfl lay_X4 rfl fl_RX4_44 ?_
        refine p_iload_n (k := 18) (i := 3) rfl rfl rfl ?_
        obtain ⟨hi5, h⟩ := ink_some h
        refine p_aald (k := 19) rfl lay_31 hi5 ?_
        obtain ⟨v6, S4, hcS4, h⟩ := cl_some h
        refine p_callV (k := 20) [] [] rfl (tX2_isMissing (isS_of hi5) hcS4) (lay_s (isS_of hi5)) rfl lc_X2_isMissing ml_RX4_254 mi_X2_isMissing mv_X2_isMissing (by decide) (by decide) (Nat.le_of_ble_eq_true rfl) rfl ?_
        refine p_if_eq (k := 21) 52 rfl (by decide) (fun hc => ?_) (fun hc => ?_)
        · rw [if_pos hc] at h
          refine p_aload_n (k := 26) (i := 0) rfl rfl rfl ?_
          refine p_getr (k := 27) rfl lay_X4 rfl fl_RX4_44 ?_
          refine p_iload_n (k := 28) (i := 1) rfl rfl rfl ?_
          obtain ⟨hi7, h⟩ := ink_some h
          refine p_aald (k := 29) rfl lay_31 hi7 ?_
          refine p_geti (k := 30) rfl (lay_s (isS_of hi7)) rfl fl_RX4_263 ?_
          refine p_aload_n (k := 31) (i := 0) rfl rfl rfl ?_
          refine p_getr (k := 32) rfl lay_X4 rfl fl_RX4_44 ?_
          refine p_iload_n (k := 33) (i := 3) rfl rfl rfl ?_
          obtain ⟨hi8, h⟩ := ink_some h
          refine p_aald (k := 34) rfl lay_31 hi8 ?_
          refine p_geti (k := 35) rfl (lay_s (isS_of hi8)) rfl fl_RX4_263 ?_
          refine p_icmp_eq (k := 36) 80 rfl (by decide) (fun hc => ?_) (fun hc => ?_)
          · rw [if_pos hc] at h
            refine p_aload_n (k := 41) (i := 0) rfl rfl rfl ?_
            refine p_getr (k := 42) rfl lay_X4 rfl fl_RX4_44 ?_
            refine p_iload_n (k := 43) (i := 1) rfl rfl rfl ?_
            obtain ⟨hi9, h⟩ := ink_some h
            refine p_aald (k := 44) rfl lay_31 hi9 ?_
            refine p_iload_n (k := 45) (i := 2) rfl rfl rfl ?_
            refine p_iload (k := 46) rfl rfl ?_
            obtain ⟨v10, S5, hcS5, h⟩ := cl_some h
            refine p_callV (k := 47) [.int a2, .int a5] [] rfl (tX2_hasRange (isS_of hi9) hcS5) (lay_s (isS_of hi9)) rfl lc_X2_hasRange ml_RX4_266 mi_X2_hasRange mv_X2_hasRange (by decide) (by decide) (Nat.le_of_ble_eq_true rfl) rfl ?_
            refine p_if_eq (k := 48) 111 rfl (by decide) (fun hc => ?_) (fun hc => ?_)
            · rw [if_pos hc] at h
              refine p_msk [true, false, false, false, false, false] (L2 := [some (.ref 0), none, none, none, none, none]) rfl ?_
              exact sX4_copy_L111 h
            · rw [if_neg hc] at h
              refine p_aload_n (k := 49) (i := 0) rfl rfl rfl ?_
              refine p_getr (k := 50) rfl lay_X4 rfl fl_RX4_44 ?_
              refine p_iload_n (k := 51) (i := 3) rfl rfl rfl ?_
              obtain ⟨hi11, h⟩ := ink_some h
              refine p_aald (k := 52) rfl lay_31 hi11 ?_
              refine p_iload (k := 53) rfl rfl ?_
              refine p_iload (k := 54) rfl rfl ?_
              obtain ⟨v12, S6, hcS6, h⟩ := cl_some h
              refine p_callV (k := 55) [.int a4, .int a5] [] rfl (tX2_hasRange (isS_of hi11) hcS6) (lay_s (isS_of hi11)) rfl lc_X2_hasRange ml_RX4_266 mi_X2_hasRange mv_X2_hasRange (by decide) (by decide) (Nat.le_of_ble_eq_true rfl) rfl ?_
              refine p_if_ne (k := 56) 118 rfl (by decide) (fun hc => ?_) (fun hc => ?_)
              · rw [if_neg hc] at h
                refine p_aload_n (k := 61) (i := 0) rfl rfl rfl ?_
                refine p_getr (k := 62) rfl lay_X4 rfl fl_RX4_44 ?_
                refine p_iload_n (k := 63) (i := 1) rfl rfl rfl ?_
                obtain ⟨hi13, h⟩ := ink_some h
                refine p_aald (k := 64) rfl lay_31 hi13 ?_
                refine p_getr (k := 65) rfl (lay_s (isS_of hi13)) rfl fl_RX4_257 ?_
                refine p_iload_n (k := 66) (i := 2) rfl rfl rfl ?_
                refine p_aload_n (k := 67) (i := 0) rfl rfl rfl ?_
                refine p_getr (k := 68) rfl lay_X4 rfl fl_RX4_44 ?_
                refine p_iload_n (k := 69) (i := 3) rfl rfl rfl ?_
                obtain ⟨hi14, h⟩ := ink_some h
                refine p_aald (k := 70) rfl lay_31 hi14 ?_
                refine p_getr (k := 71) rfl (lay_s (isS_of hi14)) rfl fl_RX4_257 ?_
                refine p_iload (k := 72) rfl rfl ?_
                refine p_iload (k := 73) rfl rfl ?_
                refine s_ac [] h (k := 74) rfl ml_RX4_269 cp_native cp_static cp_init (lay_s0 (isS_of hi13)) (lay_s0 (isS_of hi14)) (by decide) (Nat.le_of_ble_eq_true rfl) (fun S7 h => ?_)
                refine p_iload (k := 75) rfl rfl ?_
                exact s_iret h (k := 76) rfl rfl
              · rw [if_pos hc] at h
                refine p_msk [true, false, false, false, false, false] (L2 := [some (.ref 0), none, none, none, none, none]) rfl ?_
                exact sX4_copy_L111 h
          · rw [if_neg hc] at h
            refine p_aload_n (k := 37) (i := 0) rfl rfl rfl ?_
            refine p_ldc (k := 38) rfl k_RX4_245 ?_
            obtain ⟨v15, S8, hcS8, h⟩ := cl_some h
            refine p_callV (k := 39) [.int (-1000003)] [] rfl (tX4_found hcS8) lay_X4 rfl lc_X4_found ml_RX4_62 mi_X4_found mv_X4_found (by decide) (by decide) (Nat.le_of_ble_eq_true rfl) rfl ?_
            exact s_iret h (k := 40) rfl rfl
        · rw [if_neg hc] at h
          refine p_msk [true, false, false, false, false, false] (L2 := [some (.ref 0), none, none, none, none, none]) rfl ?_
          exact sX4_copy_L45 h
    · rw [if_pos hc] at h
      refine p_msk [true, false, false, false, false, false] (L2 := [some (.ref 0), none, none, none, none, none]) rfl ?_
      exact sX4_copy_L14 h
theorem tX4_copy {a1 : Int32} {a2 : Int32} {a3 : Int32} {a4 : Int32} {a5 : Int32} {S : St} {r : Int32} {S9 : St} (h : fX4_copy a1 a2 a3 a4 a5 S = some (r, S9)) : MR yX4_copy cX4_copy mX4_copy [.ref 0, .int a1, .int a2, .int a3, .int a4, .int a5] S (some (.int r), S9) := MR.of (n := 0) okX4_copy rfl rfl (sX4_copy h)
-- load(I)I
def fX4_load_L100 (x2 : Int32) (S : St) : Option (Int32 × St) :=
  some (x2, S)
theorem sX4_load_L100 {r : Int32} {S9 : St} {x2 : Int32} {S : St} (h : fX4_load_L100 x2 S = some (r, S9)) : PW mX4_load (some (.int r), S9) 100 [none, none, some (.int x2), none] [] S := by
  unfold fX4_load_L100 at h
  refine p_iload_n (k := 54) (i := 2) rfl rfl rfl ?_
  exact s_iret h (k := 55) rfl rfl
def fX4_load_L50 : Nat → Int32 → Int32 → Int32 → St → Option (Int32 × St)
  | 0 => fun _ _ _ _ => none
  | n + 1 => fun x1 x2 x3 S =>
    if x3 ≤ x2 then
      fX4_load_L100 x2 S
    else
      ink 4 x1 <|
      rd S ((32 + 2 * (x1 : Int32).toNatClampNeg) + 1) 40 x2 fun v2 =>
      cl (fX4_isWithin v2 99 S) fun v3 S1 =>
      if v3 = 0 then
        fX4_load_L100 x2 S1
      else
        ink 4 x1 <|
        rd S1 ((32 + 2 * (x1 : Int32).toNatClampNeg) + 1) 40 x2 fun v5 =>
        wr S1 (1 + 1) 12 x2 v5 fun S2 =>
        bnd (x2 + 1) fun v6 =>
        fX4_load_L50 n x1 v6 x3 S2
theorem sX4_load_L50 {r : Int32} {S9 : St} : ∀ (n : Nat) (x1 : Int32) (x2 : Int32) (x3 : Int32) (S : St), fX4_load_L50 n x1 x2 x3 S = some (r, S9) → PW mX4_load (some (.int r), S9) 50 [some (.ref 0), some (.int x1), some (.int x2), some (.int x3)] [] S := by
  intro n
  induction n with
  | zero => intro x1 x2 x3 S h; cases h
  | succ n ih =>
    intro x1 x2 x3 S h
    unfold fX4_load_L50 at h
    refine p_iload_n (k := 27) (i := 2) rfl rfl rfl ?_
    refine p_iload_n (k := 28) (i := 3) rfl rfl rfl ?_
    refine p_icmp_ge (k := 29) 100 rfl (by decide) (fun hc => ?_) (fun hc => ?_)
    · rw [if_pos hc] at h
      refine p_msk [false, false, true, false] (L2 := [none, none, some (.int x2), none]) rfl ?_
      exact sX4_load_L100 h
    · rw [if_neg hc] at h
      refine p_aload_n (k := 30) (i := 0) rfl rfl rfl ?_
      refine p_getr (k := 31) rfl lay_X4 rfl fl_RX4_44 ?_
      refine p_iload_n (k := 32) (i := 1) rfl rfl rfl ?_
      obtain ⟨hi1, h⟩ := ink_some h
      refine p_aald (k := 33) rfl lay_31 hi1 ?_
      refine p_getr (k := 34) rfl (lay_s (isS_of hi1)) rfl fl_RX4_257 ?_
      refine p_iload_n (k := 35) (i := 2) rfl rfl rfl ?_
      refine s_rd h (k := 36) rfl (lay_s0 (isS_of hi1)) (fun v2 h => ?_)
      refine p_bipush (k := 37) 99 rfl (by decide) ?_
      obtain ⟨v3, S1, hcS1, h⟩ := cl_some h
      refine p_callS (k := 38) [.int v2, .int 99] [] rfl (tX4_isWithin hcS1) lc_X4_isWithin ml_RX4_57 ms_X4_isWithin (by decide) (by decide) (Nat.le_of_ble_eq_true rfl) rfl ?_
      refine p_if_eq (k := 39) 100 rfl (by decide) (fun hc => ?_) (fun hc => ?_)
      · rw [if_pos hc] at h
        refine p_msk [false, false, true, false] (L2 := [none, none, some (.int x2), none]) rfl ?_
        exact sX4_load_L100 h
      · rw [if_neg hc] at h
        refine p_aload_n (k := 40) (i := 0) rfl rfl rfl ?_
        refine p_getr (k := 41) rfl lay_X4 rfl fl_RX4_12 ?_
        refine p_getr (k := 42) rfl (lay_c isC_1) rfl fl_RX4_66 ?_
        refine p_iload_n (k := 43) (i := 2) rfl rfl rfl ?_
        refine p_aload_n (k := 44) (i := 0) rfl rfl rfl ?_
        refine p_getr (k := 45) rfl lay_X4 rfl fl_RX4_44 ?_
        refine p_iload_n (k := 46) (i := 1) rfl rfl rfl ?_
        obtain ⟨hi4, h⟩ := ink_some h
        refine p_aald (k := 47) rfl lay_31 hi4 ?_
        refine p_getr (k := 48) rfl (lay_s (isS_of hi4)) rfl fl_RX4_257 ?_
        refine p_iload_n (k := 49) (i := 2) rfl rfl rfl ?_
        refine s_rd h (k := 50) rfl (lay_s0 (isS_of hi4)) (fun v5 h => ?_)
        refine s_wr h (k := 51) rfl (lay_c0 isC_1) (fun S2 h => ?_)
        obtain ⟨v6, ev6, h⟩ := bnd_ex h
        refine p_iinc (k := 52) v6 [some (.ref 0), some (.int x1), some (.int v6), some (.int x3)] rfl rfl (by rw [← ev6]; rfl) rfl (by decide) rfl ?_
        refine p_goto (k := 53) 50 rfl (by decide) ?_
        refine p_msk [true, true, true, true] (L2 := [some (.ref 0), some (.int x1), some (.int v6), some (.int x3)]) rfl ?_
        exact ih _ _ _ _ h
def fX4_load (a1 : Int32) (S : St) : Option (Int32 × St) :=
  cl (fX4_isSheet a1 S) fun v1 S1 =>
  if v1 = 0 then
    cl (fX4_found (-1000001) S1) fun v7 S4 =>
    some (v7, S4)
  else
    ink 4 a1 <|
    cl (fX2_isMissing (32 + 2 * (a1 : Int32).toNatClampNeg) S1) fun v3 S2 =>
    if v3 = 0 then
      ink 4 a1 <|
      bnd (mnI (S2 (32 + 2 * (a1 : Int32).toNatClampNeg) 2) 12) fun v5 =>
      fX4_load_L50 FU a1 0 v5 S2
    else
      cl (fX4_found (-1000006) S2) fun v6 S3 =>
      some (v6, S3)
theorem sX4_load {a1 : Int32} {S : St} {r : Int32} {S9 : St} (h : fX4_load a1 S = some (r, S9)) : PW mX4_load (some (.int r), S9) 0 [some (.ref 0), some (.int a1), none, none] [] S := by
  unfold fX4_load at h
  refine p_iload_n (k := 0) (i := 1) rfl rfl rfl ?_
  obtain ⟨v1, S1, hcS1, h⟩ := cl_some h
  refine p_callS (k := 1) [.int a1] [] rfl (tX4_isSheet hcS1) lc_X4_isSheet ml_RX4_246 ms_X4_isSheet (by decide) (by decide) (Nat.le_of_ble_eq_true rfl) rfl ?_
  refine p_if_ne (k := 2) 14 rfl (by decide) (fun hc => ?_) (fun hc => ?_)
  · rw [if_neg hc] at h
    refine p_aload_n (k := 7) (i := 0) rfl rfl rfl ?_
    refine p_getr (k := 8) rfl lay_X4 rfl fl_RX4_44 ?_
    refine p_iload_n (k := 9) (i := 1) rfl rfl rfl ?_
    obtain ⟨hi2, h⟩ := ink_some h
    refine p_aald (k := 10) rfl lay_31 hi2 ?_
    obtain ⟨v3, S2, hcS2, h⟩ := cl_some h
    refine p_callV (k := 11) [] [] rfl (tX2_isMissing (isS_of hi2) hcS2) (lay_s (isS_of hi2)) rfl lc_X2_isMissing ml_RX4_254 mi_X2_isMissing mv_X2_isMissing (by decide) (by decide) (Nat.le_of_ble_eq_true rfl) rfl ?_
    refine p_if_eq (k := 12) 33 rfl (by decide) (fun hc => ?_) (fun hc => ?_)
    · rw [if_pos hc] at h
      refine p_iconst (k := 17) 0 rfl (by decide) ?_
      refine p_istore_n (k := 18) 2 [some (.ref 0), some (.int a1), some (.int 0), none] rfl rfl rfl (by decide) rfl ?_
      refine p_aload_n (k := 19) (i := 0) rfl rfl rfl ?_
      refine p_getr (k := 20) rfl lay_X4 rfl fl_RX4_44 ?_
      refine p_iload_n (k := 21) (i := 1) rfl rfl rfl ?_
      obtain ⟨hi4, h⟩ := ink_some h
      refine p_aald (k := 22) rfl lay_31 hi4 ?_
      refine p_geti (k := 23) rfl (lay_s (isS_of hi4)) rfl fl_RX4_253 ?_
      refine p_bipush (k := 24) 12 rfl (by decide) ?_
      refine p_mmin (k := 25) rfl ml_RX4_139 mm_static_min mm_init mm_code_min (by decide) (Nat.le_of_ble_eq_true rfl) ?_
      refine s_bnd h (fun v5 h => ?_)
      refine p_istore_n (k := 26) 3 [some (.ref 0), some (.int a1), some (.int 0), some (.int v5)] rfl rfl rfl (by decide) rfl ?_
      refine p_msk [true, true, true, true] (L2 := [some (.ref 0), some (.int a1), some (.int 0), some (.int v5)]) rfl ?_
      exact sX4_load_L50 _ _ _ _ _ h
    · rw [if_neg hc] at h
      refine p_aload_n (k := 13) (i := 0) rfl rfl rfl ?_
      refine p_ldc (k := 14) rfl k_RX4_238 ?_
      obtain ⟨v6, S3, hcS3, h⟩ := cl_some h
      refine p_callV (k := 15) [.int (-1000006)] [] rfl (tX4_found hcS3) lay_X4 rfl lc_X4_found ml_RX4_62 mi_X4_found mv_X4_found (by decide) (by decide) (Nat.le_of_ble_eq_true rfl) rfl ?_
      exact s_iret h (k := 16) rfl rfl
  · rw [if_pos hc] at h
    refine p_aload_n (k := 3) (i := 0) rfl rfl rfl ?_
    refine p_ldc (k := 4) rfl k_RX4_61 ?_
    obtain ⟨v7, S4, hcS4, h⟩ := cl_some h
    refine p_callV (k := 5) [.int (-1000001)] [] rfl (tX4_found hcS4) lay_X4 rfl lc_X4_found ml_RX4_62 mi_X4_found mv_X4_found (by decide) (by decide) (Nat.le_of_ble_eq_true rfl) rfl ?_
    exact s_iret h (k := 6) rfl rfl
theorem tX4_load {a1 : Int32} {S : St} {r : Int32} {S9 : St} (h : fX4_load a1 S = some (r, S9)) : MR yX4_load cX4_load mX4_load [.ref 0, .int a1] S (some (.int r), S9) := MR.of (n := 2) okX4_load rfl rfl (sX4_load h)
-- judge(I)I
def fX4_judge_L79 (x2 : Int32) (S : St) : Option (Int32 × St) :=
  some (1 + x2, S)
theorem sX4_judge_L79 {r : Int32} {S9 : St} {x2 : Int32} {S : St} (h : fX4_judge_L79 x2 S = some (r, S9)) : PW mX4_judge (some (.int r), S9) 79 [none, none, some (.int x2)] [] S := by
  unfold fX4_judge_L79 at h
  refine p_iconst (k := 43) 1 rfl (by decide) ?_
  refine p_iload_n (k := 44) (i := 2) rfl rfl rfl ?_
  refine p_iadd (k := 45) rfl ?_
  exact s_iret h (k := 46) rfl rfl
def fX4_judge_L35 : Nat → Int32 → Int32 → St → Option (Int32 × St)
  | 0 => fun _ _ _ => none
  | n + 1 => fun x1 x2 S =>
    ink 4 x1 <|
    if (S (32 + 2 * (x1 : Int32).toNatClampNeg) 2) ≤ x2 then
      some (0, S)
    else
      cl (fX4_isGoat x2 S) fun v2 S1 =>
      if v2 = 0 then
        fX4_judge_L79 x2 S1
      else
        rd S1 (1 + 4) 8 x2 fun v3 =>
        ink 4 x1 <|
        rd S1 ((32 + 2 * (x1 : Int32).toNatClampNeg) + 1) 40 x2 fun v5 =>
        if v3 = v5 then
          bnd (x2 + 1) fun v6 =>
          fX4_judge_L35 n x1 v6 S1
        else
          fX4_judge_L79 x2 S1
theorem sX4_judge_L35 {r : Int32} {S9 : St} : ∀ (n : Nat) (x1 : Int32) (x2 : Int32) (S : St), fX4_judge_L35 n x1 x2 S = some (r, S9) → PW mX4_judge (some (.int r), S9) 35 [some (.ref 0), some (.int x1), some (.int x2)] [] S := by
  intro n
  induction n with
  | zero => intro x1 x2 S h; cases h
  | succ n ih =>
    intro x1 x2 S h
    unfold fX4_judge_L35 at h
    refine p_iload_n (k := 19) (i := 2) rfl rfl rfl ?_
    refine p_aload_n (k := 20) (i := 0) rfl rfl rfl ?_
    refine p_getr (k := 21) rfl lay_X4 rfl fl_RX4_44 ?_
    refine p_iload_n (k := 22) (i := 1) rfl rfl rfl ?_
    obtain ⟨hi1, h⟩ := ink_some h
    refine p_aald (k := 23) rfl lay_31 hi1 ?_
    refine p_geti (k := 24) rfl (lay_s (isS_of hi1)) rfl fl_RX4_253 ?_
    refine p_icmp_ge (k := 25) 89 rfl (by decide) (fun hc => ?_) (fun hc => ?_)
    · rw [if_pos hc] at h
      refine p_iconst (k := 49) 0 rfl (by decide) ?_
      exact s_iret h (k := 50) rfl rfl
    · rw [if_neg hc] at h
      refine p_aload_n (k := 26) (i := 0) rfl rfl rfl ?_
      refine p_iload_n (k := 27) (i := 2) rfl rfl rfl ?_
      obtain ⟨v2, S1, hcS1, h⟩ := cl_some h
      refine p_callV (k := 28) [.int x2] [] rfl (tX4_isGoat hcS1) lay_X4 rfl lc_X4_isGoat ml_RX4_94 mi_X4_isGoat mv_X4_isGoat (by decide) (by decide) (Nat.le_of_ble_eq_true rfl) rfl ?_
      refine p_if_eq (k := 29) 79 rfl (by decide) (fun hc => ?_) (fun hc => ?_)
      · rw [if_pos hc] at h
        refine p_msk [false, false, true] (L2 := [none, none, some (.int x2)]) rfl ?_
        exact sX4_judge_L79 h
      · rw [if_neg hc] at h
        refine p_aload_n (k := 30) (i := 0) rfl rfl rfl ?_
        refine p_getr (k := 31) rfl lay_X4 rfl fl_RX4_12 ?_
        refine p_getr (k := 32) rfl (lay_c isC_1) rfl fl_RX4_119 ?_
        refine p_iload_n (k := 33) (i := 2) rfl rfl rfl ?_
        refine s_rd h (k := 34) rfl (lay_c3 isC_1) (fun v3 h => ?_)
        refine p_aload_n (k := 35) (i := 0) rfl rfl rfl ?_
        refine p_getr (k := 36) rfl lay_X4 rfl fl_RX4_44 ?_
        refine p_iload_n (k := 37) (i := 1) rfl rfl rfl ?_
        obtain ⟨hi4, h⟩ := ink_some h
        refine p_aald (k := 38) rfl lay_31 hi4 ?_
        refine p_getr (k := 39) rfl (lay_s (isS_of hi4)) rfl fl_RX4_257 ?_
        refine p_iload_n (k := 40) (i := 2) rfl rfl rfl ?_
        refine s_rd h (k := 41) rfl (lay_s0 (isS_of hi4)) (fun v5 h => ?_)
        refine p_icmp_eq (k := 42) 83 rfl (by decide) (fun hc => ?_) (fun hc => ?_)
        · rw [if_pos hc] at h
          obtain ⟨v6, ev6, h⟩ := bnd_ex h
          refine p_iinc (k := 47) v6 [some (.ref 0), some (.int x1), some (.int v6)] rfl rfl (by rw [← ev6]; rfl) rfl (by decide) rfl ?_
          refine p_goto (k := 48) 35 rfl (by decide) ?_
          refine p_msk [true, true, true] (L2 := [some (.ref 0), some (.int x1), some (.int v6)]) rfl ?_
          exact ih _ _ _ h
        · rw [if_neg hc] at h
          refine p_msk [false, false, true] (L2 := [none, none, some (.int x2)]) rfl ?_
          exact sX4_judge_L79 h
def fX4_judge (a1 : Int32) (S : St) : Option (Int32 × St) :=
  cl (fX4_isSheet a1 S) fun v1 S1 =>
  if v1 = 0 then
    cl (fX4_found (-1000001) S1) fun v5 S4 =>
    some (v5, S4)
  else
    ink 4 a1 <|
    cl (fX2_isMissing (32 + 2 * (a1 : Int32).toNatClampNeg) S1) fun v3 S2 =>
    if v3 = 0 then
      fX4_judge_L35 FU a1 0 S2
    else
      cl (fX4_found (-1000006) S2) fun v4 S3 =>
      some (v4, S3)
theorem sX4_judge {a1 : Int32} {S : St} {r : Int32} {S9 : St} (h : fX4_judge a1 S = some (r, S9)) : PW mX4_judge (some (.int r), S9) 0 [some (.ref 0), some (.int a1), none] [] S := by
  unfold fX4_judge at h
  refine p_iload_n (k := 0) (i := 1) rfl rfl rfl ?_
  obtain ⟨v1, S1, hcS1, h⟩ := cl_some h
  refine p_callS (k := 1) [.int a1] [] rfl (tX4_isSheet hcS1) lc_X4_isSheet ml_RX4_246 ms_X4_isSheet (by decide) (by decide) (Nat.le_of_ble_eq_true rfl) rfl ?_
  refine p_if_ne (k := 2) 14 rfl (by decide) (fun hc => ?_) (fun hc => ?_)
  · rw [if_neg hc] at h
    refine p_aload_n (k := 7) (i := 0) rfl rfl rfl ?_
    refine p_getr (k := 8) rfl lay_X4 rfl fl_RX4_44 ?_
    refine p_iload_n (k := 9) (i := 1) rfl rfl rfl ?_
    obtain ⟨hi2, h⟩ := ink_some h
    refine p_aald (k := 10) rfl lay_31 hi2 ?_
    obtain ⟨v3, S2, hcS2, h⟩ := cl_some h
    refine p_callV (k := 11) [] [] rfl (tX2_isMissing (isS_of hi2) hcS2) (lay_s (isS_of hi2)) rfl lc_X2_isMissing ml_RX4_254 mi_X2_isMissing mv_X2_isMissing (by decide) (by decide) (Nat.le_of_ble_eq_true rfl) rfl ?_
    refine p_if_eq (k := 12) 33 rfl (by decide) (fun hc => ?_) (fun hc => ?_)
    · rw [if_pos hc] at h
      refine p_iconst (k := 17) 0 rfl (by decide) ?_
      refine p_istore_n (k := 18) 2 [some (.ref 0), some (.int a1), some (.int 0)] rfl rfl rfl (by decide) rfl ?_
      refine p_msk [true, true, true] (L2 := [some (.ref 0), some (.int a1), some (.int 0)]) rfl ?_
      exact sX4_judge_L35 _ _ _ _ h
    · rw [if_neg hc] at h
      refine p_aload_n (k := 13) (i := 0) rfl rfl rfl ?_
      refine p_ldc (k := 14) rfl k_RX4_238 ?_
      obtain ⟨v4, S3, hcS3, h⟩ := cl_some h
      refine p_callV (k := 15) [.int (-1000006)] [] rfl (tX4_found hcS3) lay_X4 rfl lc_X4_found ml_RX4_62 mi_X4_found mv_X4_found (by decide) (by decide) (Nat.le_of_ble_eq_true rfl) rfl ?_
      exact s_iret h (k := 16) rfl rfl
  · rw [if_pos hc] at h
    refine p_aload_n (k := 3) (i := 0) rfl rfl rfl ?_
    refine p_ldc (k := 4) rfl k_RX4_61 ?_
    obtain ⟨v5, S4, hcS4, h⟩ := cl_some h
    refine p_callV (k := 5) [.int (-1000001)] [] rfl (tX4_found hcS4) lay_X4 rfl lc_X4_found ml_RX4_62 mi_X4_found mv_X4_found (by decide) (by decide) (Nat.le_of_ble_eq_true rfl) rfl ?_
    exact s_iret h (k := 6) rfl rfl
theorem tX4_judge {a1 : Int32} {S : St} {r : Int32} {S9 : St} (h : fX4_judge a1 S = some (r, S9)) : MR yX4_judge cX4_judge mX4_judge [.ref 0, .int a1] S (some (.int r), S9) := MR.of (n := 1) okX4_judge rfl rfl (sX4_judge h)
-- image()I
def fX4_image (S : St) : Option (Int32 × St) :=
  cl (fX0_become 19 1 S) fun _ S1 =>
  bnd (up2 S1 0 3 1) fun S2 =>
  some (1, S2)
theorem sX4_image {S : St} {r : Int32} {S9 : St} (h : fX4_image S = some (r, S9)) : PW mX4_image (some (.int r), S9) 0 [some (.ref 0)] [] S := by
  unfold fX4_image at h
  refine p_aload_n (k := 0) (i := 0) rfl rfl rfl ?_
  refine p_getr (k := 1) rfl lay_X4 rfl fl_RX4_19 ?_
  refine p_aload_n (k := 2) (i := 0) rfl rfl rfl ?_
  refine p_getr (k := 3) rfl lay_X4 rfl fl_RX4_12 ?_
  obtain ⟨_, S1, hcS1, h⟩ := cl_some h
  refine p_callV (k := 4) [.ref 1] [] rfl (tX0_become isC_19 isC_1 hcS1) (lay_c isC_19) rfl lc_X0_become ml_RX4_172 mi_X0_become mv_X0_become (by decide) (by decide) (Nat.le_of_ble_eq_true rfl) rfl ?_
  refine p_aload_n (k := 5) (i := 0) rfl rfl rfl ?_
  refine p_iconst (k := 6) 1 rfl (by decide) ?_
  refine s_put h (k := 7) rfl lay_X4 rfl fl_RX4_22 fp_4_3 (by decide) (by decide) (fun S2 h => ?_)
  refine p_iconst (k := 8) 1 rfl (by decide) ?_
  exact s_iret h (k := 9) rfl rfl
theorem tX4_image {S : St} {r : Int32} {S9 : St} (h : fX4_image S = some (r, S9)) : MR yX4_image cX4_image mX4_image [.ref 0] S (some (.int r), S9) := MR.of (n := 0) okX4_image rfl rfl (sX4_image h)
-- undo()I
def fX4_undo (S : St) : Option (Int32 × St) :=
  if (S 0 3) = 0 then
    cl (fX4_found (-1000004) S) fun v1 S2 =>
    some (v1, S2)
  else
    cl (fX0_become 1 19 S) fun _ S1 =>
    some (S1 1 12, S1)
theorem sX4_undo {S : St} {r : Int32} {S9 : St} (h : fX4_undo S = some (r, S9)) : PW mX4_undo (some (.int r), S9) 0 [some (.ref 0)] [] S := by
  unfold fX4_undo at h
  refine p_aload_n (k := 0) (i := 0) rfl rfl rfl ?_
  refine p_geti (k := 1) rfl lay_X4 rfl fl_RX4_22 ?_
  refine p_if_ne (k := 2) 14 rfl (by decide) (fun hc => ?_) (fun hc => ?_)
  · rw [if_neg hc] at h
    refine p_aload_n (k := 7) (i := 0) rfl rfl rfl ?_
    refine p_getr (k := 8) rfl lay_X4 rfl fl_RX4_12 ?_
    refine p_aload_n (k := 9) (i := 0) rfl rfl rfl ?_
    refine p_getr (k := 10) rfl lay_X4 rfl fl_RX4_19 ?_
    obtain ⟨_, S1, hcS1, h⟩ := cl_some h
    refine p_callV (k := 11) [.ref 19] [] rfl (tX0_become isC_1 isC_19 hcS1) (lay_c isC_1) rfl lc_X0_become ml_RX4_172 mi_X0_become mv_X0_become (by decide) (by decide) (Nat.le_of_ble_eq_true rfl) rfl ?_
    refine p_aload_n (k := 12) (i := 0) rfl rfl rfl ?_
    refine p_getr (k := 13) rfl lay_X4 rfl fl_RX4_12 ?_
    refine p_geti (k := 14) rfl (lay_c isC_1) rfl fl_RX4_144 ?_
    exact s_iret h (k := 15) rfl rfl
  · rw [if_pos hc] at h
    refine p_aload_n (k := 3) (i := 0) rfl rfl rfl ?_
    refine p_ldc (k := 4) rfl k_RX4_134 ?_
    obtain ⟨v1, S2, hcS2, h⟩ := cl_some h
    refine p_callV (k := 5) [.int (-1000004)] [] rfl (tX4_found hcS2) lay_X4 rfl lc_X4_found ml_RX4_62 mi_X4_found mv_X4_found (by decide) (by decide) (Nat.le_of_ble_eq_true rfl) rfl ?_
    exact s_iret h (k := 6) rfl rfl
theorem tX4_undo {S : St} {r : Int32} {S9 : St} (h : fX4_undo S = some (r, S9)) : MR yX4_undo cX4_undo mX4_undo [.ref 0] S (some (.int r), S9) := MR.of (n := 0) okX4_undo rfl rfl (sX4_undo h)
-- tear()I
def fX4_tear_L12 (y0 : Int32) (S : St) : Option (Int32 × St) :=
  bnd (up2 S 0 3 0) fun S1 =>
  some (y0, S1)
theorem sX4_tear_L12 {r : Int32} {S9 : St} {y0 : Int32} {S : St} (h : fX4_tear_L12 y0 S = some (r, S9)) : PW mX4_tear (some (.int r), S9) 12 [some (.ref 0), none] [.int y0] S := by
  unfold fX4_tear_L12 at h
  refine p_istore_n (k := 6) 1 [some (.ref 0), some (.int y0)] rfl rfl rfl (by decide) rfl ?_
  refine p_aload_n (k := 7) (i := 0) rfl rfl rfl ?_
  refine p_iconst (k := 8) 0 rfl (by decide) ?_
  refine s_put h (k := 9) rfl lay_X4 rfl fl_RX4_22 fp_4_3 (by decide) (by decide) (fun S1 h => ?_)
  refine p_iload_n (k := 10) (i := 1) rfl rfl rfl ?_
  exact s_iret h (k := 11) rfl rfl
def fX4_tear (S : St) : Option (Int32 × St) :=
  if (S 0 3) = 0 then
    fX4_tear_L12 0 S
  else
    fX4_tear_L12 1 S
theorem sX4_tear {S : St} {r : Int32} {S9 : St} (h : fX4_tear S = some (r, S9)) : PW mX4_tear (some (.int r), S9) 0 [some (.ref 0), none] [] S := by
  unfold fX4_tear at h
  refine p_aload_n (k := 0) (i := 0) rfl rfl rfl ?_
  refine p_geti (k := 1) rfl lay_X4 rfl fl_RX4_22 ?_
  refine p_if_eq (k := 2) 11 rfl (by decide) (fun hc => ?_) (fun hc => ?_)
  · rw [if_pos hc] at h
    refine p_iconst (k := 5) 0 rfl (by decide) ?_
    refine p_msk [true, false] (L2 := [some (.ref 0), none]) rfl ?_
    exact sX4_tear_L12 h
  · rw [if_neg hc] at h
    refine p_iconst (k := 3) 1 rfl (by decide) ?_
    refine p_goto (k := 4) 12 rfl (by decide) ?_
    refine p_msk [true, false] (L2 := [some (.ref 0), none]) rfl ?_
    exact sX4_tear_L12 h
theorem tX4_tear {S : St} {r : Int32} {S9 : St} (h : fX4_tear S = some (r, S9)) : MR yX4_tear cX4_tear mX4_tear [.ref 0] S (some (.int r), S9) := MR.of (n := 1) okX4_tear rfl rfl (sX4_tear h)
-- count(I)I
def fX4_count (a1 : Int32) (S : St) : Option (Int32 × St) :=
  if a1 = 0 then
    some (S 1 12, S)
  else
  if a1 = 1 then
    some (S 1 8, S)
  else
  if a1 = 2 then
    cl (fX0_pagesKnown 1 S) fun v1 S1 =>
    cl (fJ6_bitCount_0f7a4 v1 S1) fun v2 S2 =>
    some (v2, S2)
  else
  if a1 = 3 then
    some (S 1 11, S)
  else
  if a1 = 4 then
    cl (fX0_grassInAll 1 S) fun v3 S3 =>
    some (v3, S3)
  else
  if a1 = 5 then
    some (S 28 1, S)
  else
  if a1 = 6 then
    some (S 1 13, S)
  else
  if a1 = 7 then
    cl (fX0_spotsInUse 1 S) fun v4 S4 =>
    some (v4, S4)
  else
  cl (fX4_found (-1000001) S) fun v5 S5 =>
  some (v5, S5)
theorem sX4_count {a1 : Int32} {S : St} {r : Int32} {S9 : St} (h : fX4_count a1 S = some (r, S9)) : PW mX4_count (some (.int r), S9) 0 [some (.ref 0), some (.int a1)] [] S := by
  unfold fX4_count at h
  refine p_iload_n (k := 0) (i := 1) rfl rfl rfl ?_
  by_cases hx0 : a1 = 0
  · rw [if_pos hx0] at h
    refine p_tableIn (k := 1) (off := 47) 48 rfl (by rw [hx0]; decide) (by rw [hx0]; decide) (by rw [hx0]; decide) (by decide) ?_
    refine p_aload_n (k := 2) (i := 0) rfl rfl rfl ?_
    refine p_getr (k := 3) rfl lay_X4 rfl fl_RX4_12 ?_
    refine p_geti (k := 4) rfl (lay_c isC_1) rfl fl_RX4_144 ?_
    exact s_iret h (k := 5) rfl rfl
  rw [if_neg hx0] at h
  by_cases hx1 : a1 = 1
  · rw [if_pos hx1] at h
    refine p_tableIn (k := 1) (off := 55) 56 rfl (by rw [hx1]; decide) (by rw [hx1]; decide) (by rw [hx1]; decide) (by decide) ?_
    refine p_aload_n (k := 6) (i := 0) rfl rfl rfl ?_
    refine p_getr (k := 7) rfl lay_X4 rfl fl_RX4_12 ?_
    refine p_geti (k := 8) rfl (lay_c isC_1) rfl fl_RX4_187 ?_
    exact s_iret h (k := 9) rfl rfl
  rw [if_neg hx1] at h
  by_cases hx2 : a1 = 2
  · rw [if_pos hx2] at h
    refine p_tableIn (k := 1) (off := 63) 64 rfl (by rw [hx2]; decide) (by rw [hx2]; decide) (by rw [hx2]; decide) (by decide) ?_
    refine p_aload_n (k := 10) (i := 0) rfl rfl rfl ?_
    refine p_getr (k := 11) rfl lay_X4 rfl fl_RX4_12 ?_
    obtain ⟨v1, S1, hcS1, h⟩ := cl_some h
    refine p_callV (k := 12) [] [] rfl (tX0_pagesKnown isC_1 hcS1) (lay_c isC_1) rfl lc_X0_pagesKnown ml_RX4_152 mi_X0_pagesKnown mv_X0_pagesKnown (by decide) (by decide) (Nat.le_of_ble_eq_true rfl) rfl ?_
    obtain ⟨v2, S2, hcS2, h⟩ := cl_some h
    refine p_callS (k := 13) [.int v1] [] rfl (tJ6_bitCount_0f7a4 hcS2) lc_J6_bitCount_0f7a4 ml_RX4_190 ms_J6_bitCount_0f7a4 (by decide) (by decide) (Nat.le_of_ble_eq_true rfl) rfl ?_
    exact s_iret h (k := 14) rfl rfl
  rw [if_neg hx2] at h
  by_cases hx3 : a1 = 3
  · rw [if_pos hx3] at h
    refine p_tableIn (k := 1) (off := 74) 75 rfl (by rw [hx3]; decide) (by rw [hx3]; decide) (by rw [hx3]; decide) (by decide) ?_
    refine p_aload_n (k := 15) (i := 0) rfl rfl rfl ?_
    refine p_getr (k := 16) rfl lay_X4 rfl fl_RX4_12 ?_
    refine p_geti (k := 17) rfl (lay_c isC_1) rfl fl_RX4_79 ?_
    exact s_iret h (k := 18) rfl rfl
  rw [if_neg hx3] at h
  by_cases hx4 : a1 = 4
  · rw [if_pos hx4] at h
    refine p_tableIn (k := 1) (off := 82) 83 rfl (by rw [hx4]; decide) (by rw [hx4]; decide) (by rw [hx4]; decide) (by decide) ?_
    refine p_aload_n (k := 19) (i := 0) rfl rfl rfl ?_
    refine p_getr (k := 20) rfl lay_X4 rfl fl_RX4_12 ?_
    obtain ⟨v3, S3, hcS3, h⟩ := cl_some h
    refine p_callV (k := 21) [] [] rfl (tX0_grassInAll isC_1 hcS3) (lay_c isC_1) rfl lc_X0_grassInAll ml_RX4_157 mi_X0_grassInAll mv_X0_grassInAll (by decide) (by decide) (Nat.le_of_ble_eq_true rfl) rfl ?_
    exact s_iret h (k := 22) rfl rfl
  rw [if_neg hx4] at h
  by_cases hx5 : a1 = 5
  · rw [if_pos hx5] at h
    refine p_tableIn (k := 1) (off := 90) 91 rfl (by rw [hx5]; decide) (by rw [hx5]; decide) (by rw [hx5]; decide) (by decide) ?_
    refine p_aload_n (k := 23) (i := 0) rfl rfl rfl ?_
    refine p_getr (k := 24) rfl lay_X4 rfl fl_RX4_29 ?_
    refine p_geti (k := 25) rfl lay_X3 rfl fl_RX4_222 ?_
    exact s_iret h (k := 26) rfl rfl
  rw [if_neg hx5] at h
  by_cases hx6 : a1 = 6
  · rw [if_pos hx6] at h
    refine p_tableIn (k := 1) (off := 98) 99 rfl (by rw [hx6]; decide) (by rw [hx6]; decide) (by rw [hx6]; decide) (by decide) ?_
    refine p_aload_n (k := 27) (i := 0) rfl rfl rfl ?_
    refine p_getr (k := 28) rfl lay_X4 rfl fl_RX4_12 ?_
    refine p_geti (k := 29) rfl (lay_c isC_1) rfl fl_RX4_219 ?_
    exact s_iret h (k := 30) rfl rfl
  rw [if_neg hx6] at h
  by_cases hx7 : a1 = 7
  · rw [if_pos hx7] at h
    refine p_tableIn (k := 1) (off := 106) 107 rfl (by rw [hx7]; decide) (by rw [hx7]; decide) (by rw [hx7]; decide) (by decide) ?_
    refine p_aload_n (k := 31) (i := 0) rfl rfl rfl ?_
    refine p_getr (k := 32) rfl lay_X4 rfl fl_RX4_12 ?_
    obtain ⟨v4, S4, hcS4, h⟩ := cl_some h
    refine p_callV (k := 33) [] [] rfl (tX0_spotsInUse isC_1 hcS4) (lay_c isC_1) rfl lc_X0_spotsInUse ml_RX4_275 mi_X0_spotsInUse mv_X0_spotsInUse (by decide) (by decide) (Nat.le_of_ble_eq_true rfl) rfl ?_
    exact s_iret h (k := 34) rfl rfl
  rw [if_neg hx7] at h
  have hz0 := toInt_ne hx0 (z := 0) (by decide)
  have hz1 := toInt_ne hx1 (z := 1) (by decide)
  have hz2 := toInt_ne hx2 (z := 2) (by decide)
  have hz3 := toInt_ne hx3 (z := 3) (by decide)
  have hz4 := toInt_ne hx4 (z := 4) (by decide)
  have hz5 := toInt_ne hx5 (z := 5) (by decide)
  have hz6 := toInt_ne hx6 (z := 6) (by decide)
  have hz7 := toInt_ne hx7 (z := 7) (by decide)
  refine p_tableOut (k := 1) 115 rfl (by omega) (by decide) ?_
  refine p_aload_n (k := 35) (i := 0) rfl rfl rfl ?_
  refine p_ldc (k := 36) rfl k_RX4_61 ?_
  obtain ⟨v5, S5, hcS5, h⟩ := cl_some h
  refine p_callV (k := 37) [.int (-1000001)] [] rfl (tX4_found hcS5) lay_X4 rfl lc_X4_found ml_RX4_62 mi_X4_found mv_X4_found (by decide) (by decide) (Nat.le_of_ble_eq_true rfl) rfl ?_
  exact s_iret h (k := 38) rfl rfl
theorem tX4_count {a1 : Int32} {S : St} {r : Int32} {S9 : St} (h : fX4_count a1 S = some (r, S9)) : MR yX4_count cX4_count mX4_count [.ref 0, .int a1] S (some (.int r), S9) := MR.of (n := 0) okX4_count rfl rfl (sX4_count h)
-- status(I)I
def fX4_status_L11 (S : St) : Option (Int32 × St) :=
  cl (fX4_found (-1000001) S) fun v1 S1 =>
  some (v1, S1)
theorem sX4_status_L11 {r : Int32} {S9 : St}  {S : St} (h : fX4_status_L11 S = some (r, S9)) : PW mX4_status (some (.int r), S9) 11 [some (.ref 0), none, none, none] [] S := by
  unfold fX4_status_L11 at h
  refine p_aload_n (k := 6) (i := 0) rfl rfl rfl ?_
  refine p_ldc (k := 7) rfl k_RX4_61 ?_
  obtain ⟨v1, S1, hcS1, h⟩ := cl_some h
  refine p_callV (k := 8) [.int (-1000001)] [] rfl (tX4_found hcS1) lay_X4 rfl lc_X4_found ml_RX4_62 mi_X4_found mv_X4_found (by decide) (by decide) (Nat.le_of_ble_eq_true rfl) rfl ?_
  exact s_iret h (k := 9) rfl rfl
def fX4_status_L33 : Nat → Int32 → Int32 → St → Option (Int32 × St)
  | 0 => fun _ _ _ => none
  | n + 1 => fun x2 x3 S =>
    if 7 ≤ x3 then
      some (x2, S)
    else
      rd S 40 7 x3 fun v1 =>
      bnd (x2 + v1) fun v2 =>
      bnd (x3 + 1) fun v3 =>
      fX4_status_L33 n v2 v3 S
theorem sX4_status_L33 {r : Int32} {S9 : St} : ∀ (n : Nat) (x2 : Int32) (x3 : Int32) (S : St), fX4_status_L33 n x2 x3 S = some (r, S9) → PW mX4_status (some (.int r), S9) 33 [some (.ref 0), none, some (.int x2), some (.int x3)] [] S := by
  intro n
  induction n with
  | zero => intro x2 x3 S h; cases h
  | succ n ih =>
    intro x2 x3 S h
    unfold fX4_status_L33 at h
    refine p_iload_n (k := 21) (i := 3) rfl rfl rfl ?_
    refine p_bipush (k := 22) 7 rfl (by decide) ?_
    refine p_icmp_ge (k := 23) 54 rfl (by decide) (fun hc => ?_) (fun hc => ?_)
    · rw [if_pos hc] at h
      refine p_iload_n (k := 33) (i := 2) rfl rfl rfl ?_
      exact s_iret h (k := 34) rfl rfl
    · rw [if_neg hc] at h
      refine p_iload_n (k := 24) (i := 2) rfl rfl rfl ?_
      refine p_aload_n (k := 25) (i := 0) rfl rfl rfl ?_
      refine p_getr (k := 26) rfl lay_X4 rfl fl_RX4_49 ?_
      refine p_iload_n (k := 27) (i := 3) rfl rfl rfl ?_
      refine s_rd h (k := 28) rfl lay_40 (fun v1 h => ?_)
      refine p_iadd (k := 29) rfl ?_
      refine s_bnd h (fun v2 h => ?_)
      refine p_istore_n (k := 30) 2 [some (.ref 0), none, some (.int v2), some (.int x3)] rfl rfl rfl (by decide) rfl ?_
      obtain ⟨v3, ev3, h⟩ := bnd_ex h
      refine p_iinc (k := 31) v3 [some (.ref 0), none, some (.int v2), some (.int v3)] rfl rfl (by rw [← ev3]; rfl) rfl (by decide) rfl ?_
      refine p_goto (k := 32) 33 rfl (by decide) ?_
      refine p_msk [true, false, true, true] (L2 := [some (.ref 0), none, some (.int v2), some (.int v3)]) rfl ?_
      exact ih _ _ _ h
def fX4_status (a1 : Int32) (S : St) : Option (Int32 × St) :=
  if a1 < (-1) then
    fX4_status_L11 S
  else
    if a1 < 7 then
      if a1 < 0 then
        fX4_status_L33 FU 0 0 S
      else
        rd S 40 7 a1 fun v1 =>
        some (v1, S)
    else
      fX4_status_L11 S
theorem sX4_status {a1 : Int32} {S : St} {r : Int32} {S9 : St} (h : fX4_status a1 S = some (r, S9)) : PW mX4_status (some (.int r), S9) 0 [some (.ref 0), some (.int a1), none, none] [] S := by
  unfold fX4_status at h
  refine p_iload_n (k := 0) (i := 1) rfl rfl rfl ?_
  refine p_iconst (k := 1) (-1) rfl (by decide) ?_
  refine p_icmp_lt (k := 2) 11 rfl (by decide) (fun hc => ?_) (fun hc => ?_)
  · rw [if_pos hc] at h
    refine p_msk [true, false, false, false] (L2 := [some (.ref 0), none, none, none]) rfl ?_
    exact sX4_status_L11 h
  · rw [if_neg hc] at h
    refine p_iload_n (k := 3) (i := 1) rfl rfl rfl ?_
    refine p_bipush (k := 4) 7 rfl (by decide) ?_
    refine p_icmp_lt (k := 5) 18 rfl (by decide) (fun hc => ?_) (fun hc => ?_)
    · rw [if_pos hc] at h
      refine p_iload_n (k := 10) (i := 1) rfl rfl rfl ?_
      refine p_if_lt (k := 11) 29 rfl (by decide) (fun hc => ?_) (fun hc => ?_)
      · rw [if_pos hc] at h
        refine p_iconst (k := 17) 0 rfl (by decide) ?_
        refine p_istore_n (k := 18) 2 [some (.ref 0), some (.int a1), some (.int 0), none] rfl rfl rfl (by decide) rfl ?_
        refine p_iconst (k := 19) 0 rfl (by decide) ?_
        refine p_istore_n (k := 20) 3 [some (.ref 0), some (.int a1), some (.int 0), some (.int 0)] rfl rfl rfl (by decide) rfl ?_
        refine p_msk [true, false, true, true] (L2 := [some (.ref 0), none, some (.int 0), some (.int 0)]) rfl ?_
        exact sX4_status_L33 _ _ _ _ h
      · rw [if_neg hc] at h
        refine p_aload_n (k := 12) (i := 0) rfl rfl rfl ?_
        refine p_getr (k := 13) rfl lay_X4 rfl fl_RX4_49 ?_
        refine p_iload_n (k := 14) (i := 1) rfl rfl rfl ?_
        refine s_rd h (k := 15) rfl lay_40 (fun v1 h => ?_)
        exact s_iret h (k := 16) rfl rfl
    · rw [if_neg hc] at h
      refine p_msk [true, false, false, false] (L2 := [some (.ref 0), none, none, none]) rfl ?_
      exact sX4_status_L11 h
theorem tX4_status {a1 : Int32} {S : St} {r : Int32} {S9 : St} (h : fX4_status a1 S = some (r, S9)) : MR yX4_status cX4_status mX4_status [.ref 0, .int a1] S (some (.int r), S9) := MR.of (n := 2) okX4_status rfl rfl (sX4_status h)
