-- bitCount(I)I
def fJ6_bitCount_0f7a4 (a1 : Int32) (S : St) : Option (Int32 × St) :=
  bnd (a1 - ((((a1 : Int32).toUInt32 >>> ((1 : Int32).toUInt32 &&& Int32.toUInt32 31)).toInt32) &&& 1431655765)) fun v1 =>
  bnd ((v1 &&& 858993459) + ((((v1 : Int32).toUInt32 >>> ((2 : Int32).toUInt32 &&& Int32.toUInt32 31)).toInt32) &&& 858993459)) fun v2 =>
  bnd ((v2 + (((v2 : Int32).toUInt32 >>> ((4 : Int32).toUInt32 &&& Int32.toUInt32 31)).toInt32)) &&& 252645135) fun v3 =>
  bnd (v3 + (((v3 : Int32).toUInt32 >>> ((8 : Int32).toUInt32 &&& Int32.toUInt32 31)).toInt32)) fun v4 =>
  bnd (v4 + (((v4 : Int32).toUInt32 >>> ((16 : Int32).toUInt32 &&& Int32.toUInt32 31)).toInt32)) fun v5 =>
  some (v5 &&& 63, S)
theorem sJ6_bitCount_0f7a4 {a1 : Int32} {S : St} {r : Int32} {S9 : St} (h : fJ6_bitCount_0f7a4 a1 S = some (r, S9)) : PW mJ6_bitCount_0f7a4 (some (.int r), S9) 0 [some (.int a1)] [] S := by
  unfold fJ6_bitCount_0f7a4 at h
  refine p_iload_n (k := 0) (i := 0) rfl rfl rfl ?_
  refine p_iload_n (k := 1) (i := 0) rfl rfl rfl ?_
  refine p_iconst (k := 2) 1 rfl (by decide) ?_
  refine p_iushr (k := 3) rfl ?_
  refine p_ldcw (k := 4) rfl k_RJ6_265 ?_
  refine p_iand (k := 5) rfl ?_
  refine p_isub (k := 6) rfl ?_
  refine s_bnd h (fun v1 h => ?_)
  refine p_istore_n (k := 7) 0 [some (.int v1)] rfl rfl rfl (by decide) rfl ?_
  refine p_iload_n (k := 8) (i := 0) rfl rfl rfl ?_
  refine p_ldcw (k := 9) rfl k_RJ6_266 ?_
  refine p_iand (k := 10) rfl ?_
  refine p_iload_n (k := 11) (i := 0) rfl rfl rfl ?_
  refine p_iconst (k := 12) 2 rfl (by decide) ?_
  refine p_iushr (k := 13) rfl ?_
  refine p_ldcw (k := 14) rfl k_RJ6_266 ?_
  refine p_iand (k := 15) rfl ?_
  refine p_iadd (k := 16) rfl ?_
  refine s_bnd h (fun v2 h => ?_)
  refine p_istore_n (k := 17) 0 [some (.int v2)] rfl rfl rfl (by decide) rfl ?_
  refine p_iload_n (k := 18) (i := 0) rfl rfl rfl ?_
  refine p_iload_n (k := 19) (i := 0) rfl rfl rfl ?_
  refine p_iconst (k := 20) 4 rfl (by decide) ?_
  refine p_iushr (k := 21) rfl ?_
  refine p_iadd (k := 22) rfl ?_
  refine p_ldcw (k := 23) rfl k_RJ6_267 ?_
  refine p_iand (k := 24) rfl ?_
  refine s_bnd h (fun v3 h => ?_)
  refine p_istore_n (k := 25) 0 [some (.int v3)] rfl rfl rfl (by decide) rfl ?_
  refine p_iload_n (k := 26) (i := 0) rfl rfl rfl ?_
  refine p_iload_n (k := 27) (i := 0) rfl rfl rfl ?_
  refine p_bipush (k := 28) 8 rfl (by decide) ?_
  refine p_iushr (k := 29) rfl ?_
  refine p_iadd (k := 30) rfl ?_
  refine s_bnd h (fun v4 h => ?_)
  refine p_istore_n (k := 31) 0 [some (.int v4)] rfl rfl rfl (by decide) rfl ?_
  refine p_iload_n (k := 32) (i := 0) rfl rfl rfl ?_
  refine p_iload_n (k := 33) (i := 0) rfl rfl rfl ?_
  refine p_bipush (k := 34) 16 rfl (by decide) ?_
  refine p_iushr (k := 35) rfl ?_
  refine p_iadd (k := 36) rfl ?_
  refine s_bnd h (fun v5 h => ?_)
  refine p_istore_n (k := 37) 0 [some (.int v5)] rfl rfl rfl (by decide) rfl ?_
  refine p_iload_n (k := 38) (i := 0) rfl rfl rfl ?_
  refine p_bipush (k := 39) 63 rfl (by decide) ?_
  refine p_iand (k := 40) rfl ?_
  exact s_iret h (k := 41) rfl rfl
theorem tJ6_bitCount_0f7a4 {a1 : Int32} {S : St} {r : Int32} {S9 : St} (h : fJ6_bitCount_0f7a4 a1 S = some (r, S9)) : MR yJ6_bitCount_0f7a4 cJ6_bitCount_0f7a4 mJ6_bitCount_0f7a4 [.int a1] S (some (.int r), S9) := MR.of (n := 0) okJ6_bitCount_0f7a4 rfl rfl (sJ6_bitCount_0f7a4 h)
-- hasBit(II)Z
def fX4_hasBit_L13 (y0 : Int32) (S : St) : Option (Int32 × St) :=
  retN .boolean y0 S
theorem sX4_hasBit_L13 {r : Int32} {S9 : St} {y0 : Int32} {S : St} (h : fX4_hasBit_L13 y0 S = some (r, S9)) : PW mX4_hasBit (some (.int r), S9) 13 [none, none] [.int y0] S := by
  unfold fX4_hasBit_L13 at h
  exact s_zret h (k := 9) rfl rfl
def fX4_hasBit (a1 : Int32) (a2 : Int32) (S : St) : Option (Int32 × St) :=
  if ((a1 >>> (a2 &&& 31)) &&& 1) = 0 then
    fX4_hasBit_L13 0 S
  else
    fX4_hasBit_L13 1 S
theorem sX4_hasBit {a1 : Int32} {a2 : Int32} {S : St} {r : Int32} {S9 : St} (h : fX4_hasBit a1 a2 S = some (r, S9)) : PW mX4_hasBit (some (.int r), S9) 0 [some (.int a1), some (.int a2)] [] S := by
  unfold fX4_hasBit at h
  refine p_iload_n (k := 0) (i := 0) rfl rfl rfl ?_
  refine p_iload_n (k := 1) (i := 1) rfl rfl rfl ?_
  refine p_ishr (k := 2) rfl ?_
  refine p_iconst (k := 3) 1 rfl (by decide) ?_
  refine p_iand (k := 4) rfl ?_
  refine p_if_eq (k := 5) 12 rfl (by decide) (fun hc => ?_) (fun hc => ?_)
  · rw [if_pos hc] at h
    refine p_iconst (k := 8) 0 rfl (by decide) ?_
    refine p_msk [false, false] (L2 := [none, none]) rfl ?_
    exact sX4_hasBit_L13 h
  · rw [if_neg hc] at h
    refine p_iconst (k := 6) 1 rfl (by decide) ?_
    refine p_goto (k := 7) 13 rfl (by decide) ?_
    refine p_msk [false, false] (L2 := [none, none]) rfl ?_
    exact sX4_hasBit_L13 h
theorem tX4_hasBit {a1 : Int32} {a2 : Int32} {S : St} {r : Int32} {S9 : St} (h : fX4_hasBit a1 a2 S = some (r, S9)) : MR yX4_hasBit cX4_hasBit mX4_hasBit [.int a1, .int a2] S (some (.int r), S9) := MR.of (n := 0) okX4_hasBit rfl rfl (sX4_hasBit h)
-- leastBit(I)I
def fX4_leastBit (a1 : Int32) (S : St) : Option (Int32 × St) :=
  some (a1 &&& (-a1), S)
theorem sX4_leastBit {a1 : Int32} {S : St} {r : Int32} {S9 : St} (h : fX4_leastBit a1 S = some (r, S9)) : PW mX4_leastBit (some (.int r), S9) 0 [some (.int a1)] [] S := by
  unfold fX4_leastBit at h
  refine p_iload_n (k := 0) (i := 0) rfl rfl rfl ?_
  refine p_iload_n (k := 1) (i := 0) rfl rfl rfl ?_
  refine p_ineg (k := 2) rfl ?_
  refine p_iand (k := 3) rfl ?_
  exact s_iret h (k := 4) rfl rfl
theorem tX4_leastBit {a1 : Int32} {S : St} {r : Int32} {S9 : St} (h : fX4_leastBit a1 S = some (r, S9)) : MR yX4_leastBit cX4_leastBit mX4_leastBit [.int a1] S (some (.int r), S9) := MR.of (n := 0) okX4_leastBit rfl rfl (sX4_leastBit h)
-- become(LGoatShelves$Cliff;)V
def fX0_become (b : Nat) (a1 : Nat) (S : St) : Option (Unit × St) :=
  ac S (a1 + 1) (b + 1) 12 12 0 0 12 fun S1 =>
  ac S1 (a1 + 2) (b + 2) 8 8 0 0 8 fun S2 =>
  ac S2 (a1 + 3) (b + 3) 8 8 0 0 8 fun S3 =>
  ac S3 (a1 + 4) (b + 4) 8 8 0 0 8 fun S4 =>
  ac S4 (a1 + 5) (b + 5) 8 8 0 0 8 fun S5 =>
  ac S5 (a1 + 6) (b + 6) 8 8 0 0 8 fun S6 =>
  ac S6 (a1 + 7) (b + 7) 8 8 0 0 8 fun S7 =>
  ac S7 (a1 + 8) (b + 8) 10 10 0 0 10 fun S8 =>
  bnd (up2 S8 b 8 (S8 a1 8)) fun S9 =>
  bnd (up2 S9 b 9 (S9 a1 9)) fun S10 =>
  bnd (up2 S10 b 10 (S10 a1 10)) fun S11 =>
  bnd (up2 S11 b 11 (S11 a1 11)) fun S12 =>
  bnd (up2 S12 b 12 (S12 a1 12)) fun S13 =>
  bnd (up2 S13 b 13 (S13 a1 13)) fun S14 =>
  some ((), S14)
theorem sX0_become {b : Nat} {a1 : Nat} (hb : isC b) (h1 : isC a1) {S : St} {r : Unit} {S9 : St} (h : fX0_become b a1 S = some (r, S9)) : PW mX0_become (none, S9) 0 [some (.ref b), some (.ref a1)] [] S := by
  unfold fX0_become at h
  refine p_aload_n (k := 0) (i := 1) rfl rfl rfl ?_
  refine p_getr (k := 1) rfl (lay_c h1) rfl fl_RX0_11 ?_
  refine p_iconst (k := 2) 0 rfl (by decide) ?_
  refine p_aload_n (k := 3) (i := 0) rfl rfl rfl ?_
  refine p_getr (k := 4) rfl (lay_c hb) rfl fl_RX0_11 ?_
  refine p_iconst (k := 5) 0 rfl (by decide) ?_
  refine p_bipush (k := 6) 12 rfl (by decide) ?_
  refine s_ac [] h (k := 7) rfl ml_RX0_46 cp_native cp_static cp_init (lay_c0 h1) (lay_c0 hb) (by decide) (Nat.le_of_ble_eq_true rfl) (fun S1 h => ?_)
  refine p_aload_n (k := 8) (i := 1) rfl rfl rfl ?_
  refine p_getr (k := 9) rfl (lay_c h1) rfl fl_RX0_15 ?_
  refine p_iconst (k := 10) 0 rfl (by decide) ?_
  refine p_aload_n (k := 11) (i := 0) rfl rfl rfl ?_
  refine p_getr (k := 12) rfl (lay_c hb) rfl fl_RX0_15 ?_
  refine p_iconst (k := 13) 0 rfl (by decide) ?_
  refine p_bipush (k := 14) 8 rfl (by decide) ?_
  refine s_ac [] h (k := 15) rfl ml_RX0_46 cp_native cp_static cp_init (lay_c1 h1) (lay_c1 hb) (by decide) (Nat.le_of_ble_eq_true rfl) (fun S2 h => ?_)
  refine p_aload_n (k := 16) (i := 1) rfl rfl rfl ?_
  refine p_getr (k := 17) rfl (lay_c h1) rfl fl_RX0_18 ?_
  refine p_iconst (k := 18) 0 rfl (by decide) ?_
  refine p_aload_n (k := 19) (i := 0) rfl rfl rfl ?_
  refine p_getr (k := 20) rfl (lay_c hb) rfl fl_RX0_18 ?_
  refine p_iconst (k := 21) 0 rfl (by decide) ?_
  refine p_bipush (k := 22) 8 rfl (by decide) ?_
  refine s_ac [] h (k := 23) rfl ml_RX0_46 cp_native cp_static cp_init (lay_c2 h1) (lay_c2 hb) (by decide) (Nat.le_of_ble_eq_true rfl) (fun S3 h => ?_)
  refine p_aload_n (k := 24) (i := 1) rfl rfl rfl ?_
  refine p_getr (k := 25) rfl (lay_c h1) rfl fl_RX0_21 ?_
  refine p_iconst (k := 26) 0 rfl (by decide) ?_
  refine p_aload_n (k := 27) (i := 0) rfl rfl rfl ?_
  refine p_getr (k := 28) rfl (lay_c hb) rfl fl_RX0_21 ?_
  refine p_iconst (k := 29) 0 rfl (by decide) ?_
  refine p_bipush (k := 30) 8 rfl (by decide) ?_
  refine s_ac [] h (k := 31) rfl ml_RX0_46 cp_native cp_static cp_init (lay_c3 h1) (lay_c3 hb) (by decide) (Nat.le_of_ble_eq_true rfl) (fun S4 h => ?_)
  refine p_aload_n (k := 32) (i := 1) rfl rfl rfl ?_
  refine p_getr (k := 33) rfl (lay_c h1) rfl fl_RX0_24 ?_
  refine p_iconst (k := 34) 0 rfl (by decide) ?_
  refine p_aload_n (k := 35) (i := 0) rfl rfl rfl ?_
  refine p_getr (k := 36) rfl (lay_c hb) rfl fl_RX0_24 ?_
  refine p_iconst (k := 37) 0 rfl (by decide) ?_
  refine p_bipush (k := 38) 8 rfl (by decide) ?_
  refine s_ac [] h (k := 39) rfl ml_RX0_46 cp_native cp_static cp_init (lay_c4 h1) (lay_c4 hb) (by decide) (Nat.le_of_ble_eq_true rfl) (fun S5 h => ?_)
  refine p_aload_n (k := 40) (i := 1) rfl rfl rfl ?_
  refine p_getr (k := 41) rfl (lay_c h1) rfl fl_RX0_27 ?_
  refine p_iconst (k := 42) 0 rfl (by decide) ?_
  refine p_aload_n (k := 43) (i := 0) rfl rfl rfl ?_
  refine p_getr (k := 44) rfl (lay_c hb) rfl fl_RX0_27 ?_
  refine p_iconst (k := 45) 0 rfl (by decide) ?_
  refine p_bipush (k := 46) 8 rfl (by decide) ?_
  refine s_ac [] h (k := 47) rfl ml_RX0_46 cp_native cp_static cp_init (lay_c5 h1) (lay_c5 hb) (by decide) (Nat.le_of_ble_eq_true rfl) (fun S6 h => ?_)
  refine p_aload_n (k := 48) (i := 1) rfl rfl rfl ?_
  refine p_getr (k := 49) rfl (lay_c h1) rfl fl_RX0_30 ?_
  refine p_iconst (k := 50) 0 rfl (by decide) ?_
  refine p_aload_n (k := 51) (i := 0) rfl rfl rfl ?_
  refine p_getr (k := 52) rfl (lay_c hb) rfl fl_RX0_30 ?_
  refine p_iconst (k := 53) 0 rfl (by decide) ?_
  refine p_bipush (k := 54) 8 rfl (by decide) ?_
  refine s_ac [] h (k := 55) rfl ml_RX0_46 cp_native cp_static cp_init (lay_c6 h1) (lay_c6 hb) (by decide) (Nat.le_of_ble_eq_true rfl) (fun S7 h => ?_)
  refine p_aload_n (k := 56) (i := 1) rfl rfl rfl ?_
  refine p_getr (k := 57) rfl (lay_c h1) rfl fl_RX0_33 ?_
  refine p_iconst (k := 58) 0 rfl (by decide) ?_
  refine p_aload_n (k := 59) (i := 0) rfl rfl rfl ?_
  refine p_getr (k := 60) rfl (lay_c hb) rfl fl_RX0_33 ?_
  refine p_iconst (k := 61) 0 rfl (by decide) ?_
  refine p_bipush (k := 62) 10 rfl (by decide) ?_
  refine s_ac [] h (k := 63) rfl ml_RX0_46 cp_native cp_static cp_init (lay_c7 h1) (lay_c7 hb) (by decide) (Nat.le_of_ble_eq_true rfl) (fun S8 h => ?_)
  refine p_aload_n (k := 64) (i := 0) rfl rfl rfl ?_
  refine p_aload_n (k := 65) (i := 1) rfl rfl rfl ?_
  refine p_geti (k := 66) rfl (lay_c h1) rfl fl_RX0_52 ?_
  refine s_put h (k := 67) rfl (lay_c hb) rfl fl_RX0_52 fp_0_8 rfl rfl (fun S9 h => ?_)
  refine p_aload_n (k := 68) (i := 0) rfl rfl rfl ?_
  refine p_aload_n (k := 69) (i := 1) rfl rfl rfl ?_
  refine p_geti (k := 70) rfl (lay_c h1) rfl fl_RX0_55 ?_
  refine s_put h (k := 71) rfl (lay_c hb) rfl fl_RX0_55 fp_0_9 rfl rfl (fun S10 h => ?_)
  refine p_aload_n (k := 72) (i := 0) rfl rfl rfl ?_
  refine p_aload_n (k := 73) (i := 1) rfl rfl rfl ?_
  refine p_geti (k := 74) rfl (lay_c h1) rfl fl_RX0_36 ?_
  refine s_put h (k := 75) rfl (lay_c hb) rfl fl_RX0_36 fp_0_10 rfl rfl (fun S11 h => ?_)
  refine p_aload_n (k := 76) (i := 0) rfl rfl rfl ?_
  refine p_aload_n (k := 77) (i := 1) rfl rfl rfl ?_
  refine p_geti (k := 78) rfl (lay_c h1) rfl fl_RX0_40 ?_
  refine s_put h (k := 79) rfl (lay_c hb) rfl fl_RX0_40 fp_0_11 rfl rfl (fun S12 h => ?_)
  refine p_aload_n (k := 80) (i := 0) rfl rfl rfl ?_
  refine p_aload_n (k := 81) (i := 1) rfl rfl rfl ?_
  refine p_geti (k := 82) rfl (lay_c h1) rfl fl_RX0_58 ?_
  refine s_put h (k := 83) rfl (lay_c hb) rfl fl_RX0_58 fp_0_12 rfl rfl (fun S13 h => ?_)
  refine p_aload_n (k := 84) (i := 0) rfl rfl rfl ?_
  refine p_aload_n (k := 85) (i := 1) rfl rfl rfl ?_
  refine p_geti (k := 86) rfl (lay_c h1) rfl fl_RX0_43 ?_
  refine s_put h (k := 87) rfl (lay_c hb) rfl fl_RX0_43 fp_0_13 rfl rfl (fun S14 h => ?_)
  exact s_vret h (k := 88) rfl rfl
theorem tX0_become {b : Nat} {a1 : Nat} (hb : isC b) (h1 : isC a1) {S : St} {r : Unit} {S9 : St} (h : fX0_become b a1 S = some (r, S9)) : MR yX0_become cX0_become mX0_become [.ref b, .ref a1] S (none, S9) := MR.of (n := 0) okX0_become rfl rfl (sX0_become hb h1 h)
-- isFull()Z
def fX0_isFull_L14 (b : Nat) (y0 : Int32) (S : St) : Option (Int32 × St) :=
  retN .boolean y0 S
theorem sX0_isFull_L14 {b : Nat} (hb : isC b) {r : Int32} {S9 : St} {y0 : Int32} {S : St} (h : fX0_isFull_L14 b y0 S = some (r, S9)) : PW mX0_isFull (some (.int r), S9) 14 [none] [.int y0] S := by
  unfold fX0_isFull_L14 at h
  exact s_zret h (k := 7) rfl rfl
def fX0_isFull (b : Nat) (S : St) : Option (Int32 × St) :=
  if (S b 8) < 8 then
    fX0_isFull_L14 b 0 S
  else
    fX0_isFull_L14 b 1 S
theorem sX0_isFull {b : Nat} (hb : isC b) {S : St} {r : Int32} {S9 : St} (h : fX0_isFull b S = some (r, S9)) : PW mX0_isFull (some (.int r), S9) 0 [some (.ref b)] [] S := by
  unfold fX0_isFull at h
  refine p_aload_n (k := 0) (i := 0) rfl rfl rfl ?_
  refine p_geti (k := 1) rfl (lay_c hb) rfl fl_RX0_52 ?_
  refine p_bipush (k := 2) 8 rfl (by decide) ?_
  refine p_icmp_lt (k := 3) 13 rfl (by decide) (fun hc => ?_) (fun hc => ?_)
  · rw [if_pos hc] at h
    refine p_iconst (k := 6) 0 rfl (by decide) ?_
    refine p_msk [false] (L2 := [none]) rfl ?_
    exact sX0_isFull_L14 hb h
  · rw [if_neg hc] at h
    refine p_iconst (k := 4) 1 rfl (by decide) ?_
    refine p_goto (k := 5) 14 rfl (by decide) ?_
    refine p_msk [false] (L2 := [none]) rfl ?_
    exact sX0_isFull_L14 hb h
theorem tX0_isFull {b : Nat} (hb : isC b) {S : St} {r : Int32} {S9 : St} (h : fX0_isFull b S = some (r, S9)) : MR yX0_isFull cX0_isFull mX0_isFull [.ref b] S (some (.int r), S9) := MR.of (n := 0) okX0_isFull rfl rfl (sX0_isFull hb h)
-- addGoat(II)I
def fX0_addGoat (b : Nat) (a1 : Int32) (a2 : Int32) (S : St) : Option (Int32 × St) :=
  bnd (S b 8) fun v1 =>
  wr S (b + 2) 8 v1 a1 fun S1 =>
  wr S1 (b + 3) 8 v1 a2 fun S2 =>
  wr S2 (b + 4) 8 v1 0 fun S3 =>
  wr S3 (b + 5) 8 v1 0 fun S4 =>
  wr S4 (b + 6) 8 v1 30 fun S5 =>
  wr S5 (b + 7) 8 v1 0 fun S6 =>
  bnd (up2 S6 b 8 ((S6 b 8) + 1)) fun S7 =>
  some (v1, S7)
theorem sX0_addGoat {b : Nat} {a1 : Int32} {a2 : Int32} (hb : isC b) {S : St} {r : Int32} {S9 : St} (h : fX0_addGoat b a1 a2 S = some (r, S9)) : PW mX0_addGoat (some (.int r), S9) 0 [some (.ref b), some (.int a1), some (.int a2), none] [] S := by
  unfold fX0_addGoat at h
  refine p_aload_n (k := 0) (i := 0) rfl rfl rfl ?_
  refine p_geti (k := 1) rfl (lay_c hb) rfl fl_RX0_52 ?_
  refine s_bnd h (fun v1 h => ?_)
  refine p_istore_n (k := 2) 3 [some (.ref b), some (.int a1), some (.int a2), some (.int v1)] rfl rfl rfl (by decide) rfl ?_
  refine p_aload_n (k := 3) (i := 0) rfl rfl rfl ?_
  refine p_getr (k := 4) rfl (lay_c hb) rfl fl_RX0_15 ?_
  refine p_iload_n (k := 5) (i := 3) rfl rfl rfl ?_
  refine p_iload_n (k := 6) (i := 1) rfl rfl rfl ?_
  refine s_wr h (k := 7) rfl (lay_c1 hb) (fun S1 h => ?_)
  refine p_aload_n (k := 8) (i := 0) rfl rfl rfl ?_
  refine p_getr (k := 9) rfl (lay_c hb) rfl fl_RX0_18 ?_
  refine p_iload_n (k := 10) (i := 3) rfl rfl rfl ?_
  refine p_iload_n (k := 11) (i := 2) rfl rfl rfl ?_
  refine s_wr h (k := 12) rfl (lay_c2 hb) (fun S2 h => ?_)
  refine p_aload_n (k := 13) (i := 0) rfl rfl rfl ?_
  refine p_getr (k := 14) rfl (lay_c hb) rfl fl_RX0_21 ?_
  refine p_iload_n (k := 15) (i := 3) rfl rfl rfl ?_
  refine p_iconst (k := 16) 0 rfl (by decide) ?_
  refine s_wr h (k := 17) rfl (lay_c3 hb) (fun S3 h => ?_)
  refine p_aload_n (k := 18) (i := 0) rfl rfl rfl ?_
  refine p_getr (k := 19) rfl (lay_c hb) rfl fl_RX0_24 ?_
  refine p_iload_n (k := 20) (i := 3) rfl rfl rfl ?_
  refine p_iconst (k := 21) 0 rfl (by decide) ?_
  refine s_wr h (k := 22) rfl (lay_c4 hb) (fun S4 h => ?_)
  refine p_aload_n (k := 23) (i := 0) rfl rfl rfl ?_
  refine p_getr (k := 24) rfl (lay_c hb) rfl fl_RX0_27 ?_
  refine p_iload_n (k := 25) (i := 3) rfl rfl rfl ?_
  refine p_bipush (k := 26) 30 rfl (by decide) ?_
  refine s_wr h (k := 27) rfl (lay_c5 hb) (fun S5 h => ?_)
  refine p_aload_n (k := 28) (i := 0) rfl rfl rfl ?_
  refine p_getr (k := 29) rfl (lay_c hb) rfl fl_RX0_30 ?_
  refine p_iload_n (k := 30) (i := 3) rfl rfl rfl ?_
  refine p_iconst (k := 31) 0 rfl (by decide) ?_
  refine s_wr h (k := 32) rfl (lay_c6 hb) (fun S6 h => ?_)
  refine p_aload_n (k := 33) (i := 0) rfl rfl rfl ?_
  refine p_dup (k := 34) rfl rfl ?_
  refine p_geti (k := 35) rfl (lay_c hb) rfl fl_RX0_52 ?_
  refine p_iconst (k := 36) 1 rfl (by decide) ?_
  refine p_iadd (k := 37) rfl ?_
  refine s_put h (k := 38) rfl (lay_c hb) rfl fl_RX0_52 fp_0_8 rfl rfl (fun S7 h => ?_)
  refine p_iload_n (k := 39) (i := 3) rfl rfl rfl ?_
  exact s_iret h (k := 40) rfl rfl
theorem tX0_addGoat {b : Nat} {a1 : Int32} {a2 : Int32} (hb : isC b) {S : St} {r : Int32} {S9 : St} (h : fX0_addGoat b a1 a2 S = some (r, S9)) : MR yX0_addGoat cX0_addGoat mX0_addGoat [.ref b, .int a1, .int a2] S (some (.int r), S9) := MR.of (n := 1) okX0_addGoat rfl rfl (sX0_addGoat hb h)
-- trait(II)I
def fX0_trait (b : Nat) (a1 : Int32) (a2 : Int32) (S : St) : Option (Int32 × St) :=
  if a2 = 0 then
    rd S (b + 2) 8 a1 fun v1 =>
    some (v1, S)
  else
  if a2 = 1 then
    rd S (b + 3) 8 a1 fun v2 =>
    some (v2, S)
  else
  if a2 = 2 then
    rd S (b + 4) 8 a1 fun v3 =>
    some (v3, S)
  else
  if a2 = 3 then
    rd S (b + 5) 8 a1 fun v4 =>
    some (v4, S)
  else
  if a2 = 4 then
    rd S (b + 6) 8 a1 fun v5 =>
    some (v5, S)
  else
  rd S (b + 7) 8 a1 fun v6 =>
  some (v6, S)
theorem sX0_trait {b : Nat} {a1 : Int32} {a2 : Int32} (hb : isC b) {S : St} {r : Int32} {S9 : St} (h : fX0_trait b a1 a2 S = some (r, S9)) : PW mX0_trait (some (.int r), S9) 0 [some (.ref b), some (.int a1), some (.int a2)] [] S := by
  unfold fX0_trait at h
  refine p_iload_n (k := 0) (i := 2) rfl rfl rfl ?_
  by_cases hx0 : a2 = 0
  · rw [if_pos hx0] at h
    refine p_tableIn (k := 1) (off := 35) 36 rfl (by rw [hx0]; decide) (by rw [hx0]; decide) (by rw [hx0]; decide) (by decide) ?_
    refine p_aload_n (k := 2) (i := 0) rfl rfl rfl ?_
    refine p_getr (k := 3) rfl (lay_c hb) rfl fl_RX0_15 ?_
    refine p_iload_n (k := 4) (i := 1) rfl rfl rfl ?_
    refine s_rd h (k := 5) rfl (lay_c1 hb) (fun v1 h => ?_)
    exact s_iret h (k := 6) rfl rfl
  rw [if_neg hx0] at h
  by_cases hx1 : a2 = 1
  · rw [if_pos hx1] at h
    refine p_tableIn (k := 1) (off := 42) 43 rfl (by rw [hx1]; decide) (by rw [hx1]; decide) (by rw [hx1]; decide) (by decide) ?_
    refine p_aload_n (k := 7) (i := 0) rfl rfl rfl ?_
    refine p_getr (k := 8) rfl (lay_c hb) rfl fl_RX0_18 ?_
    refine p_iload_n (k := 9) (i := 1) rfl rfl rfl ?_
    refine s_rd h (k := 10) rfl (lay_c2 hb) (fun v2 h => ?_)
    exact s_iret h (k := 11) rfl rfl
  rw [if_neg hx1] at h
  by_cases hx2 : a2 = 2
  · rw [if_pos hx2] at h
    refine p_tableIn (k := 1) (off := 49) 50 rfl (by rw [hx2]; decide) (by rw [hx2]; decide) (by rw [hx2]; decide) (by decide) ?_
    refine p_aload_n (k := 12) (i := 0) rfl rfl rfl ?_
    refine p_getr (k := 13) rfl (lay_c hb) rfl fl_RX0_21 ?_
    refine p_iload_n (k := 14) (i := 1) rfl rfl rfl ?_
    refine s_rd h (k := 15) rfl (lay_c3 hb) (fun v3 h => ?_)
    exact s_iret h (k := 16) rfl rfl
  rw [if_neg hx2] at h
  by_cases hx3 : a2 = 3
  · rw [if_pos hx3] at h
    refine p_tableIn (k := 1) (off := 56) 57 rfl (by rw [hx3]; decide) (by rw [hx3]; decide) (by rw [hx3]; decide) (by decide) ?_
    refine p_aload_n (k := 17) (i := 0) rfl rfl rfl ?_
    refine p_getr (k := 18) rfl (lay_c hb) rfl fl_RX0_24 ?_
    refine p_iload_n (k := 19) (i := 1) rfl rfl rfl ?_
    refine s_rd h (k := 20) rfl (lay_c4 hb) (fun v4 h => ?_)
    exact s_iret h (k := 21) rfl rfl
  rw [if_neg hx3] at h
  by_cases hx4 : a2 = 4
  · rw [if_pos hx4] at h
    refine p_tableIn (k := 1) (off := 63) 64 rfl (by rw [hx4]; decide) (by rw [hx4]; decide) (by rw [hx4]; decide) (by decide) ?_
    refine p_aload_n (k := 22) (i := 0) rfl rfl rfl ?_
    refine p_getr (k := 23) rfl (lay_c hb) rfl fl_RX0_27 ?_
    refine p_iload_n (k := 24) (i := 1) rfl rfl rfl ?_
    refine s_rd h (k := 25) rfl (lay_c5 hb) (fun v5 h => ?_)
    exact s_iret h (k := 26) rfl rfl
  rw [if_neg hx4] at h
  have hz0 := toInt_ne hx0 (z := 0) (by decide)
  have hz1 := toInt_ne hx1 (z := 1) (by decide)
  have hz2 := toInt_ne hx2 (z := 2) (by decide)
  have hz3 := toInt_ne hx3 (z := 3) (by decide)
  have hz4 := toInt_ne hx4 (z := 4) (by decide)
  refine p_tableOut (k := 1) 71 rfl (by omega) (by decide) ?_
  refine p_aload_n (k := 27) (i := 0) rfl rfl rfl ?_
  refine p_getr (k := 28) rfl (lay_c hb) rfl fl_RX0_30 ?_
  refine p_iload_n (k := 29) (i := 1) rfl rfl rfl ?_
  refine s_rd h (k := 30) rfl (lay_c6 hb) (fun v6 h => ?_)
  exact s_iret h (k := 31) rfl rfl
theorem tX0_trait {b : Nat} {a1 : Int32} {a2 : Int32} (hb : isC b) {S : St} {r : Int32} {S9 : St} (h : fX0_trait b a1 a2 S = some (r, S9)) : MR yX0_trait cX0_trait mX0_trait [.ref b, .int a1, .int a2] S (some (.int r), S9) := MR.of (n := 0) okX0_trait rfl rfl (sX0_trait hb h)
-- setTrait(III)V
def fX0_setTrait_L93 (b : Nat) (S : St) : Option (Unit × St) :=
  some ((), S)
theorem sX0_setTrait_L93 {b : Nat} (hb : isC b) {r : Unit} {S9 : St}  {S : St} (h : fX0_setTrait_L93 b S = some (r, S9)) : PW mX0_setTrait (none, S9) 93 [none, none, none, none] [] S := by
  unfold fX0_setTrait_L93 at h
  exact s_vret h (k := 37) rfl rfl
def fX0_setTrait (b : Nat) (a1 : Int32) (a2 : Int32) (a3 : Int32) (S : St) : Option (Unit × St) :=
  if a2 = 0 then
    wr S (b + 2) 8 a1 a3 fun S1 =>
    fX0_setTrait_L93 b S1
  else
  if a2 = 1 then
    wr S (b + 3) 8 a1 a3 fun S2 =>
    fX0_setTrait_L93 b S2
  else
  if a2 = 2 then
    wr S (b + 4) 8 a1 a3 fun S3 =>
    fX0_setTrait_L93 b S3
  else
  if a2 = 3 then
    wr S (b + 5) 8 a1 a3 fun S4 =>
    fX0_setTrait_L93 b S4
  else
  if a2 = 4 then
    wr S (b + 6) 8 a1 a3 fun S5 =>
    fX0_setTrait_L93 b S5
  else
  wr S (b + 7) 8 a1 a3 fun S6 =>
  fX0_setTrait_L93 b S6
theorem sX0_setTrait {b : Nat} {a1 : Int32} {a2 : Int32} {a3 : Int32} (hb : isC b) {S : St} {r : Unit} {S9 : St} (h : fX0_setTrait b a1 a2 a3 S = some (r, S9)) : PW mX0_setTrait (none, S9) 0 [some (.ref b), some (.int a1), some (.int a2), some (.int a3)] [] S := by
  unfold fX0_setTrait at h
  refine p_iload_n (k := 0) (i := 2) rfl rfl rfl ?_
  by_cases hx0 : a2 = 0
  · rw [if_pos hx0] at h
    refine p_tableIn (k := 1) (off := 35) 36 rfl (by rw [hx0]; decide) (by rw [hx0]; decide) (by rw [hx0]; decide) (by decide) ?_
    refine p_aload_n (k := 2) (i := 0) rfl rfl rfl ?_
    refine p_getr (k := 3) rfl (lay_c hb) rfl fl_RX0_15 ?_
    refine p_iload_n (k := 4) (i := 1) rfl rfl rfl ?_
    refine p_iload_n (k := 5) (i := 3) rfl rfl rfl ?_
    refine s_wr h (k := 6) rfl (lay_c1 hb) (fun S1 h => ?_)
    refine p_goto (k := 7) 93 rfl (by decide) ?_
    refine p_msk [false, false, false, false] (L2 := [none, none, none, none]) rfl ?_
    exact sX0_setTrait_L93 hb h
  rw [if_neg hx0] at h
  by_cases hx1 : a2 = 1
  · rw [if_pos hx1] at h
    refine p_tableIn (k := 1) (off := 45) 46 rfl (by rw [hx1]; decide) (by rw [hx1]; decide) (by rw [hx1]; decide) (by decide) ?_
    refine p_aload_n (k := 8) (i := 0) rfl rfl rfl ?_
    refine p_getr (k := 9) rfl (lay_c hb) rfl fl_RX0_18 ?_
    refine p_iload_n (k := 10) (i := 1) rfl rfl rfl ?_
    refine p_iload_n (k := 11) (i := 3) rfl rfl rfl ?_
    refine s_wr h (k := 12) rfl (lay_c2 hb) (fun S2 h => ?_)
    refine p_goto (k := 13) 93 rfl (by decide) ?_
    refine p_msk [false, false, false, false] (L2 := [none, none, none, none]) rfl ?_
    exact sX0_setTrait_L93 hb h
  rw [if_neg hx1] at h
  by_cases hx2 : a2 = 2
  · rw [if_pos hx2] at h
    refine p_tableIn (k := 1) (off := 55) 56 rfl (by rw [hx2]; decide) (by rw [hx2]; decide) (by rw [hx2]; decide) (by decide) ?_
    refine p_aload_n (k := 14) (i := 0) rfl rfl rfl ?_
    refine p_getr (k := 15) rfl (lay_c hb) rfl fl_RX0_21 ?_
    refine p_iload_n (k := 16) (i := 1) rfl rfl rfl ?_
    refine p_iload_n (k := 17) (i := 3) rfl rfl rfl ?_
    refine s_wr h (k := 18) rfl (lay_c3 hb) (fun S3 h => ?_)
    refine p_goto (k := 19) 93 rfl (by decide) ?_
    refine p_msk [false, false, false, false] (L2 := [none, none, none, none]) rfl ?_
    exact sX0_setTrait_L93 hb h
  rw [if_neg hx2] at h
  by_cases hx3 : a2 = 3
  · rw [if_pos hx3] at h
    refine p_tableIn (k := 1) (off := 65) 66 rfl (by rw [hx3]; decide) (by rw [hx3]; decide) (by rw [hx3]; decide) (by decide) ?_
    refine p_aload_n (k := 20) (i := 0) rfl rfl rfl ?_
    refine p_getr (k := 21) rfl (lay_c hb) rfl fl_RX0_24 ?_
    refine p_iload_n (k := 22) (i := 1) rfl rfl rfl ?_
    refine p_iload_n (k := 23) (i := 3) rfl rfl rfl ?_
    refine s_wr h (k := 24) rfl (lay_c4 hb) (fun S4 h => ?_)
    refine p_goto (k := 25) 93 rfl (by decide) ?_
    refine p_msk [false, false, false, false] (L2 := [none, none, none, none]) rfl ?_
    exact sX0_setTrait_L93 hb h
  rw [if_neg hx3] at h
  by_cases hx4 : a2 = 4
  · rw [if_pos hx4] at h
    refine p_tableIn (k := 1) (off := 75) 76 rfl (by rw [hx4]; decide) (by rw [hx4]; decide) (by rw [hx4]; decide) (by decide) ?_
    refine p_aload_n (k := 26) (i := 0) rfl rfl rfl ?_
    refine p_getr (k := 27) rfl (lay_c hb) rfl fl_RX0_27 ?_
    refine p_iload_n (k := 28) (i := 1) rfl rfl rfl ?_
    refine p_iload_n (k := 29) (i := 3) rfl rfl rfl ?_
    refine s_wr h (k := 30) rfl (lay_c5 hb) (fun S5 h => ?_)
    refine p_goto (k := 31) 93 rfl (by decide) ?_
    refine p_msk [false, false, false, false] (L2 := [none, none, none, none]) rfl ?_
    exact sX0_setTrait_L93 hb h
  rw [if_neg hx4] at h
  have hz0 := toInt_ne hx0 (z := 0) (by decide)
  have hz1 := toInt_ne hx1 (z := 1) (by decide)
  have hz2 := toInt_ne hx2 (z := 2) (by decide)
  have hz3 := toInt_ne hx3 (z := 3) (by decide)
  have hz4 := toInt_ne hx4 (z := 4) (by decide)
  refine p_tableOut (k := 1) 86 rfl (by omega) (by decide) ?_
  refine p_aload_n (k := 32) (i := 0) rfl rfl rfl ?_
  refine p_getr (k := 33) rfl (lay_c hb) rfl fl_RX0_30 ?_
  refine p_iload_n (k := 34) (i := 1) rfl rfl rfl ?_
  refine p_iload_n (k := 35) (i := 3) rfl rfl rfl ?_
  refine s_wr h (k := 36) rfl (lay_c6 hb) (fun S6 h => ?_)
  refine p_msk [false, false, false, false] (L2 := [none, none, none, none]) rfl ?_
  exact sX0_setTrait_L93 hb h
theorem tX0_setTrait {b : Nat} {a1 : Int32} {a2 : Int32} {a3 : Int32} (hb : isC b) {S : St} {r : Unit} {S9 : St} (h : fX0_setTrait b a1 a2 a3 S = some (r, S9)) : MR yX0_setTrait cX0_setTrait mX0_setTrait [.ref b, .int a1, .int a2, .int a3] S (none, S9) := MR.of (n := 0) okX0_setTrait rfl rfl (sX0_setTrait hb h)
-- kindAbove(I)I
def fX0_kindAbove_L38 (S : St) : Option (Int32 × St) :=
  some (0, S)
theorem sX0_kindAbove_L38 {r : Int32} {S9 : St}  {S : St} (h : fX0_kindAbove_L38 S = some (r, S9)) : PW mX0_kindAbove (some (.int r), S9) 38 [none] [] S := by
  unfold fX0_kindAbove_L38 at h
  refine p_iconst (k := 8) 0 rfl (by decide) ?_
  exact s_iret h (k := 9) rfl rfl
def fX0_kindAbove (a1 : Int32) (S : St) : Option (Int32 × St) :=
  if a1 = 3 then
    some (2, S)
  else
  if a1 = 4 then
    some (3, S)
  else
  if a1 = 5 then
    fX0_kindAbove_L38 S
  else
  if a1 = 6 then
    some (1, S)
  else
  fX0_kindAbove_L38 S
theorem sX0_kindAbove {a1 : Int32} {S : St} {r : Int32} {S9 : St} (h : fX0_kindAbove a1 S = some (r, S9)) : PW mX0_kindAbove (some (.int r), S9) 0 [some (.int a1)] [] S := by
  unfold fX0_kindAbove at h
  refine p_iload_n (k := 0) (i := 0) rfl rfl rfl ?_
  by_cases hx0 : a1 = 3
  · rw [if_pos hx0] at h
    refine p_tableIn (k := 1) (off := 31) 32 rfl (by rw [hx0]; decide) (by rw [hx0]; decide) (by rw [hx0]; decide) (by decide) ?_
    refine p_iconst (k := 2) 2 rfl (by decide) ?_
    exact s_iret h (k := 3) rfl rfl
  rw [if_neg hx0] at h
  by_cases hx1 : a1 = 4
  · rw [if_pos hx1] at h
    refine p_tableIn (k := 1) (off := 33) 34 rfl (by rw [hx1]; decide) (by rw [hx1]; decide) (by rw [hx1]; decide) (by decide) ?_
    refine p_iconst (k := 4) 3 rfl (by decide) ?_
    exact s_iret h (k := 5) rfl rfl
  rw [if_neg hx1] at h
  by_cases hx2 : a1 = 5
  · rw [if_pos hx2] at h
    refine p_tableIn (k := 1) (off := 37) 38 rfl (by rw [hx2]; decide) (by rw [hx2]; decide) (by rw [hx2]; decide) (by decide) ?_
    refine p_msk [false] (L2 := [none]) rfl ?_
    exact sX0_kindAbove_L38 h
  rw [if_neg hx2] at h
  by_cases hx3 : a1 = 6
  · rw [if_pos hx3] at h
    refine p_tableIn (k := 1) (off := 35) 36 rfl (by rw [hx3]; decide) (by rw [hx3]; decide) (by rw [hx3]; decide) (by decide) ?_
    refine p_iconst (k := 6) 1 rfl (by decide) ?_
    exact s_iret h (k := 7) rfl rfl
  rw [if_neg hx3] at h
  have hz0 := toInt_ne hx0 (z := 3) (by decide)
  have hz1 := toInt_ne hx1 (z := 4) (by decide)
  have hz2 := toInt_ne hx2 (z := 5) (by decide)
  have hz3 := toInt_ne hx3 (z := 6) (by decide)
  refine p_tableOut (k := 1) 38 rfl (by omega) (by decide) ?_
  refine p_msk [false] (L2 := [none]) rfl ?_
  exact sX0_kindAbove_L38 h
theorem tX0_kindAbove {a1 : Int32} {S : St} {r : Int32} {S9 : St} (h : fX0_kindAbove a1 S = some (r, S9)) : MR yX0_kindAbove cX0_kindAbove mX0_kindAbove [.int a1] S (some (.int r), S9) := MR.of (n := 0) okX0_kindAbove rfl rfl (sX0_kindAbove h)
-- isOfKind(II)Z
def fX0_isOfKind_L40 (y0 : Int32) (S : St) : Option (Int32 × St) :=
  retN .boolean y0 S
theorem sX0_isOfKind_L40 {r : Int32} {S9 : St} {y0 : Int32} {S : St} (h : fX0_isOfKind_L40 y0 S = some (r, S9)) : PW mX0_isOfKind (some (.int r), S9) 40 [none, none, none, none] [.int y0] S := by
  unfold fX0_isOfKind_L40 at h
  exact s_zret h (k := 23) rfl rfl
def fX0_isOfKind_L30 (x1 : Int32) (x2 : Int32) (S : St) : Option (Int32 × St) :=
  if x2 = x1 then
    fX0_isOfKind_L40 1 S
  else
    fX0_isOfKind_L40 0 S
theorem sX0_isOfKind_L30 {r : Int32} {S9 : St} {x1 : Int32} {x2 : Int32} {S : St} (h : fX0_isOfKind_L30 x1 x2 S = some (r, S9)) : PW mX0_isOfKind (some (.int r), S9) 30 [none, some (.int x1), some (.int x2), none] [] S := by
  unfold fX0_isOfKind_L30 at h
  refine p_iload_n (k := 17) (i := 2) rfl rfl rfl ?_
  refine p_iload_n (k := 18) (i := 1) rfl rfl rfl ?_
  refine p_icmp_ne (k := 19) 39 rfl (by decide) (fun hc => ?_) (fun hc => ?_)
  · rw [if_neg hc] at h
    refine p_iconst (k := 22) 0 rfl (by decide) ?_
    refine p_msk [false, false, false, false] (L2 := [none, none, none, none]) rfl ?_
    exact sX0_isOfKind_L40 h
  · rw [if_pos hc] at h
    refine p_iconst (k := 20) 1 rfl (by decide) ?_
    refine p_goto (k := 21) 40 rfl (by decide) ?_
    refine p_msk [false, false, false, false] (L2 := [none, none, none, none]) rfl ?_
    exact sX0_isOfKind_L40 h
def fX0_isOfKind_L4 : Nat → Int32 → Int32 → Int32 → St → Option (Int32 × St)
  | 0 => fun _ _ _ _ => none
  | n + 1 => fun x1 x2 x3 S =>
    if 7 ≤ x3 then
      fX0_isOfKind_L30 x1 x2 S
    else
      if x2 = x1 then
        fX0_isOfKind_L30 x1 x2 S
      else
        if x2 = 0 then
          fX0_isOfKind_L30 x1 x2 S
        else
          cl (fX0_kindAbove x2 S) fun v1 S1 =>
          bnd (x3 + 1) fun v2 =>
          fX0_isOfKind_L4 n x1 v1 v2 S1
theorem sX0_isOfKind_L4 {r : Int32} {S9 : St} : ∀ (n : Nat) (x1 : Int32) (x2 : Int32) (x3 : Int32) (S : St), fX0_isOfKind_L4 n x1 x2 x3 S = some (r, S9) → PW mX0_isOfKind (some (.int r), S9) 4 [none, some (.int x1), some (.int x2), some (.int x3)] [] S := by
  intro n
  induction n with
  | zero => intro x1 x2 x3 S h; cases h
  | succ n ih =>
    intro x1 x2 x3 S h
    unfold fX0_isOfKind_L4 at h
    refine p_iload_n (k := 4) (i := 3) rfl rfl rfl ?_
    refine p_bipush (k := 5) 7 rfl (by decide) ?_
    refine p_icmp_ge (k := 6) 30 rfl (by decide) (fun hc => ?_) (fun hc => ?_)
    · rw [if_pos hc] at h
      refine p_msk [false, true, true, false] (L2 := [none, some (.int x1), some (.int x2), none]) rfl ?_
      exact sX0_isOfKind_L30 h
    · rw [if_neg hc] at h
      refine p_iload_n (k := 7) (i := 2) rfl rfl rfl ?_
      refine p_iload_n (k := 8) (i := 1) rfl rfl rfl ?_
      refine p_icmp_eq (k := 9) 30 rfl (by decide) (fun hc => ?_) (fun hc => ?_)
      · rw [if_pos hc] at h
        refine p_msk [false, true, true, false] (L2 := [none, some (.int x1), some (.int x2), none]) rfl ?_
        exact sX0_isOfKind_L30 h
      · rw [if_neg hc] at h
        refine p_iload_n (k := 10) (i := 2) rfl rfl rfl ?_
        refine p_if_eq (k := 11) 30 rfl (by decide) (fun hc => ?_) (fun hc => ?_)
        · rw [if_pos hc] at h
          refine p_msk [false, true, true, false] (L2 := [none, some (.int x1), some (.int x2), none]) rfl ?_
          exact sX0_isOfKind_L30 h
        · rw [if_neg hc] at h
          refine p_iload_n (k := 12) (i := 2) rfl rfl rfl ?_
          obtain ⟨v1, S1, hcS1, h⟩ := cl_some h
          refine p_callS (k := 13) [.int x2] [] rfl (tX0_kindAbove hcS1) lc_X0_kindAbove ml_RX0_61 ms_X0_kindAbove (by decide) (by decide) (Nat.le_of_ble_eq_true rfl) rfl ?_
          refine p_istore_n (k := 14) 2 [none, some (.int x1), some (.int v1), some (.int x3)] rfl rfl rfl (by decide) rfl ?_
          obtain ⟨v2, ev2, h⟩ := bnd_ex h
          refine p_iinc (k := 15) v2 [none, some (.int x1), some (.int v1), some (.int v2)] rfl rfl (by rw [← ev2]; rfl) rfl (by decide) rfl ?_
          refine p_goto (k := 16) 4 rfl (by decide) ?_
          refine p_msk [false, true, true, true] (L2 := [none, some (.int x1), some (.int v1), some (.int v2)]) rfl ?_
          exact ih _ _ _ _ h
def fX0_isOfKind (a1 : Int32) (a2 : Int32) (S : St) : Option (Int32 × St) :=
  fX0_isOfKind_L4 FU a2 a1 0 S
theorem sX0_isOfKind {a1 : Int32} {a2 : Int32} {S : St} {r : Int32} {S9 : St} (h : fX0_isOfKind a1 a2 S = some (r, S9)) : PW mX0_isOfKind (some (.int r), S9) 0 [some (.int a1), some (.int a2), none, none] [] S := by
  unfold fX0_isOfKind at h
  refine p_iload_n (k := 0) (i := 0) rfl rfl rfl ?_
  refine p_istore_n (k := 1) 2 [some (.int a1), some (.int a2), some (.int a1), none] rfl rfl rfl (by decide) rfl ?_
  refine p_iconst (k := 2) 0 rfl (by decide) ?_
  refine p_istore_n (k := 3) 3 [some (.int a1), some (.int a2), some (.int a1), some (.int 0)] rfl rfl rfl (by decide) rfl ?_
  refine p_msk [false, true, true, true] (L2 := [none, some (.int a2), some (.int a1), some (.int 0)]) rfl ?_
  exact sX0_isOfKind_L4 _ _ _ _ _ h
theorem tX0_isOfKind {a1 : Int32} {a2 : Int32} {S : St} {r : Int32} {S9 : St} (h : fX0_isOfKind a1 a2 S = some (r, S9)) : MR yX0_isOfKind cX0_isOfKind mX0_isOfKind [.int a1, .int a2] S (some (.int r), S9) := MR.of (n := 2) okX0_isOfKind rfl rfl (sX0_isOfKind h)
-- skippedAt(I)I
def fX0_skippedAt_L24 (k4 : Int32 → Int32 → Int32 → St → Option (Int32 × St)) (x0 : Int32) (x1 : Int32) (x2 : Int32) (S : St) : Option (Int32 × St) :=
  bnd (x2 + 1) fun v1 =>
  k4 x0 x1 v1 S
theorem sX0_skippedAt_L24 {r : Int32} {S9 : St} {k4 : Int32 → Int32 → Int32 → St → Option (Int32 × St)} (hk4 : ∀ x0 x1 x2 S, k4 x0 x1 x2 S = some (r, S9) → PW mX0_skippedAt (some (.int r), S9) 4 [some (.int x0), some (.int x1), some (.int x2)] [] S) {x0 : Int32} {x1 : Int32} {x2 : Int32} {S : St} (h : fX0_skippedAt_L24 k4 x0 x1 x2 S = some (r, S9)) : PW mX0_skippedAt (some (.int r), S9) 24 [some (.int x0), some (.int x1), some (.int x2)] [] S := by
  unfold fX0_skippedAt_L24 at h
  obtain ⟨v1, ev1, h⟩ := bnd_ex h
  refine p_iinc (k := 19) v1 [some (.int x0), some (.int x1), some (.int v1)] rfl rfl (by rw [← ev1]; rfl) rfl (by decide) rfl ?_
  refine p_goto (k := 20) 4 rfl (by decide) ?_
  refine p_msk [true, true, true] (L2 := [some (.int x0), some (.int x1), some (.int v1)]) rfl ?_
  exact hk4 _ _ _ _ h
def fX0_skippedAt_L4 : Nat → Int32 → Int32 → Int32 → St → Option (Int32 × St)
  | 0 => fun _ _ _ _ => none
  | n + 1 => fun x0 x1 x2 S =>
    if 16 ≤ x2 then
      some (x1, S)
    else
      if ((x2 + x0) - (x2 + x0) / 3 * 3) = 0 then
        bnd (x1 ||| (1 <<< (x2 &&& 31))) fun v1 =>
        fX0_skippedAt_L24 (fun x0 x1 x2 S => fX0_skippedAt_L4 n x0 x1 x2 S) x0 v1 x2 S
      else
        fX0_skippedAt_L24 (fun x0 x1 x2 S => fX0_skippedAt_L4 n x0 x1 x2 S) x0 x1 x2 S
theorem sX0_skippedAt_L4 {r : Int32} {S9 : St} : ∀ (n : Nat) (x0 : Int32) (x1 : Int32) (x2 : Int32) (S : St), fX0_skippedAt_L4 n x0 x1 x2 S = some (r, S9) → PW mX0_skippedAt (some (.int r), S9) 4 [some (.int x0), some (.int x1), some (.int x2)] [] S := by
  intro n
  induction n with
  | zero => intro x0 x1 x2 S h; cases h
  | succ n ih =>
    intro x0 x1 x2 S h
    unfold fX0_skippedAt_L4 at h
    refine p_iload_n (k := 4) (i := 2) rfl rfl rfl ?_
    refine p_bipush (k := 5) 16 rfl (by decide) ?_
    refine p_icmp_ge (k := 6) 30 rfl (by decide) (fun hc => ?_) (fun hc => ?_)
    · rw [if_pos hc] at h
      refine p_iload_n (k := 21) (i := 1) rfl rfl rfl ?_
      exact s_iret h (k := 22) rfl rfl
    · rw [if_neg hc] at h
      refine p_iload_n (k := 7) (i := 2) rfl rfl rfl ?_
      refine p_iload_n (k := 8) (i := 0) rfl rfl rfl ?_
      refine p_iadd (k := 9) rfl ?_
      refine p_iconst (k := 10) 3 rfl (by decide) ?_
      refine p_irem (k := 11) rfl (by decide) ?_
      refine p_if_ne (k := 12) 24 rfl (by decide) (fun hc => ?_) (fun hc => ?_)
      · rw [if_neg hc] at h
        refine p_msk [true, true, true] (L2 := [some (.int x0), some (.int x1), some (.int x2)]) rfl ?_
        exact sX0_skippedAt_L24 ih h
      · rw [if_pos hc] at h
        refine p_iload_n (k := 13) (i := 1) rfl rfl rfl ?_
        refine p_iconst (k := 14) 1 rfl (by decide) ?_
        refine p_iload_n (k := 15) (i := 2) rfl rfl rfl ?_
        refine p_ishl (k := 16) rfl ?_
        refine p_ior (k := 17) rfl ?_
        refine s_bnd h (fun v1 h => ?_)
        refine p_istore_n (k := 18) 1 [some (.int x0), some (.int v1), some (.int x2)] rfl rfl rfl (by decide) rfl ?_
        refine p_msk [true, true, true] (L2 := [some (.int x0), some (.int v1), some (.int x2)]) rfl ?_
        exact sX0_skippedAt_L24 ih h
def fX0_skippedAt (a1 : Int32) (S : St) : Option (Int32 × St) :=
  fX0_skippedAt_L4 FU a1 0 0 S
theorem sX0_skippedAt {a1 : Int32} {S : St} {r : Int32} {S9 : St} (h : fX0_skippedAt a1 S = some (r, S9)) : PW mX0_skippedAt (some (.int r), S9) 0 [some (.int a1), none, none] [] S := by
  unfold fX0_skippedAt at h
  refine p_iconst (k := 0) 0 rfl (by decide) ?_
  refine p_istore_n (k := 1) 1 [some (.int a1), some (.int 0), none] rfl rfl rfl (by decide) rfl ?_
  refine p_iconst (k := 2) 0 rfl (by decide) ?_
  refine p_istore_n (k := 3) 2 [some (.int a1), some (.int 0), some (.int 0)] rfl rfl rfl (by decide) rfl ?_
  refine p_msk [true, true, true] (L2 := [some (.int a1), some (.int 0), some (.int 0)]) rfl ?_
  exact sX0_skippedAt_L4 _ _ _ _ _ h
theorem tX0_skippedAt {a1 : Int32} {S : St} {r : Int32} {S9 : St} (h : fX0_skippedAt a1 S = some (r, S9)) : MR yX0_skippedAt cX0_skippedAt mX0_skippedAt [.int a1] S (some (.int r), S9) := MR.of (n := 2) okX0_skippedAt rfl rfl (sX0_skippedAt h)
-- quotes(I)I
def fX0_quotes_L65 (b : Nat) (y0 : Int32) (S : St) : Option (Int32 × St) :=
  some (y0, S)
theorem sX0_quotes_L65 {b : Nat} (hb : isC b) {r : Int32} {S9 : St} {y0 : Int32} {S : St} (h : fX0_quotes_L65 b y0 S = some (r, S9)) : PW mX0_quotes (some (.int r), S9) 65 [none, none] [.int y0] S := by
  unfold fX0_quotes_L65 at h
  exact s_iret h (k := 17) rfl rfl
def fX0_quotes_L91 (b : Nat) (y0 : Int32) (S : St) : Option (Int32 × St) :=
  some (y0, S)
theorem sX0_quotes_L91 {b : Nat} (hb : isC b) {r : Int32} {S9 : St} {y0 : Int32} {S : St} (h : fX0_quotes_L91 b y0 S = some (r, S9)) : PW mX0_quotes (some (.int r), S9) 91 [none, none] [.int y0] S := by
  unfold fX0_quotes_L91 at h
  exact s_iret h (k := 32) rfl rfl
def fX0_quotes_L113 (b : Nat) (y0 : Int32) (S : St) : Option (Int32 × St) :=
  some (y0, S)
theorem sX0_quotes_L113 {b : Nat} (hb : isC b) {r : Int32} {S9 : St} {y0 : Int32} {S : St} (h : fX0_quotes_L113 b y0 S = some (r, S9)) : PW mX0_quotes (some (.int r), S9) 113 [none, none] [.int y0] S := by
  unfold fX0_quotes_L113 at h
  exact s_iret h (k := 46) rfl rfl
def fX0_quotes_L154 (b : Nat) (y0 : Int32) (S : St) : Option (Int32 × St) :=
  some (y0, S)
theorem sX0_quotes_L154 {b : Nat} (hb : isC b) {r : Int32} {S9 : St} {y0 : Int32} {S : St} (h : fX0_quotes_L154 b y0 S = some (r, S9)) : PW mX0_quotes (some (.int r), S9) 154 [none, none] [.int y0] S := by
  unfold fX0_quotes_L154 at h
  exact s_iret h (k := 72) rfl rfl
def fX0_quotes_L155 (b : Nat) (x1 : Int32) (S : St) : Option (Int32 × St) :=
  rd S (b + 4) 8 x1 fun v1 =>
  some (v1, S)
theorem sX0_quotes_L155 {b : Nat} (hb : isC b) {r : Int32} {S9 : St} {x1 : Int32} {S : St} (h : fX0_quotes_L155 b x1 S = some (r, S9)) : PW mX0_quotes (some (.int r), S9) 155 [some (.ref b), some (.int x1)] [] S := by
  unfold fX0_quotes_L155 at h
  refine p_aload_n (k := 73) (i := 0) rfl rfl rfl ?_
  refine p_getr (k := 74) rfl (lay_c hb) rfl fl_RX0_21 ?_
  refine p_iload_n (k := 75) (i := 1) rfl rfl rfl ?_
  refine s_rd h (k := 76) rfl (lay_c3 hb) (fun v1 h => ?_)
  exact s_iret h (k := 77) rfl rfl
def fX0_quotes (b : Nat) (a1 : Int32) (S : St) : Option (Int32 × St) :=
  rd S (b + 2) 8 a1 fun v1 =>
  if v1 = 1 then
    rd S (b + 6) 8 a1 fun v2 =>
    if v2 < 10 then
      fX0_quotes_L65 b 0 S
    else
      rd S (b + 4) 8 a1 fun v3 =>
      fX0_quotes_L65 b v3 S
  else
  if v1 = 2 then
    rd S (b + 3) 8 a1 fun v4 =>
    if (v4 - v4 / 2 * 2) = 0 then
      rd S (b + 4) 8 a1 fun v5 =>
      fX0_quotes_L113 b v5 S
    else
      fX0_quotes_L113 b 0 S
  else
  if v1 = 3 then
    fX0_quotes_L155 b a1 S
  else
  if v1 = 4 then
    rd S (b + 4) 8 a1 fun v6 =>
    rd S (b + 5) 8 a1 fun v7 =>
    cl (fX0_skippedAt v7 S) fun v8 S1 =>
    some (v6 &&& (v8 ^^^ (-1)), S1)
  else
  if v1 = 5 then
    rd S (b + 3) 8 a1 fun v9 =>
    if v9 = 11 then
      rd S (b + 4) 8 a1 fun v10 =>
      fX0_quotes_L154 b v10 S
    else
      fX0_quotes_L154 b 0 S
  else
  if v1 = 6 then
    rd S (b + 6) 8 a1 fun v11 =>
    if v11 < 10 then
      fX0_quotes_L91 b 0 S
    else
      rd S (b + 4) 8 a1 fun v12 =>
      fX0_quotes_L91 b (v12 &&& 255) S
  else
  fX0_quotes_L155 b a1 S
theorem sX0_quotes {b : Nat} {a1 : Int32} (hb : isC b) {S : St} {r : Int32} {S9 : St} (h : fX0_quotes b a1 S = some (r, S9)) : PW mX0_quotes (some (.int r), S9) 0 [some (.ref b), some (.int a1)] [] S := by
  unfold fX0_quotes at h
  refine p_aload_n (k := 0) (i := 0) rfl rfl rfl ?_
  refine p_getr (k := 1) rfl (lay_c hb) rfl fl_RX0_15 ?_
  refine p_iload_n (k := 2) (i := 1) rfl rfl rfl ?_
  refine s_rd h (k := 3) rfl (lay_c1 hb) (fun v1 h => ?_)
  by_cases hx0 : v1 = 1
  · rw [if_pos hx0] at h
    refine p_tableIn (k := 4) (off := 38) 44 rfl (by rw [hx0]; decide) (by rw [hx0]; decide) (by rw [hx0]; decide) (by decide) ?_
    refine p_aload_n (k := 5) (i := 0) rfl rfl rfl ?_
    refine p_getr (k := 6) rfl (lay_c hb) rfl fl_RX0_27 ?_
    refine p_iload_n (k := 7) (i := 1) rfl rfl rfl ?_
    refine s_rd h (k := 8) rfl (lay_c5 hb) (fun v2 h => ?_)
    refine p_bipush (k := 9) 10 rfl (by decide) ?_
    refine p_icmp_lt (k := 10) 64 rfl (by decide) (fun hc => ?_) (fun hc => ?_)
    · rw [if_pos hc] at h
      refine p_iconst (k := 16) 0 rfl (by decide) ?_
      refine p_msk [false, false] (L2 := [none, none]) rfl ?_
      exact sX0_quotes_L65 hb h
    · rw [if_neg hc] at h
      refine p_aload_n (k := 11) (i := 0) rfl rfl rfl ?_
      refine p_getr (k := 12) rfl (lay_c hb) rfl fl_RX0_21 ?_
      refine p_iload_n (k := 13) (i := 1) rfl rfl rfl ?_
      refine s_rd h (k := 14) rfl (lay_c3 hb) (fun v3 h => ?_)
      refine p_goto (k := 15) 65 rfl (by decide) ?_
      refine p_msk [false, false] (L2 := [none, none]) rfl ?_
      exact sX0_quotes_L65 hb h
  rw [if_neg hx0] at h
  by_cases hx1 : v1 = 2
  · rw [if_pos hx1] at h
    refine p_tableIn (k := 4) (off := 86) 92 rfl (by rw [hx1]; decide) (by rw [hx1]; decide) (by rw [hx1]; decide) (by decide) ?_
    refine p_aload_n (k := 33) (i := 0) rfl rfl rfl ?_
    refine p_getr (k := 34) rfl (lay_c hb) rfl fl_RX0_18 ?_
    refine p_iload_n (k := 35) (i := 1) rfl rfl rfl ?_
    refine s_rd h (k := 36) rfl (lay_c2 hb) (fun v4 h => ?_)
    refine p_iconst (k := 37) 2 rfl (by decide) ?_
    refine p_irem (k := 38) rfl (by decide) ?_
    refine p_if_ne (k := 39) 112 rfl (by decide) (fun hc => ?_) (fun hc => ?_)
    · rw [if_neg hc] at h
      refine p_iconst (k := 45) 0 rfl (by decide) ?_
      refine p_msk [false, false] (L2 := [none, none]) rfl ?_
      exact sX0_quotes_L113 hb h
    · rw [if_pos hc] at h
      refine p_aload_n (k := 40) (i := 0) rfl rfl rfl ?_
      refine p_getr (k := 41) rfl (lay_c hb) rfl fl_RX0_21 ?_
      refine p_iload_n (k := 42) (i := 1) rfl rfl rfl ?_
      refine s_rd h (k := 43) rfl (lay_c3 hb) (fun v5 h => ?_)
      refine p_goto (k := 44) 113 rfl (by decide) ?_
      refine p_msk [false, false] (L2 := [none, none]) rfl ?_
      exact sX0_quotes_L113 hb h
  rw [if_neg hx1] at h
  by_cases hx2 : v1 = 3
  · rw [if_pos hx2] at h
    refine p_tableIn (k := 4) (off := 149) 155 rfl (by rw [hx2]; decide) (by rw [hx2]; decide) (by rw [hx2]; decide) (by decide) ?_
    refine p_msk [true, true] (L2 := [some (.ref b), some (.int a1)]) rfl ?_
    exact sX0_quotes_L155 hb h
  rw [if_neg hx2] at h
  by_cases hx3 : v1 = 4
  · rw [if_pos hx3] at h
    refine p_tableIn (k := 4) (off := 108) 114 rfl (by rw [hx3]; decide) (by rw [hx3]; decide) (by rw [hx3]; decide) (by decide) ?_
    refine p_aload_n (k := 47) (i := 0) rfl rfl rfl ?_
    refine p_getr (k := 48) rfl (lay_c hb) rfl fl_RX0_21 ?_
    refine p_iload_n (k := 49) (i := 1) rfl rfl rfl ?_
    refine s_rd h (k := 50) rfl (lay_c3 hb) (fun v6 h => ?_)
    refine p_aload_n (k := 51) (i := 0) rfl rfl rfl ?_
    refine p_getr (k := 52) rfl (lay_c hb) rfl fl_RX0_24 ?_
    refine p_iload_n (k := 53) (i := 1) rfl rfl rfl ?_
    refine s_rd h (k := 54) rfl (lay_c4 hb) (fun v7 h => ?_)
    obtain ⟨v8, S1, hcS1, h⟩ := cl_some h
    refine p_callS (k := 55) [.int v7] [.int v6] rfl (tX0_skippedAt hcS1) lc_X0_skippedAt ml_RX0_65 ms_X0_skippedAt (by decide) (by decide) (Nat.le_of_ble_eq_true rfl) rfl ?_
    refine p_iconst (k := 56) (-1) rfl (by decide) ?_
    refine p_ixor (k := 57) rfl ?_
    refine p_iand (k := 58) rfl ?_
    exact s_iret h (k := 59) rfl rfl
  rw [if_neg hx3] at h
  by_cases hx4 : v1 = 5
  · rw [if_pos hx4] at h
    refine p_tableIn (k := 4) (off := 127) 133 rfl (by rw [hx4]; decide) (by rw [hx4]; decide) (by rw [hx4]; decide) (by decide) ?_
    refine p_aload_n (k := 60) (i := 0) rfl rfl rfl ?_
    refine p_getr (k := 61) rfl (lay_c hb) rfl fl_RX0_18 ?_
    refine p_iload_n (k := 62) (i := 1) rfl rfl rfl ?_
    refine s_rd h (k := 63) rfl (lay_c2 hb) (fun v9 h => ?_)
    refine p_bipush (k := 64) 11 rfl (by decide) ?_
    refine p_icmp_ne (k := 65) 153 rfl (by decide) (fun hc => ?_) (fun hc => ?_)
    · rw [if_neg hc] at h
      refine p_iconst (k := 71) 0 rfl (by decide) ?_
      refine p_msk [false, false] (L2 := [none, none]) rfl ?_
      exact sX0_quotes_L154 hb h
    · rw [if_pos hc] at h
      refine p_aload_n (k := 66) (i := 0) rfl rfl rfl ?_
      refine p_getr (k := 67) rfl (lay_c hb) rfl fl_RX0_21 ?_
      refine p_iload_n (k := 68) (i := 1) rfl rfl rfl ?_
      refine s_rd h (k := 69) rfl (lay_c3 hb) (fun v10 h => ?_)
      refine p_goto (k := 70) 154 rfl (by decide) ?_
      refine p_msk [false, false] (L2 := [none, none]) rfl ?_
      exact sX0_quotes_L154 hb h
  rw [if_neg hx4] at h
  by_cases hx5 : v1 = 6
  · rw [if_pos hx5] at h
    refine p_tableIn (k := 4) (off := 60) 66 rfl (by rw [hx5]; decide) (by rw [hx5]; decide) (by rw [hx5]; decide) (by decide) ?_
    refine p_aload_n (k := 18) (i := 0) rfl rfl rfl ?_
    refine p_getr (k := 19) rfl (lay_c hb) rfl fl_RX0_27 ?_
    refine p_iload_n (k := 20) (i := 1) rfl rfl rfl ?_
    refine s_rd h (k := 21) rfl (lay_c5 hb) (fun v11 h => ?_)
    refine p_bipush (k := 22) 10 rfl (by decide) ?_
    refine p_icmp_lt (k := 23) 90 rfl (by decide) (fun hc => ?_) (fun hc => ?_)
    · rw [if_pos hc] at h
      refine p_iconst (k := 31) 0 rfl (by decide) ?_
      refine p_msk [false, false] (L2 := [none, none]) rfl ?_
      exact sX0_quotes_L91 hb h
    · rw [if_neg hc] at h
      refine p_aload_n (k := 24) (i := 0) rfl rfl rfl ?_
      refine p_getr (k := 25) rfl (lay_c hb) rfl fl_RX0_21 ?_
      refine p_iload_n (k := 26) (i := 1) rfl rfl rfl ?_
      refine s_rd h (k := 27) rfl (lay_c3 hb) (fun v12 h => ?_)
      refine p_sipush (k := 28) 255 rfl (by decide) ?_
      refine p_iand (k := 29) rfl ?_
      refine p_goto (k := 30) 91 rfl (by decide) ?_
      refine p_msk [false, false] (L2 := [none, none]) rfl ?_
      exact sX0_quotes_L91 hb h
  rw [if_neg hx5] at h
  have hz0 := toInt_ne hx0 (z := 1) (by decide)
  have hz1 := toInt_ne hx1 (z := 2) (by decide)
  have hz2 := toInt_ne hx2 (z := 3) (by decide)
  have hz3 := toInt_ne hx3 (z := 4) (by decide)
  have hz4 := toInt_ne hx4 (z := 5) (by decide)
  have hz5 := toInt_ne hx5 (z := 6) (by decide)
  refine p_tableOut (k := 4) 155 rfl (by omega) (by decide) ?_
  refine p_msk [true, true] (L2 := [some (.ref b), some (.int a1)]) rfl ?_
  exact sX0_quotes_L155 hb h
theorem tX0_quotes {b : Nat} {a1 : Int32} (hb : isC b) {S : St} {r : Int32} {S9 : St} (h : fX0_quotes b a1 S = some (r, S9)) : MR yX0_quotes cX0_quotes mX0_quotes [.ref b, .int a1] S (some (.int r), S9) := MR.of (n := 0) okX0_quotes rfl rfl (sX0_quotes hb h)
-- costs(I)I
def fX0_costs (b : Nat) (a1 : Int32) (S : St) : Option (Int32 × St) :=
  rd S (b + 3) 8 a1 fun v1 =>
  bnd (2 + v1) fun v2 =>
  rd S (b + 4) 8 a1 fun v3 =>
  cl (fJ6_bitCount_0f7a4 v3 S) fun v4 S1 =>
  bnd (2 + (v4 / 2)) fun v5 =>
  rd S1 (b + 2) 8 a1 fun v6 =>
  if v6 = 1 then
    some (v2, S1)
  else
  if v6 = 2 then
    some (v5, S1)
  else
  if v6 = 3 then
    some (v5 - 1, S1)
  else
  if v6 = 4 then
    rd S1 (b + 5) 8 a1 fun v7 =>
    some ((v5 - 1) + (v7 / 10), S1)
  else
  if v6 = 5 then
    some (99, S1)
  else
  if v6 = 6 then
    some (v2 / 2, S1)
  else
  some (2, S1)
theorem sX0_costs {b : Nat} {a1 : Int32} (hb : isC b) {S : St} {r : Int32} {S9 : St} (h : fX0_costs b a1 S = some (r, S9)) : PW mX0_costs (some (.int r), S9) 0 [some (.ref b), some (.int a1), none, none] [] S := by
  unfold fX0_costs at h
  refine p_iconst (k := 0) 2 rfl (by decide) ?_
  refine p_aload_n (k := 1) (i := 0) rfl rfl rfl ?_
  refine p_getr (k := 2) rfl (lay_c hb) rfl fl_RX0_18 ?_
  refine p_iload_n (k := 3) (i := 1) rfl rfl rfl ?_
  refine s_rd h (k := 4) rfl (lay_c2 hb) (fun v1 h => ?_)
  refine p_iadd (k := 5) rfl ?_
  refine s_bnd h (fun v2 h => ?_)
  refine p_istore_n (k := 6) 2 [some (.ref b), some (.int a1), some (.int v2), none] rfl rfl rfl (by decide) rfl ?_
  refine p_iconst (k := 7) 2 rfl (by decide) ?_
  refine p_aload_n (k := 8) (i := 0) rfl rfl rfl ?_
  refine p_getr (k := 9) rfl (lay_c hb) rfl fl_RX0_21 ?_
  refine p_iload_n (k := 10) (i := 1) rfl rfl rfl ?_
  refine s_rd h (k := 11) rfl (lay_c3 hb) (fun v3 h => ?_)
  obtain ⟨v4, S1, hcS1, h⟩ := cl_some h
  refine p_callS (k := 12) [.int v3] [.int 2] rfl (tJ6_bitCount_0f7a4 hcS1) lc_J6_bitCount_0f7a4 ml_RX0_68 ms_J6_bitCount_0f7a4 (by decide) (by decide) (Nat.le_of_ble_eq_true rfl) rfl ?_
  refine p_iconst (k := 13) 2 rfl (by decide) ?_
  refine p_idiv (k := 14) rfl (by decide) ?_
  refine p_iadd (k := 15) rfl ?_
  refine s_bnd h (fun v5 h => ?_)
  refine p_istore_n (k := 16) 3 [some (.ref b), some (.int a1), some (.int v2), some (.int v5)] rfl rfl rfl (by decide) rfl ?_
  refine p_aload_n (k := 17) (i := 0) rfl rfl rfl ?_
  refine p_getr (k := 18) rfl (lay_c hb) rfl fl_RX0_15 ?_
  refine p_iload_n (k := 19) (i := 1) rfl rfl rfl ?_
  refine s_rd h (k := 20) rfl (lay_c1 hb) (fun v6 h => ?_)
  by_cases hx0 : v6 = 1
  · rw [if_pos hx0] at h
    refine p_tableIn (k := 21) (off := 39) 68 rfl (by rw [hx0]; decide) (by rw [hx0]; decide) (by rw [hx0]; decide) (by decide) ?_
    refine p_iload_n (k := 22) (i := 2) rfl rfl rfl ?_
    exact s_iret h (k := 23) rfl rfl
  rw [if_neg hx0] at h
  by_cases hx1 : v6 = 2
  · rw [if_pos hx1] at h
    refine p_tableIn (k := 21) (off := 45) 74 rfl (by rw [hx1]; decide) (by rw [hx1]; decide) (by rw [hx1]; decide) (by decide) ?_
    refine p_iload_n (k := 28) (i := 3) rfl rfl rfl ?_
    exact s_iret h (k := 29) rfl rfl
  rw [if_neg hx1] at h
  by_cases hx2 : v6 = 3
  · rw [if_pos hx2] at h
    refine p_tableIn (k := 21) (off := 47) 76 rfl (by rw [hx2]; decide) (by rw [hx2]; decide) (by rw [hx2]; decide) (by decide) ?_
    refine p_iload_n (k := 30) (i := 3) rfl rfl rfl ?_
    refine p_iconst (k := 31) 1 rfl (by decide) ?_
    refine p_isub (k := 32) rfl ?_
    exact s_iret h (k := 33) rfl rfl
  rw [if_neg hx2] at h
  by_cases hx3 : v6 = 4
  · rw [if_pos hx3] at h
    refine p_tableIn (k := 21) (off := 51) 80 rfl (by rw [hx3]; decide) (by rw [hx3]; decide) (by rw [hx3]; decide) (by decide) ?_
    refine p_iload_n (k := 34) (i := 3) rfl rfl rfl ?_
    refine p_iconst (k := 35) 1 rfl (by decide) ?_
    refine p_isub (k := 36) rfl ?_
    refine p_aload_n (k := 37) (i := 0) rfl rfl rfl ?_
    refine p_getr (k := 38) rfl (lay_c hb) rfl fl_RX0_24 ?_
    refine p_iload_n (k := 39) (i := 1) rfl rfl rfl ?_
    refine s_rd h (k := 40) rfl (lay_c4 hb) (fun v7 h => ?_)
    refine p_bipush (k := 41) 10 rfl (by decide) ?_
    refine p_idiv (k := 42) rfl (by decide) ?_
    refine p_iadd (k := 43) rfl ?_
    exact s_iret h (k := 44) rfl rfl
  rw [if_neg hx3] at h
  by_cases hx4 : v6 = 5
  · rw [if_pos hx4] at h
    refine p_tableIn (k := 21) (off := 65) 94 rfl (by rw [hx4]; decide) (by rw [hx4]; decide) (by rw [hx4]; decide) (by decide) ?_
    refine p_bipush (k := 45) 99 rfl (by decide) ?_
    exact s_iret h (k := 46) rfl rfl
  rw [if_neg hx4] at h
  by_cases hx5 : v6 = 6
  · rw [if_pos hx5] at h
    refine p_tableIn (k := 21) (off := 41) 70 rfl (by rw [hx5]; decide) (by rw [hx5]; decide) (by rw [hx5]; decide) (by decide) ?_
    refine p_iload_n (k := 24) (i := 2) rfl rfl rfl ?_
    refine p_iconst (k := 25) 2 rfl (by decide) ?_
    refine p_idiv (k := 26) rfl (by decide) ?_
    exact s_iret h (k := 27) rfl rfl
  rw [if_neg hx5] at h
  have hz0 := toInt_ne hx0 (z := 1) (by decide)
  have hz1 := toInt_ne hx1 (z := 2) (by decide)
  have hz2 := toInt_ne hx2 (z := 3) (by decide)
  have hz3 := toInt_ne hx3 (z := 4) (by decide)
  have hz4 := toInt_ne hx4 (z := 5) (by decide)
  have hz5 := toInt_ne hx5 (z := 6) (by decide)
  refine p_tableOut (k := 21) 97 rfl (by omega) (by decide) ?_
  refine p_iconst (k := 47) 2 rfl (by decide) ?_
  exact s_iret h (k := 48) rfl rfl
theorem tX0_costs {b : Nat} {a1 : Int32} (hb : isC b) {S : St} {r : Int32} {S9 : St} (h : fX0_costs b a1 S = some (r, S9)) : MR yX0_costs cX0_costs mX0_costs [.ref b, .int a1] S (some (.int r), S9) := MR.of (n := 2) okX0_costs rfl rfl (sX0_costs hb h)
-- grazes(I)I
def fX0_grazes_L49 (b : Nat) (S : St) : Option (Int32 × St) :=
  some (6, S)
theorem sX0_grazes_L49 {b : Nat} (hb : isC b) {r : Int32} {S9 : St}  {S : St} (h : fX0_grazes_L49 b S = some (r, S9)) : PW mX0_grazes (some (.int r), S9) 49 [none, none] [] S := by
  unfold fX0_grazes_L49 at h
  refine p_bipush (k := 9) 6 rfl (by decide) ?_
  exact s_iret h (k := 10) rfl rfl
def fX0_grazes (b : Nat) (a1 : Int32) (S : St) : Option (Int32 × St) :=
  rd S (b + 2) 8 a1 fun v1 =>
  if v1 = 1 then
    some (7, S)
  else
  if v1 = 2 then
    fX0_grazes_L49 b S
  else
  if v1 = 3 then
    fX0_grazes_L49 b S
  else
  if v1 = 4 then
    fX0_grazes_L49 b S
  else
  if v1 = 5 then
    some (2, S)
  else
  if v1 = 6 then
    some (3, S)
  else
  some (5, S)
theorem sX0_grazes {b : Nat} {a1 : Int32} (hb : isC b) {S : St} {r : Int32} {S9 : St} (h : fX0_grazes b a1 S = some (r, S9)) : PW mX0_grazes (some (.int r), S9) 0 [some (.ref b), some (.int a1)] [] S := by
  unfold fX0_grazes at h
  refine p_aload_n (k := 0) (i := 0) rfl rfl rfl ?_
  refine p_getr (k := 1) rfl (lay_c hb) rfl fl_RX0_15 ?_
  refine p_iload_n (k := 2) (i := 1) rfl rfl rfl ?_
  refine s_rd h (k := 3) rfl (lay_c1 hb) (fun v1 h => ?_)
  by_cases hx0 : v1 = 1
  · rw [if_pos hx0] at h
    refine p_tableIn (k := 4) (off := 38) 44 rfl (by rw [hx0]; decide) (by rw [hx0]; decide) (by rw [hx0]; decide) (by decide) ?_
    refine p_bipush (k := 5) 7 rfl (by decide) ?_
    exact s_iret h (k := 6) rfl rfl
  rw [if_neg hx0] at h
  by_cases hx1 : v1 = 2
  · rw [if_pos hx1] at h
    refine p_tableIn (k := 4) (off := 43) 49 rfl (by rw [hx1]; decide) (by rw [hx1]; decide) (by rw [hx1]; decide) (by decide) ?_
    refine p_msk [false, false] (L2 := [none, none]) rfl ?_
    exact sX0_grazes_L49 hb h
  rw [if_neg hx1] at h
  by_cases hx2 : v1 = 3
  · rw [if_pos hx2] at h
    refine p_tableIn (k := 4) (off := 43) 49 rfl (by rw [hx2]; decide) (by rw [hx2]; decide) (by rw [hx2]; decide) (by decide) ?_
    refine p_msk [false, false] (L2 := [none, none]) rfl ?_
    exact sX0_grazes_L49 hb h
  rw [if_neg hx2] at h
  by_cases hx3 : v1 = 4
  · rw [if_pos hx3] at h
    refine p_tableIn (k := 4) (off := 43) 49 rfl (by rw [hx3]; decide) (by rw [hx3]; decide) (by rw [hx3]; decide) (by decide) ?_
    refine p_msk [false, false] (L2 := [none, none]) rfl ?_
    exact sX0_grazes_L49 hb h
  rw [if_neg hx3] at h
  by_cases hx4 : v1 = 5
  · rw [if_pos hx4] at h
    refine p_tableIn (k := 4) (off := 46) 52 rfl (by rw [hx4]; decide) (by rw [hx4]; decide) (by rw [hx4]; decide) (by decide) ?_
    refine p_iconst (k := 11) 2 rfl (by decide) ?_
    exact s_iret h (k := 12) rfl rfl
  rw [if_neg hx4] at h
  by_cases hx5 : v1 = 6
  · rw [if_pos hx5] at h
    refine p_tableIn (k := 4) (off := 41) 47 rfl (by rw [hx5]; decide) (by rw [hx5]; decide) (by rw [hx5]; decide) (by decide) ?_
    refine p_iconst (k := 7) 3 rfl (by decide) ?_
    exact s_iret h (k := 8) rfl rfl
  rw [if_neg hx5] at h
  have hz0 := toInt_ne hx0 (z := 1) (by decide)
  have hz1 := toInt_ne hx1 (z := 2) (by decide)
  have hz2 := toInt_ne hx2 (z := 3) (by decide)
  have hz3 := toInt_ne hx3 (z := 4) (by decide)
  have hz4 := toInt_ne hx4 (z := 5) (by decide)
  have hz5 := toInt_ne hx5 (z := 6) (by decide)
  refine p_tableOut (k := 4) 54 rfl (by omega) (by decide) ?_
  refine p_iconst (k := 13) 5 rfl (by decide) ?_
  exact s_iret h (k := 14) rfl rfl
theorem tX0_grazes {b : Nat} {a1 : Int32} (hb : isC b) {S : St} {r : Int32} {S9 : St} (h : fX0_grazes b a1 S = some (r, S9)) : MR yX0_grazes cX0_grazes mX0_grazes [.ref b, .int a1] S (some (.int r), S9) := MR.of (n := 0) okX0_grazes rfl rfl (sX0_grazes hb h)
-- greenestNear(I)I
def fX0_greenestNear_L56 (b : Nat) (x2 : Int32) (S : St) : Option (Int32 × St) :=
  some (x2, S)
theorem sX0_greenestNear_L56 {b : Nat} (hb : isC b) {r : Int32} {S9 : St} {x2 : Int32} {S : St} (h : fX0_greenestNear_L56 b x2 S = some (r, S9)) : PW mX0_greenestNear (some (.int r), S9) 56 [none, none, some (.int x2)] [] S := by
  unfold fX0_greenestNear_L56 at h
  refine p_iload_n (k := 39) (i := 2) rfl rfl rfl ?_
  exact s_iret h (k := 40) rfl rfl
def fX0_greenestNear_L31 (b : Nat) (x1 : Int32) (x2 : Int32) (S : St) : Option (Int32 × St) :=
  if x1 ≤ 0 then
    fX0_greenestNear_L56 b x2 S
  else
    rd S (b + 1) 12 (x1 - 1) fun v1 =>
    rd S (b + 1) 12 x2 fun v2 =>
    if v1 ≤ v2 then
      fX0_greenestNear_L56 b x2 S
    else
      bnd (x1 - 1) fun v3 =>
      fX0_greenestNear_L56 b v3 S
theorem sX0_greenestNear_L31 {b : Nat} (hb : isC b) {r : Int32} {S9 : St} {x1 : Int32} {x2 : Int32} {S : St} (h : fX0_greenestNear_L31 b x1 x2 S = some (r, S9)) : PW mX0_greenestNear (some (.int r), S9) 31 [some (.ref b), some (.int x1), some (.int x2)] [] S := by
  unfold fX0_greenestNear_L31 at h
  refine p_iload_n (k := 22) (i := 1) rfl rfl rfl ?_
  refine p_if_le (k := 23) 56 rfl (by decide) (fun hc => ?_) (fun hc => ?_)
  · rw [if_pos hc] at h
    refine p_msk [false, false, true] (L2 := [none, none, some (.int x2)]) rfl ?_
    exact sX0_greenestNear_L56 hb h
  · rw [if_neg hc] at h
    refine p_aload_n (k := 24) (i := 0) rfl rfl rfl ?_
    refine p_getr (k := 25) rfl (lay_c hb) rfl fl_RX0_11 ?_
    refine p_iload_n (k := 26) (i := 1) rfl rfl rfl ?_
    refine p_iconst (k := 27) 1 rfl (by decide) ?_
    refine p_isub (k := 28) rfl ?_
    refine s_rd h (k := 29) rfl (lay_c0 hb) (fun v1 h => ?_)
    refine p_aload_n (k := 30) (i := 0) rfl rfl rfl ?_
    refine p_getr (k := 31) rfl (lay_c hb) rfl fl_RX0_11 ?_
    refine p_iload_n (k := 32) (i := 2) rfl rfl rfl ?_
    refine s_rd h (k := 33) rfl (lay_c0 hb) (fun v2 h => ?_)
    refine p_icmp_le (k := 34) 56 rfl (by decide) (fun hc => ?_) (fun hc => ?_)
    · rw [if_pos hc] at h
      refine p_msk [false, false, true] (L2 := [none, none, some (.int x2)]) rfl ?_
      exact sX0_greenestNear_L56 hb h
    · rw [if_neg hc] at h
      refine p_iload_n (k := 35) (i := 1) rfl rfl rfl ?_
      refine p_iconst (k := 36) 1 rfl (by decide) ?_
      refine p_isub (k := 37) rfl ?_
      refine s_bnd h (fun v3 h => ?_)
      refine p_istore_n (k := 38) 2 [some (.ref b), some (.int x1), some (.int v3)] rfl rfl rfl (by decide) rfl ?_
      refine p_msk [false, false, true] (L2 := [none, none, some (.int v3)]) rfl ?_
      exact sX0_greenestNear_L56 hb h
def fX0_greenestNear (b : Nat) (a1 : Int32) (S : St) : Option (Int32 × St) :=
  if 12 ≤ (a1 + 1) then
    fX0_greenestNear_L31 b a1 a1 S
  else
    rd S (b + 1) 12 (a1 + 1) fun v1 =>
    rd S (b + 1) 12 a1 fun v2 =>
    if v1 ≤ v2 then
      fX0_greenestNear_L31 b a1 a1 S
    else
      bnd (a1 + 1) fun v3 =>
      fX0_greenestNear_L31 b a1 v3 S
theorem sX0_greenestNear {b : Nat} {a1 : Int32} (hb : isC b) {S : St} {r : Int32} {S9 : St} (h : fX0_greenestNear b a1 S = some (r, S9)) : PW mX0_greenestNear (some (.int r), S9) 0 [some (.ref b), some (.int a1), none] [] S := by
  unfold fX0_greenestNear at h
  refine p_iload_n (k := 0) (i := 1) rfl rfl rfl ?_
  refine p_istore_n (k := 1) 2 [some (.ref b), some (.int a1), some (.int a1)] rfl rfl rfl (by decide) rfl ?_
  refine p_iload_n (k := 2) (i := 1) rfl rfl rfl ?_
  refine p_iconst (k := 3) 1 rfl (by decide) ?_
  refine p_iadd (k := 4) rfl ?_
  refine p_bipush (k := 5) 12 rfl (by decide) ?_
  refine p_icmp_ge (k := 6) 31 rfl (by decide) (fun hc => ?_) (fun hc => ?_)
  · rw [if_pos hc] at h
    refine p_msk [true, true, true] (L2 := [some (.ref b), some (.int a1), some (.int a1)]) rfl ?_
    exact sX0_greenestNear_L31 hb h
  · rw [if_neg hc] at h
    refine p_aload_n (k := 7) (i := 0) rfl rfl rfl ?_
    refine p_getr (k := 8) rfl (lay_c hb) rfl fl_RX0_11 ?_
    refine p_iload_n (k := 9) (i := 1) rfl rfl rfl ?_
    refine p_iconst (k := 10) 1 rfl (by decide) ?_
    refine p_iadd (k := 11) rfl ?_
    refine s_rd h (k := 12) rfl (lay_c0 hb) (fun v1 h => ?_)
    refine p_aload_n (k := 13) (i := 0) rfl rfl rfl ?_
    refine p_getr (k := 14) rfl (lay_c hb) rfl fl_RX0_11 ?_
    refine p_iload_n (k := 15) (i := 2) rfl rfl rfl ?_
    refine s_rd h (k := 16) rfl (lay_c0 hb) (fun v2 h => ?_)
    refine p_icmp_le (k := 17) 31 rfl (by decide) (fun hc => ?_) (fun hc => ?_)
    · rw [if_pos hc] at h
      refine p_msk [true, true, true] (L2 := [some (.ref b), some (.int a1), some (.int a1)]) rfl ?_
      exact sX0_greenestNear_L31 hb h
    · rw [if_neg hc] at h
      refine p_iload_n (k := 18) (i := 1) rfl rfl rfl ?_
      refine p_iconst (k := 19) 1 rfl (by decide) ?_
      refine p_iadd (k := 20) rfl ?_
      refine s_bnd h (fun v3 h => ?_)
      refine p_istore_n (k := 21) 2 [some (.ref b), some (.int a1), some (.int v3)] rfl rfl rfl (by decide) rfl ?_
      refine p_msk [true, true, true] (L2 := [some (.ref b), some (.int a1), some (.int v3)]) rfl ?_
      exact sX0_greenestNear_L31 hb h
theorem tX0_greenestNear {b : Nat} {a1 : Int32} (hb : isC b) {S : St} {r : Int32} {S9 : St} (h : fX0_greenestNear b a1 S = some (r, S9)) : MR yX0_greenestNear cX0_greenestNear mX0_greenestNear [.ref b, .int a1] S (some (.int r), S9) := MR.of (n := 1) okX0_greenestNear rfl rfl (sX0_greenestNear hb h)
-- climbsTo(I)I
def fX0_climbsTo_L64 (b : Nat) (y0 : Int32) (S : St) : Option (Int32 × St) :=
  some (y0, S)
theorem sX0_climbsTo_L64 {b : Nat} (hb : isC b) {r : Int32} {S9 : St} {y0 : Int32} {S : St} (h : fX0_climbsTo_L64 b y0 S = some (r, S9)) : PW mX0_climbsTo (some (.int r), S9) 64 [none, none, none] [.int y0] S := by
  unfold fX0_climbsTo_L64 at h
  exact s_iret h (k := 22) rfl rfl
def fX0_climbsTo_L89 (b : Nat) (y0 : Int32) (S : St) : Option (Int32 × St) :=
  some (y0, S)
theorem sX0_climbsTo_L89 {b : Nat} (hb : isC b) {r : Int32} {S9 : St} {y0 : Int32} {S : St} (h : fX0_climbsTo_L89 b y0 S = some (r, S9)) : PW mX0_climbsTo (some (.int r), S9) 89 [none, none, none] [.int y0] S := by
  unfold fX0_climbsTo_L89 at h
  exact s_iret h (k := 39) rfl rfl
def fX0_climbsTo (b : Nat) (a1 : Int32) (S : St) : Option (Int32 × St) :=
  rd S (b + 3) 8 a1 fun v1 =>
  rd S (b + 2) 8 a1 fun v2 =>
  if v2 = 2 then
    if (((S b 12) + a1) - ((S b 12) + a1) / 2 * 2) = 0 then
      cl (fX0_greenestNear b v1 S) fun v3 S1 =>
      fX0_climbsTo_L64 b v3 S1
    else
      fX0_climbsTo_L64 b v1 S
  else
  if v2 = 3 then
    some (v1, S)
  else
  if v2 = 4 then
    rd S (b + 5) 8 a1 fun v4 =>
    if (v4 - v4 / 5 * 5) = 0 then
      fX0_climbsTo_L89 b (mxI (v1 - 1) 0) S
    else
      fX0_climbsTo_L89 b v1 S
  else
  if v2 = 5 then
    some (mnI (v1 + 1) 11, S)
  else
  cl (fX0_greenestNear b v1 S) fun v5 S2 =>
  some (v5, S2)
theorem sX0_climbsTo {b : Nat} {a1 : Int32} (hb : isC b) {S : St} {r : Int32} {S9 : St} (h : fX0_climbsTo b a1 S = some (r, S9)) : PW mX0_climbsTo (some (.int r), S9) 0 [some (.ref b), some (.int a1), none] [] S := by
  unfold fX0_climbsTo at h
  refine p_aload_n (k := 0) (i := 0) rfl rfl rfl ?_
  refine p_getr (k := 1) rfl (lay_c hb) rfl fl_RX0_18 ?_
  refine p_iload_n (k := 2) (i := 1) rfl rfl rfl ?_
  refine s_rd h (k := 3) rfl (lay_c2 hb) (fun v1 h => ?_)
  refine p_istore_n (k := 4) 2 [some (.ref b), some (.int a1), some (.int v1)] rfl rfl rfl (by decide) rfl ?_
  refine p_aload_n (k := 5) (i := 0) rfl rfl rfl ?_
  refine p_getr (k := 6) rfl (lay_c hb) rfl fl_RX0_15 ?_
  refine p_iload_n (k := 7) (i := 1) rfl rfl rfl ?_
  refine s_rd h (k := 8) rfl (lay_c1 hb) (fun v2 h => ?_)
  by_cases hx0 : v2 = 2
  · rw [if_pos hx0] at h
    refine p_tableIn (k := 9) (off := 31) 44 rfl (by rw [hx0]; decide) (by rw [hx0]; decide) (by rw [hx0]; decide) (by decide) ?_
    refine p_aload_n (k := 10) (i := 0) rfl rfl rfl ?_
    refine p_geti (k := 11) rfl (lay_c hb) rfl fl_RX0_58 ?_
    refine p_iload_n (k := 12) (i := 1) rfl rfl rfl ?_
    refine p_iadd (k := 13) rfl ?_
    refine p_iconst (k := 14) 2 rfl (by decide) ?_
    refine p_irem (k := 15) rfl (by decide) ?_
    refine p_if_ne (k := 16) 63 rfl (by decide) (fun hc => ?_) (fun hc => ?_)
    · rw [if_neg hc] at h
      refine p_iload_n (k := 21) (i := 2) rfl rfl rfl ?_
      refine p_msk [false, false, false] (L2 := [none, none, none]) rfl ?_
      exact sX0_climbsTo_L64 hb h
    · rw [if_pos hc] at h
      refine p_aload_n (k := 17) (i := 0) rfl rfl rfl ?_
      refine p_iload_n (k := 18) (i := 2) rfl rfl rfl ?_
      obtain ⟨v3, S1, hcS1, h⟩ := cl_some h
      refine p_callV (k := 19) [.int v1] [] rfl (tX0_greenestNear hb hcS1) (lay_c hb) rfl lc_X0_greenestNear ml_RX0_73 mi_X0_greenestNear mv_X0_greenestNear (by decide) (by decide) (Nat.le_of_ble_eq_true rfl) rfl ?_
      refine p_goto (k := 20) 64 rfl (by decide) ?_
      refine p_msk [false, false, false] (L2 := [none, none, none]) rfl ?_
      exact sX0_climbsTo_L64 hb h
  rw [if_neg hx0] at h
  by_cases hx1 : v2 = 3
  · rw [if_pos hx1] at h
    refine p_tableIn (k := 9) (off := 52) 65 rfl (by rw [hx1]; decide) (by rw [hx1]; decide) (by rw [hx1]; decide) (by decide) ?_
    refine p_iload_n (k := 23) (i := 2) rfl rfl rfl ?_
    exact s_iret h (k := 24) rfl rfl
  rw [if_neg hx1] at h
  by_cases hx2 : v2 = 4
  · rw [if_pos hx2] at h
    refine p_tableIn (k := 9) (off := 54) 67 rfl (by rw [hx2]; decide) (by rw [hx2]; decide) (by rw [hx2]; decide) (by decide) ?_
    refine p_aload_n (k := 25) (i := 0) rfl rfl rfl ?_
    refine p_getr (k := 26) rfl (lay_c hb) rfl fl_RX0_24 ?_
    refine p_iload_n (k := 27) (i := 1) rfl rfl rfl ?_
    refine s_rd h (k := 28) rfl (lay_c4 hb) (fun v4 h => ?_)
    refine p_iconst (k := 29) 5 rfl (by decide) ?_
    refine p_irem (k := 30) rfl (by decide) ?_
    refine p_if_ne (k := 31) 88 rfl (by decide) (fun hc => ?_) (fun hc => ?_)
    · rw [if_neg hc] at h
      refine p_iload_n (k := 38) (i := 2) rfl rfl rfl ?_
      refine p_msk [false, false, false] (L2 := [none, none, none]) rfl ?_
      exact sX0_climbsTo_L89 hb h
    · rw [if_pos hc] at h
      refine p_iload_n (k := 32) (i := 2) rfl rfl rfl ?_
      refine p_iconst (k := 33) 1 rfl (by decide) ?_
      refine p_isub (k := 34) rfl ?_
      refine p_iconst (k := 35) 0 rfl (by decide) ?_
      refine p_mmax (k := 36) rfl ml_RX0_76 mm_static_max mm_init mm_code_max (by decide) (Nat.le_of_ble_eq_true rfl) ?_
      refine p_goto (k := 37) 89 rfl (by decide) ?_
      refine p_msk [false, false, false] (L2 := [none, none, none]) rfl ?_
      exact sX0_climbsTo_L89 hb h
  rw [if_neg hx2] at h
  by_cases hx3 : v2 = 5
  · rw [if_pos hx3] at h
    refine p_tableIn (k := 9) (off := 77) 90 rfl (by rw [hx3]; decide) (by rw [hx3]; decide) (by rw [hx3]; decide) (by decide) ?_
    refine p_iload_n (k := 40) (i := 2) rfl rfl rfl ?_
    refine p_iconst (k := 41) 1 rfl (by decide) ?_
    refine p_iadd (k := 42) rfl ?_
    refine p_bipush (k := 43) 11 rfl (by decide) ?_
    refine p_mmin (k := 44) rfl ml_RX0_82 mm_static_min mm_init mm_code_min (by decide) (Nat.le_of_ble_eq_true rfl) ?_
    exact s_iret h (k := 45) rfl rfl
  rw [if_neg hx3] at h
  have hz0 := toInt_ne hx0 (z := 2) (by decide)
  have hz1 := toInt_ne hx1 (z := 3) (by decide)
  have hz2 := toInt_ne hx2 (z := 4) (by decide)
  have hz3 := toInt_ne hx3 (z := 5) (by decide)
  refine p_tableOut (k := 9) 99 rfl (by omega) (by decide) ?_
  refine p_aload_n (k := 46) (i := 0) rfl rfl rfl ?_
  refine p_iload_n (k := 47) (i := 2) rfl rfl rfl ?_
  obtain ⟨v5, S2, hcS2, h⟩ := cl_some h
  refine p_callV (k := 48) [.int v1] [] rfl (tX0_greenestNear hb hcS2) (lay_c hb) rfl lc_X0_greenestNear ml_RX0_73 mi_X0_greenestNear mv_X0_greenestNear (by decide) (by decide) (Nat.le_of_ble_eq_true rfl) rfl ?_
  exact s_iret h (k := 49) rfl rfl
theorem tX0_climbsTo {b : Nat} {a1 : Int32} (hb : isC b) {S : St} {r : Int32} {S9 : St} (h : fX0_climbsTo b a1 S = some (r, S9)) : MR yX0_climbsTo cX0_climbsTo mX0_climbsTo [.ref b, .int a1] S (some (.int r), S9) := MR.of (n := 1) okX0_climbsTo rfl rfl (sX0_climbsTo hb h)
-- isHere(I)Z
def fX0_isHere_L16 (b : Nat) (y0 : Int32) (S : St) : Option (Int32 × St) :=
  retN .boolean y0 S
theorem sX0_isHere_L16 {b : Nat} (hb : isC b) {r : Int32} {S9 : St} {y0 : Int32} {S : St} (h : fX0_isHere_L16 b y0 S = some (r, S9)) : PW mX0_isHere (some (.int r), S9) 16 [none, none] [.int y0] S := by
  unfold fX0_isHere_L16 at h
  exact s_zret h (k := 10) rfl rfl
def fX0_isHere (b : Nat) (a1 : Int32) (S : St) : Option (Int32 × St) :=
  if (((S b 9) >>> (a1 &&& 31)) &&& 1) = 0 then
    fX0_isHere_L16 b 1 S
  else
    fX0_isHere_L16 b 0 S
theorem sX0_isHere {b : Nat} {a1 : Int32} (hb : isC b) {S : St} {r : Int32} {S9 : St} (h : fX0_isHere b a1 S = some (r, S9)) : PW mX0_isHere (some (.int r), S9) 0 [some (.ref b), some (.int a1)] [] S := by
  unfold fX0_isHere at h
  refine p_aload_n (k := 0) (i := 0) rfl rfl rfl ?_
  refine p_geti (k := 1) rfl (lay_c hb) rfl fl_RX0_55 ?_
  refine p_iload_n (k := 2) (i := 1) rfl rfl rfl ?_
  refine p_ishr (k := 3) rfl ?_
  refine p_iconst (k := 4) 1 rfl (by decide) ?_
  refine p_iand (k := 5) rfl ?_
  refine p_if_ne (k := 6) 15 rfl (by decide) (fun hc => ?_) (fun hc => ?_)
  · rw [if_neg hc] at h
    refine p_iconst (k := 9) 0 rfl (by decide) ?_
    refine p_msk [false, false] (L2 := [none, none]) rfl ?_
    exact sX0_isHere_L16 hb h
  · rw [if_pos hc] at h
    refine p_iconst (k := 7) 1 rfl (by decide) ?_
    refine p_goto (k := 8) 16 rfl (by decide) ?_
    refine p_msk [false, false] (L2 := [none, none]) rfl ?_
    exact sX0_isHere_L16 hb h
theorem tX0_isHere {b : Nat} {a1 : Int32} (hb : isC b) {S : St} {r : Int32} {S9 : St} (h : fX0_isHere b a1 S = some (r, S9)) : MR yX0_isHere cX0_isHere mX0_isHere [.ref b, .int a1] S (some (.int r), S9) := MR.of (n := 0) okX0_isHere rfl rfl (sX0_isHere hb h)
-- climbAndGraze(I)V
def fX0_climbAndGraze (b : Nat) (a1 : Int32) (S : St) : Option (Unit × St) :=
  cl (fX0_climbsTo b a1 S) fun v1 S1 =>
  wr S1 (b + 3) 8 a1 v1 fun S2 =>
  cl (fX0_grazes b a1 S2) fun v2 S3 =>
  rd S3 (b + 1) 12 v1 fun v3 =>
  bnd (mnI v2 v3) fun v4 =>
  rd S3 (b + 1) 12 v1 fun v5 =>
  wr S3 (b + 1) 12 v1 (v5 - v4) fun S4 =>
  rd S4 (b + 6) 8 a1 fun v6 =>
  wr S4 (b + 6) 8 a1 (mxI ((mnI (v6 + v4) 99) - 3) 0) fun S5 =>
  some ((), S5)
theorem sX0_climbAndGraze {b : Nat} {a1 : Int32} (hb : isC b) {S : St} {r : Unit} {S9 : St} (h : fX0_climbAndGraze b a1 S = some (r, S9)) : PW mX0_climbAndGraze (none, S9) 0 [some (.ref b), some (.int a1), none, none] [] S := by
  unfold fX0_climbAndGraze at h
  refine p_aload_n (k := 0) (i := 0) rfl rfl rfl ?_
  refine p_iload_n (k := 1) (i := 1) rfl rfl rfl ?_
  obtain ⟨v1, S1, hcS1, h⟩ := cl_some h
  refine p_callV (k := 2) [.int a1] [] rfl (tX0_climbsTo hb hcS1) (lay_c hb) rfl lc_X0_climbsTo ml_RX0_100 mi_X0_climbsTo mv_X0_climbsTo (by decide) (by decide) (Nat.le_of_ble_eq_true rfl) rfl ?_
  refine p_istore_n (k := 3) 2 [some (.ref b), some (.int a1), some (.int v1), none] rfl rfl rfl (by decide) rfl ?_
  refine p_aload_n (k := 4) (i := 0) rfl rfl rfl ?_
  refine p_getr (k := 5) rfl (lay_c hb) rfl fl_RX0_18 ?_
  refine p_iload_n (k := 6) (i := 1) rfl rfl rfl ?_
  refine p_iload_n (k := 7) (i := 2) rfl rfl rfl ?_
  refine s_wr h (k := 8) rfl (lay_c2 hb) (fun S2 h => ?_)
  refine p_aload_n (k := 9) (i := 0) rfl rfl rfl ?_
  refine p_iload_n (k := 10) (i := 1) rfl rfl rfl ?_
  obtain ⟨v2, S3, hcS3, h⟩ := cl_some h
  refine p_callV (k := 11) [.int a1] [] rfl (tX0_grazes hb hcS3) (lay_c hb) rfl lc_X0_grazes ml_RX0_103 mi_X0_grazes mv_X0_grazes (by decide) (by decide) (Nat.le_of_ble_eq_true rfl) rfl ?_
  refine p_aload_n (k := 12) (i := 0) rfl rfl rfl ?_
  refine p_getr (k := 13) rfl (lay_c hb) rfl fl_RX0_11 ?_
  refine p_iload_n (k := 14) (i := 2) rfl rfl rfl ?_
  refine s_rd h (k := 15) rfl (lay_c0 hb) (fun v3 h => ?_)
  refine p_mmin (k := 16) rfl ml_RX0_82 mm_static_min mm_init mm_code_min (by decide) (Nat.le_of_ble_eq_true rfl) ?_
  refine s_bnd h (fun v4 h => ?_)
  refine p_istore_n (k := 17) 3 [some (.ref b), some (.int a1), some (.int v1), some (.int v4)] rfl rfl rfl (by decide) rfl ?_
  refine p_aload_n (k := 18) (i := 0) rfl rfl rfl ?_
  refine p_getr (k := 19) rfl (lay_c hb) rfl fl_RX0_11 ?_
  refine p_iload_n (k := 20) (i := 2) rfl rfl rfl ?_
  refine p_dup2 (k := 21) rfl rfl rfl ?_
  refine s_rd h (k := 22) rfl (lay_c0 hb) (fun v5 h => ?_)
  refine p_iload_n (k := 23) (i := 3) rfl rfl rfl ?_
  refine p_isub (k := 24) rfl ?_
  refine s_wr h (k := 25) rfl (lay_c0 hb) (fun S4 h => ?_)
  refine p_aload_n (k := 26) (i := 0) rfl rfl rfl ?_
  refine p_getr (k := 27) rfl (lay_c hb) rfl fl_RX0_27 ?_
  refine p_iload_n (k := 28) (i := 1) rfl rfl rfl ?_
  refine p_aload_n (k := 29) (i := 0) rfl rfl rfl ?_
  refine p_getr (k := 30) rfl (lay_c hb) rfl fl_RX0_27 ?_
  refine p_iload_n (k := 31) (i := 1) rfl rfl rfl ?_
  refine s_rd h (k := 32) rfl (lay_c5 hb) (fun v6 h => ?_)
  refine p_iload_n (k := 33) (i := 3) rfl rfl rfl ?_
  refine p_iadd (k := 34) rfl ?_
  refine p_bipush (k := 35) 99 rfl (by decide) ?_
  refine p_mmin (k := 36) rfl ml_RX0_82 mm_static_min mm_init mm_code_min (by decide) (Nat.le_of_ble_eq_true rfl) ?_
  refine p_iconst (k := 37) 3 rfl (by decide) ?_
  refine p_isub (k := 38) rfl ?_
  refine p_iconst (k := 39) 0 rfl (by decide) ?_
  refine p_mmax (k := 40) rfl ml_RX0_76 mm_static_max mm_init mm_code_max (by decide) (Nat.le_of_ble_eq_true rfl) ?_
  refine s_wr h (k := 41) rfl (lay_c5 hb) (fun S5 h => ?_)
  exact s_vret h (k := 42) rfl rfl
theorem tX0_climbAndGraze {b : Nat} {a1 : Int32} (hb : isC b) {S : St} {r : Unit} {S9 : St} (h : fX0_climbAndGraze b a1 S = some (r, S9)) : MR yX0_climbAndGraze cX0_climbAndGraze mX0_climbAndGraze [.ref b, .int a1] S (none, S9) := MR.of (n := 2) okX0_climbAndGraze rfl rfl (sX0_climbAndGraze hb h)
-- pagesOn(I)I
def fX0_pagesOn_L39 (b : Nat) (k4 : Int32 → Int32 → Int32 → St → Option (Int32 × St)) (x1 : Int32) (x2 : Int32) (x3 : Int32) (S : St) : Option (Int32 × St) :=
  bnd (x3 + 1) fun v1 =>
  k4 x1 x2 v1 S
theorem sX0_pagesOn_L39 {b : Nat} (hb : isC b) {r : Int32} {S9 : St} {k4 : Int32 → Int32 → Int32 → St → Option (Int32 × St)} (hk4 : ∀ x1 x2 x3 S, k4 x1 x2 x3 S = some (r, S9) → PW mX0_pagesOn (some (.int r), S9) 4 [some (.ref b), some (.int x1), some (.int x2), some (.int x3)] [] S) {x1 : Int32} {x2 : Int32} {x3 : Int32} {S : St} (h : fX0_pagesOn_L39 b k4 x1 x2 x3 S = some (r, S9)) : PW mX0_pagesOn (some (.int r), S9) 39 [some (.ref b), some (.int x1), some (.int x2), some (.int x3)] [] S := by
  unfold fX0_pagesOn_L39 at h
  obtain ⟨v1, ev1, h⟩ := bnd_ex h
  refine p_iinc (k := 25) v1 [some (.ref b), some (.int x1), some (.int x2), some (.int v1)] rfl rfl (by rw [← ev1]; rfl) rfl (by decide) rfl ?_
  refine p_goto (k := 26) 4 rfl (by decide) ?_
  refine p_msk [true, true, true, true] (L2 := [some (.ref b), some (.int x1), some (.int x2), some (.int v1)]) rfl ?_
  exact hk4 _ _ _ _ h
def fX0_pagesOn_L4 (b : Nat) : Nat → Int32 → Int32 → Int32 → St → Option (Int32 × St)
  | 0 => fun _ _ _ _ => none
  | n + 1 => fun x1 x2 x3 S =>
    if (S b 8) ≤ x3 then
      some (x2, S)
    else
      cl (fX0_isHere b x3 S) fun v1 S1 =>
      if v1 = 0 then
        fX0_pagesOn_L39 b (fun x1 x2 x3 S => fX0_pagesOn_L4 b n x1 x2 x3 S) x1 x2 x3 S1
      else
        rd S1 (b + 3) 8 x3 fun v2 =>
        if v2 = x1 then
          rd S1 (b + 4) 8 x3 fun v3 =>
          bnd (x2 ||| v3) fun v4 =>
          fX0_pagesOn_L39 b (fun x1 x2 x3 S => fX0_pagesOn_L4 b n x1 x2 x3 S) x1 v4 x3 S1
        else
          fX0_pagesOn_L39 b (fun x1 x2 x3 S => fX0_pagesOn_L4 b n x1 x2 x3 S) x1 x2 x3 S1
theorem sX0_pagesOn_L4 {b : Nat} (hb : isC b) {r : Int32} {S9 : St} : ∀ (n : Nat) (x1 : Int32) (x2 : Int32) (x3 : Int32) (S : St), fX0_pagesOn_L4 b n x1 x2 x3 S = some (r, S9) → PW mX0_pagesOn (some (.int r), S9) 4 [some (.ref b), some (.int x1), some (.int x2), some (.int x3)] [] S := by
  intro n
  induction n with
  | zero => intro x1 x2 x3 S h; cases h
  | succ n ih =>
    intro x1 x2 x3 S h
    unfold fX0_pagesOn_L4 at h
    refine p_iload_n (k := 4) (i := 3) rfl rfl rfl ?_
    refine p_aload_n (k := 5) (i := 0) rfl rfl rfl ?_
    refine p_geti (k := 6) rfl (lay_c hb) rfl fl_RX0_52 ?_
    refine p_icmp_ge (k := 7) 45 rfl (by decide) (fun hc => ?_) (fun hc => ?_)
    · rw [if_pos hc] at h
      refine p_iload_n (k := 27) (i := 2) rfl rfl rfl ?_
      exact s_iret h (k := 28) rfl rfl
    · rw [if_neg hc] at h
      refine p_aload_n (k := 8) (i := 0) rfl rfl rfl ?_
      refine p_iload_n (k := 9) (i := 3) rfl rfl rfl ?_
      obtain ⟨v1, S1, hcS1, h⟩ := cl_some h
      refine p_callV (k := 10) [.int x3] [] rfl (tX0_isHere hb hcS1) (lay_c hb) rfl lc_X0_isHere ml_RX0_88 mi_X0_isHere mv_X0_isHere (by decide) (by decide) (Nat.le_of_ble_eq_true rfl) rfl ?_
      refine p_if_eq (k := 11) 39 rfl (by decide) (fun hc => ?_) (fun hc => ?_)
      · rw [if_pos hc] at h
        refine p_msk [true, true, true, true] (L2 := [some (.ref b), some (.int x1), some (.int x2), some (.int x3)]) rfl ?_
        exact sX0_pagesOn_L39 hb ih h
      · rw [if_neg hc] at h
        refine p_aload_n (k := 12) (i := 0) rfl rfl rfl ?_
        refine p_getr (k := 13) rfl (lay_c hb) rfl fl_RX0_18 ?_
        refine p_iload_n (k := 14) (i := 3) rfl rfl rfl ?_
        refine s_rd h (k := 15) rfl (lay_c2 hb) (fun v2 h => ?_)
        refine p_iload_n (k := 16) (i := 1) rfl rfl rfl ?_
        refine p_icmp_ne (k := 17) 39 rfl (by decide) (fun hc => ?_) (fun hc => ?_)
        · rw [if_neg hc] at h
          refine p_msk [true, true, true, true] (L2 := [some (.ref b), some (.int x1), some (.int x2), some (.int x3)]) rfl ?_
          exact sX0_pagesOn_L39 hb ih h
        · rw [if_pos hc] at h
          refine p_iload_n (k := 18) (i := 2) rfl rfl rfl ?_
          refine p_aload_n (k := 19) (i := 0) rfl rfl rfl ?_
          refine p_getr (k := 20) rfl (lay_c hb) rfl fl_RX0_21 ?_
          refine p_iload_n (k := 21) (i := 3) rfl rfl rfl ?_
          refine s_rd h (k := 22) rfl (lay_c3 hb) (fun v3 h => ?_)
          refine p_ior (k := 23) rfl ?_
          refine s_bnd h (fun v4 h => ?_)
          refine p_istore_n (k := 24) 2 [some (.ref b), some (.int x1), some (.int v4), some (.int x3)] rfl rfl rfl (by decide) rfl ?_
          refine p_msk [true, true, true, true] (L2 := [some (.ref b), some (.int x1), some (.int v4), some (.int x3)]) rfl ?_
          exact sX0_pagesOn_L39 hb ih h
def fX0_pagesOn (b : Nat) (a1 : Int32) (S : St) : Option (Int32 × St) :=
  fX0_pagesOn_L4 b FU a1 0 0 S
theorem sX0_pagesOn {b : Nat} {a1 : Int32} (hb : isC b) {S : St} {r : Int32} {S9 : St} (h : fX0_pagesOn b a1 S = some (r, S9)) : PW mX0_pagesOn (some (.int r), S9) 0 [some (.ref b), some (.int a1), none, none] [] S := by
  unfold fX0_pagesOn at h
  refine p_iconst (k := 0) 0 rfl (by decide) ?_
  refine p_istore_n (k := 1) 2 [some (.ref b), some (.int a1), some (.int 0), none] rfl rfl rfl (by decide) rfl ?_
  refine p_iconst (k := 2) 0 rfl (by decide) ?_
  refine p_istore_n (k := 3) 3 [some (.ref b), some (.int a1), some (.int 0), some (.int 0)] rfl rfl rfl (by decide) rfl ?_
  refine p_msk [true, true, true, true] (L2 := [some (.ref b), some (.int a1), some (.int 0), some (.int 0)]) rfl ?_
  exact sX0_pagesOn_L4 hb _ _ _ _ _ h
theorem tX0_pagesOn {b : Nat} {a1 : Int32} (hb : isC b) {S : St} {r : Int32} {S9 : St} (h : fX0_pagesOn b a1 S = some (r, S9)) : MR yX0_pagesOn cX0_pagesOn mX0_pagesOn [.ref b, .int a1] S (some (.int r), S9) := MR.of (n := 2) okX0_pagesOn rfl rfl (sX0_pagesOn hb h)
-- withoutGreatest(I)I
def fX0_withoutGreatest_L3 : Nat → Int32 → Int32 → St → Option (Int32 × St)
  | 0 => fun _ _ _ => none
  | n + 1 => fun x0 x1 S =>
    if x1 < 0 then
      some (x0, S)
    else
      cl (fX4_hasBit x0 x1 S) fun v1 S1 =>
      if v1 = 0 then
        bnd (x1 + (-1)) fun v2 =>
        fX0_withoutGreatest_L3 n x0 v2 S1
      else
        some (x0 &&& ((1 <<< (x1 &&& 31)) ^^^ (-1)), S1)
theorem sX0_withoutGreatest_L3 {r : Int32} {S9 : St} : ∀ (n : Nat) (x0 : Int32) (x1 : Int32) (S : St), fX0_withoutGreatest_L3 n x0 x1 S = some (r, S9) → PW mX0_withoutGreatest (some (.int r), S9) 3 [some (.int x0), some (.int x1)] [] S := by
  intro n
  induction n with
  | zero => intro x0 x1 S h; cases h
  | succ n ih =>
    intro x0 x1 S h
    unfold fX0_withoutGreatest_L3 at h
    refine p_iload_n (k := 2) (i := 1) rfl rfl rfl ?_
    refine p_if_lt (k := 3) 29 rfl (by decide) (fun hc => ?_) (fun hc => ?_)
    · rw [if_pos hc] at h
      refine p_iload_n (k := 18) (i := 0) rfl rfl rfl ?_
      exact s_iret h (k := 19) rfl rfl
    · rw [if_neg hc] at h
      refine p_iload_n (k := 4) (i := 0) rfl rfl rfl ?_
      refine p_iload_n (k := 5) (i := 1) rfl rfl rfl ?_
      obtain ⟨v1, S1, hcS1, h⟩ := cl_some h
      refine p_callSN (k := 6) [.int x0, .int x1] [] rfl (tX4_hasBit hcS1) lc_X4_hasBit ml_RX0_115 ms_X4_hasBit (by decide) (by decide) (Nat.le_of_ble_eq_true rfl) rfl ?_
      refine p_if_eq (k := 7) 23 rfl (by decide) (fun hc => ?_) (fun hc => ?_)
      · rw [if_pos hc] at h
        obtain ⟨v2, ev2, h⟩ := bnd_ex h
        refine p_iinc (k := 16) v2 [some (.int x0), some (.int v2)] rfl rfl (by rw [← ev2]; rfl) rfl (by decide) rfl ?_
        refine p_goto (k := 17) 3 rfl (by decide) ?_
        refine p_msk [true, true] (L2 := [some (.int x0), some (.int v2)]) rfl ?_
        exact ih _ _ _ h
      · rw [if_neg hc] at h
        refine p_iload_n (k := 8) (i := 0) rfl rfl rfl ?_
        refine p_iconst (k := 9) 1 rfl (by decide) ?_
        refine p_iload_n (k := 10) (i := 1) rfl rfl rfl ?_
        refine p_ishl (k := 11) rfl ?_
        refine p_iconst (k := 12) (-1) rfl (by decide) ?_
        refine p_ixor (k := 13) rfl ?_
        refine p_iand (k := 14) rfl ?_
        exact s_iret h (k := 15) rfl rfl
def fX0_withoutGreatest (a1 : Int32) (S : St) : Option (Int32 × St) :=
  fX0_withoutGreatest_L3 FU a1 15 S
theorem sX0_withoutGreatest {a1 : Int32} {S : St} {r : Int32} {S9 : St} (h : fX0_withoutGreatest a1 S = some (r, S9)) : PW mX0_withoutGreatest (some (.int r), S9) 0 [some (.int a1), none] [] S := by
  unfold fX0_withoutGreatest at h
  refine p_bipush (k := 0) 15 rfl (by decide) ?_
  refine p_istore_n (k := 1) 1 [some (.int a1), some (.int 15)] rfl rfl rfl (by decide) rfl ?_
  refine p_msk [true, true] (L2 := [some (.int a1), some (.int 15)]) rfl ?_
  exact sX0_withoutGreatest_L3 _ _ _ _ h
theorem tX0_withoutGreatest {a1 : Int32} {S : St} {r : Int32} {S9 : St} (h : fX0_withoutGreatest a1 S = some (r, S9)) : MR yX0_withoutGreatest cX0_withoutGreatest mX0_withoutGreatest [.int a1] S (some (.int r), S9) := MR.of (n := 1) okX0_withoutGreatest rfl rfl (sX0_withoutGreatest h)
-- learnOrForget(I)V
def fX0_learnOrForget_L66 (b : Nat) (S : St) : Option (Unit × St) :=
  some ((), S)
theorem sX0_learnOrForget_L66 {b : Nat} (hb : isC b) {r : Unit} {S9 : St}  {S : St} (h : fX0_learnOrForget_L66 b S = some (r, S9)) : PW mX0_learnOrForget (none, S9) 66 [none, none] [] S := by
  unfold fX0_learnOrForget_L66 at h
  exact s_vret h (k := 41) rfl rfl
def fX0_learnOrForget_L42 (b : Nat) (x1 : Int32) (S : St) : Option (Unit × St) :=
  rd S (b + 6) 8 x1 fun v1 =>
  if v1 = 0 then
    rd S (b + 4) 8 x1 fun v2 =>
    cl (fX0_withoutGreatest v2 S) fun v3 S1 =>
    wr S1 (b + 4) 8 x1 v3 fun S2 =>
    fX0_learnOrForget_L66 b S2
  else
    fX0_learnOrForget_L66 b S
theorem sX0_learnOrForget_L42 {b : Nat} (hb : isC b) {r : Unit} {S9 : St} {x1 : Int32} {S : St} (h : fX0_learnOrForget_L42 b x1 S = some (r, S9)) : PW mX0_learnOrForget (none, S9) 42 [some (.ref b), some (.int x1)] [] S := by
  unfold fX0_learnOrForget_L42 at h
  refine p_aload_n (k := 27) (i := 0) rfl rfl rfl ?_
  refine p_getr (k := 28) rfl (lay_c hb) rfl fl_RX0_27 ?_
  refine p_iload_n (k := 29) (i := 1) rfl rfl rfl ?_
  refine s_rd h (k := 30) rfl (lay_c5 hb) (fun v1 h => ?_)
  refine p_if_ne (k := 31) 66 rfl (by decide) (fun hc => ?_) (fun hc => ?_)
  · rw [if_neg hc] at h
    refine p_msk [false, false] (L2 := [none, none]) rfl ?_
    exact sX0_learnOrForget_L66 hb h
  · rw [if_pos hc] at h
    refine p_aload_n (k := 32) (i := 0) rfl rfl rfl ?_
    refine p_getr (k := 33) rfl (lay_c hb) rfl fl_RX0_21 ?_
    refine p_iload_n (k := 34) (i := 1) rfl rfl rfl ?_
    refine p_aload_n (k := 35) (i := 0) rfl rfl rfl ?_
    refine p_getr (k := 36) rfl (lay_c hb) rfl fl_RX0_21 ?_
    refine p_iload_n (k := 37) (i := 1) rfl rfl rfl ?_
    refine s_rd h (k := 38) rfl (lay_c3 hb) (fun v2 h => ?_)
    obtain ⟨v3, S1, hcS1, h⟩ := cl_some h
    refine p_callS (k := 39) [.int v2] [.int x1, .ref (b + 4)] rfl (tX0_withoutGreatest hcS1) lc_X0_withoutGreatest ml_RX0_112 ms_X0_withoutGreatest (by decide) (by decide) (Nat.le_of_ble_eq_true rfl) rfl ?_
    refine s_wr h (k := 40) rfl (lay_c3 hb) (fun S2 h => ?_)
    refine p_msk [false, false] (L2 := [none, none]) rfl ?_
    exact sX0_learnOrForget_L66 hb h
def fX0_learnOrForget (b : Nat) (a1 : Int32) (S : St) : Option (Unit × St) :=
  rd S (b + 6) 8 a1 fun v1 =>
  if v1 < 20 then
    fX0_learnOrForget_L42 b a1 S
  else
    rd S (b + 4) 8 a1 fun v2 =>
    rd S (b + 3) 8 a1 fun v3 =>
    cl (fX0_pagesOn b v3 S) fun v4 S1 =>
    rd S1 (b + 4) 8 a1 fun v5 =>
    cl (fX4_leastBit (v4 &&& (v5 ^^^ (-1))) S1) fun v6 S2 =>
    wr S2 (b + 4) 8 a1 (v2 ||| v6) fun S3 =>
    fX0_learnOrForget_L42 b a1 S3
theorem sX0_learnOrForget {b : Nat} {a1 : Int32} (hb : isC b) {S : St} {r : Unit} {S9 : St} (h : fX0_learnOrForget b a1 S = some (r, S9)) : PW mX0_learnOrForget (none, S9) 0 [some (.ref b), some (.int a1)] [] S := by
  unfold fX0_learnOrForget at h
  refine p_aload_n (k := 0) (i := 0) rfl rfl rfl ?_
  refine p_getr (k := 1) rfl (lay_c hb) rfl fl_RX0_27 ?_
  refine p_iload_n (k := 2) (i := 1) rfl rfl rfl ?_
  refine s_rd h (k := 3) rfl (lay_c5 hb) (fun v1 h => ?_)
  refine p_bipush (k := 4) 20 rfl (by decide) ?_
  refine p_icmp_lt (k := 5) 42 rfl (by decide) (fun hc => ?_) (fun hc => ?_)
  · rw [if_pos hc] at h
    refine p_msk [true, true] (L2 := [some (.ref b), some (.int a1)]) rfl ?_
    exact sX0_learnOrForget_L42 hb h
  · rw [if_neg hc] at h
    refine p_aload_n (k := 6) (i := 0) rfl rfl rfl ?_
    refine p_getr (k := 7) rfl (lay_c hb) rfl fl_RX0_21 ?_
    refine p_iload_n (k := 8) (i := 1) rfl rfl rfl ?_
    refine p_dup2 (k := 9) rfl rfl rfl ?_
    refine s_rd h (k := 10) rfl (lay_c3 hb) (fun v2 h => ?_)
    refine p_aload_n (k := 11) (i := 0) rfl rfl rfl ?_
    refine p_aload_n (k := 12) (i := 0) rfl rfl rfl ?_
    refine p_getr (k := 13) rfl (lay_c hb) rfl fl_RX0_18 ?_
    refine p_iload_n (k := 14) (i := 1) rfl rfl rfl ?_
    refine s_rd h (k := 15) rfl (lay_c2 hb) (fun v3 h => ?_)
    obtain ⟨v4, S1, hcS1, h⟩ := cl_some h
    refine p_callV (k := 16) [.int v3] [.int v2, .int a1, .ref (b + 4)] rfl (tX0_pagesOn hb hcS1) (lay_c hb) rfl lc_X0_pagesOn ml_RX0_106 mi_X0_pagesOn mv_X0_pagesOn (by decide) (by decide) (Nat.le_of_ble_eq_true rfl) rfl ?_
    refine p_aload_n (k := 17) (i := 0) rfl rfl rfl ?_
    refine p_getr (k := 18) rfl (lay_c hb) rfl fl_RX0_21 ?_
    refine p_iload_n (k := 19) (i := 1) rfl rfl rfl ?_
    refine s_rd h (k := 20) rfl (lay_c3 hb) (fun v5 h => ?_)
    refine p_iconst (k := 21) (-1) rfl (by decide) ?_
    refine p_ixor (k := 22) rfl ?_
    refine p_iand (k := 23) rfl ?_
    obtain ⟨v6, S2, hcS2, h⟩ := cl_some h
    refine p_callSN (k := 24) [.int (v4 &&& (v5 ^^^ (-1)))] [.int v2, .int a1, .ref (b + 4)] rfl (tX4_leastBit hcS2) lc_X4_leastBit ml_RX0_109 ms_X4_leastBit (by decide) (by decide) (Nat.le_of_ble_eq_true rfl) rfl ?_
    refine p_ior (k := 25) rfl ?_
    refine s_wr h (k := 26) rfl (lay_c3 hb) (fun S3 h => ?_)
    refine p_msk [true, true] (L2 := [some (.ref b), some (.int a1)]) rfl ?_
    exact sX0_learnOrForget_L42 hb h
theorem tX0_learnOrForget {b : Nat} {a1 : Int32} (hb : isC b) {S : St} {r : Unit} {S9 : St} (h : fX0_learnOrForget b a1 S = some (r, S9)) : MR yX0_learnOrForget cX0_learnOrForget mX0_learnOrForget [.ref b, .int a1] S (none, S9) := MR.of (n := 0) okX0_learnOrForget rfl rfl (sX0_learnOrForget hb h)
-- passDay()V
def fX0_passDay_L23 (b : Nat) (k2 : Int32 → St → Option (Unit × St)) (x1 : Int32) (S : St) : Option (Unit × St) :=
  bnd (x1 + 1) fun v1 =>
  k2 v1 S
theorem sX0_passDay_L23 {b : Nat} (hb : isC b) {r : Unit} {S9 : St} {k2 : Int32 → St → Option (Unit × St)} (hk2 : ∀ x1 S, k2 x1 S = some (r, S9) → PW mX0_passDay (none, S9) 2 [some (.ref b), some (.int x1)] [] S) {x1 : Int32} {S : St} (h : fX0_passDay_L23 b k2 x1 S = some (r, S9)) : PW mX0_passDay (none, S9) 23 [some (.ref b), some (.int x1)] [] S := by
  unfold fX0_passDay_L23 at h
  obtain ⟨v1, ev1, h⟩ := bnd_ex h
  refine p_iinc (k := 13) v1 [some (.ref b), some (.int v1)] rfl rfl (by rw [← ev1]; rfl) rfl (by decide) rfl ?_
  refine p_goto (k := 14) 2 rfl (by decide) ?_
  refine p_msk [true, true] (L2 := [some (.ref b), some (.int v1)]) rfl ?_
  exact hk2 _ _ h
def fX0_passDay_L72 (b : Nat) (k31 : Int32 → St → Option (Unit × St)) (x1 : Int32) (S : St) : Option (Unit × St) :=
  bnd (x1 + 1) fun v1 =>
  k31 v1 S
theorem sX0_passDay_L72 {b : Nat} (hb : isC b) {r : Unit} {S9 : St} {k31 : Int32 → St → Option (Unit × St)} (hk31 : ∀ x1 S, k31 x1 S = some (r, S9) → PW mX0_passDay (none, S9) 31 [some (.ref b), some (.int x1)] [] S) {x1 : Int32} {S : St} (h : fX0_passDay_L72 b k31 x1 S = some (r, S9)) : PW mX0_passDay (none, S9) 72 [some (.ref b), some (.int x1)] [] S := by
  unfold fX0_passDay_L72 at h
  obtain ⟨v1, ev1, h⟩ := bnd_ex h
  refine p_iinc (k := 40) v1 [some (.ref b), some (.int v1)] rfl rfl (by rw [← ev1]; rfl) rfl (by decide) rfl ?_
  refine p_goto (k := 41) 31 rfl (by decide) ?_
  refine p_msk [true, true] (L2 := [some (.ref b), some (.int v1)]) rfl ?_
  exact hk31 _ _ h
def fX0_passDay_L80 (b : Nat) : Nat → Int32 → St → Option (Unit × St)
  | 0 => fun _ _ => none
  | n + 1 => fun x1 S =>
    if 12 ≤ x1 then
      bnd (up2 S b 12 (mnI ((S b 12) + 1) 99999)) fun S1 =>
      some ((), S1)
    else
      rd S (b + 1) 12 x1 fun v1 =>
      wr S (b + 1) 12 x1 (mnI (v1 + (S b 10)) 99) fun S2 =>
      bnd (x1 + 1) fun v2 =>
      fX0_passDay_L80 b n v2 S2
theorem sX0_passDay_L80 {b : Nat} (hb : isC b) {r : Unit} {S9 : St} : ∀ (n : Nat) (x1 : Int32) (S : St), fX0_passDay_L80 b n x1 S = some (r, S9) → PW mX0_passDay (none, S9) 80 [some (.ref b), some (.int x1)] [] S := by
  intro n
  induction n with
  | zero => intro x1 S h; cases h
  | succ n ih =>
    intro x1 S h
    unfold fX0_passDay_L80 at h
    refine p_iload_n (k := 44) (i := 1) rfl rfl rfl ?_
    refine p_bipush (k := 45) 12 rfl (by decide) ?_
    refine p_icmp_ge (k := 46) 114 rfl (by decide) (fun hc => ?_) (fun hc => ?_)
    · rw [if_pos hc] at h
      refine p_aload_n (k := 62) (i := 0) rfl rfl rfl ?_
      refine p_aload_n (k := 63) (i := 0) rfl rfl rfl ?_
      refine p_geti (k := 64) rfl (lay_c hb) rfl fl_RX0_58 ?_
      refine p_iconst (k := 65) 1 rfl (by decide) ?_
      refine p_iadd (k := 66) rfl ?_
      refine p_ldc (k := 67) rfl k_RX0_99 ?_
      refine p_mmin (k := 68) rfl ml_RX0_82 mm_static_min mm_init mm_code_min (by decide) (Nat.le_of_ble_eq_true rfl) ?_
      refine s_put h (k := 69) rfl (lay_c hb) rfl fl_RX0_58 fp_0_12 rfl rfl (fun S1 h => ?_)
      exact s_vret h (k := 70) rfl rfl
    · rw [if_neg hc] at h
      refine p_aload_n (k := 47) (i := 0) rfl rfl rfl ?_
      refine p_getr (k := 48) rfl (lay_c hb) rfl fl_RX0_11 ?_
      refine p_iload_n (k := 49) (i := 1) rfl rfl rfl ?_
      refine p_aload_n (k := 50) (i := 0) rfl rfl rfl ?_
      refine p_getr (k := 51) rfl (lay_c hb) rfl fl_RX0_11 ?_
      refine p_iload_n (k := 52) (i := 1) rfl rfl rfl ?_
      refine s_rd h (k := 53) rfl (lay_c0 hb) (fun v1 h => ?_)
      refine p_aload_n (k := 54) (i := 0) rfl rfl rfl ?_
      refine p_geti (k := 55) rfl (lay_c hb) rfl fl_RX0_36 ?_
      refine p_iadd (k := 56) rfl ?_
      refine p_bipush (k := 57) 99 rfl (by decide) ?_
      refine p_mmin (k := 58) rfl ml_RX0_82 mm_static_min mm_init mm_code_min (by decide) (Nat.le_of_ble_eq_true rfl) ?_
      refine s_wr h (k := 59) rfl (lay_c0 hb) (fun S2 h => ?_)
      obtain ⟨v2, ev2, h⟩ := bnd_ex h
      refine p_iinc (k := 60) v2 [some (.ref b), some (.int v2)] rfl rfl (by rw [← ev2]; rfl) rfl (by decide) rfl ?_
      refine p_goto (k := 61) 80 rfl (by decide) ?_
      refine p_msk [true, true] (L2 := [some (.ref b), some (.int v2)]) rfl ?_
      exact ih _ _ h
def fX0_passDay_L31 (b : Nat) : Nat → Int32 → St → Option (Unit × St)
  | 0 => fun _ _ => none
  | n + 1 => fun x1 S =>
    if (S b 8) ≤ x1 then
      fX0_passDay_L80 b FU 0 S
    else
      cl (fX0_isHere b x1 S) fun v1 S1 =>
      if v1 = 0 then
        fX0_passDay_L72 b (fun x1 S => fX0_passDay_L31 b n x1 S) x1 S1
      else
        cl (fX0_learnOrForget b x1 S1) fun _ S2 =>
        rd S2 (b + 5) 8 x1 fun v2 =>
        wr S2 (b + 5) 8 x1 (mnI (v2 + 1) 9999) fun S3 =>
        fX0_passDay_L72 b (fun x1 S => fX0_passDay_L31 b n x1 S) x1 S3
theorem sX0_passDay_L31 {b : Nat} (hb : isC b) {r : Unit} {S9 : St} : ∀ (n : Nat) (x1 : Int32) (S : St), fX0_passDay_L31 b n x1 S = some (r, S9) → PW mX0_passDay (none, S9) 31 [some (.ref b), some (.int x1)] [] S := by
  intro n
  induction n with
  | zero => intro x1 S h; cases h
  | succ n ih =>
    intro x1 S h
    unfold fX0_passDay_L31 at h
    refine p_iload_n (k := 17) (i := 1) rfl rfl rfl ?_
    refine p_aload_n (k := 18) (i := 0) rfl rfl rfl ?_
    refine p_geti (k := 19) rfl (lay_c hb) rfl fl_RX0_52 ?_
    refine p_icmp_ge (k := 20) 78 rfl (by decide) (fun hc => ?_) (fun hc => ?_)
    · rw [if_pos hc] at h
      refine p_iconst (k := 42) 0 rfl (by decide) ?_
      refine p_istore_n (k := 43) 1 [some (.ref b), some (.int 0)] rfl rfl rfl (by decide) rfl ?_
      refine p_msk [true, true] (L2 := [some (.ref b), some (.int 0)]) rfl ?_
      exact sX0_passDay_L80 hb _ _ _ h
    · rw [if_neg hc] at h
      refine p_aload_n (k := 21) (i := 0) rfl rfl rfl ?_
      refine p_iload_n (k := 22) (i := 1) rfl rfl rfl ?_
      obtain ⟨v1, S1, hcS1, h⟩ := cl_some h
      refine p_callV (k := 23) [.int x1] [] rfl (tX0_isHere hb hcS1) (lay_c hb) rfl lc_X0_isHere ml_RX0_88 mi_X0_isHere mv_X0_isHere (by decide) (by decide) (Nat.le_of_ble_eq_true rfl) rfl ?_
      refine p_if_eq (k := 24) 72 rfl (by decide) (fun hc => ?_) (fun hc => ?_)
      · rw [if_pos hc] at h
        refine p_msk [true, true] (L2 := [some (.ref b), some (.int x1)]) rfl ?_
        exact sX0_passDay_L72 hb ih h
      · rw [if_neg hc] at h
        refine p_aload_n (k := 25) (i := 0) rfl rfl rfl ?_
        refine p_iload_n (k := 26) (i := 1) rfl rfl rfl ?_
        obtain ⟨_, S2, hcS2, h⟩ := cl_some h
        refine p_callV (k := 27) [.int x1] [] rfl (tX0_learnOrForget hb hcS2) (lay_c hb) rfl lc_X0_learnOrForget ml_RX0_96 mi_X0_learnOrForget mv_X0_learnOrForget (by decide) (by decide) (Nat.le_of_ble_eq_true rfl) rfl ?_
        refine p_aload_n (k := 28) (i := 0) rfl rfl rfl ?_
        refine p_getr (k := 29) rfl (lay_c hb) rfl fl_RX0_24 ?_
        refine p_iload_n (k := 30) (i := 1) rfl rfl rfl ?_
        refine p_aload_n (k := 31) (i := 0) rfl rfl rfl ?_
        refine p_getr (k := 32) rfl (lay_c hb) rfl fl_RX0_24 ?_
        refine p_iload_n (k := 33) (i := 1) rfl rfl rfl ?_
        refine s_rd h (k := 34) rfl (lay_c4 hb) (fun v2 h => ?_)
        refine p_iconst (k := 35) 1 rfl (by decide) ?_
        refine p_iadd (k := 36) rfl ?_
        refine p_sipush (k := 37) 9999 rfl (by decide) ?_
        refine p_mmin (k := 38) rfl ml_RX0_82 mm_static_min mm_init mm_code_min (by decide) (Nat.le_of_ble_eq_true rfl) ?_
        refine s_wr h (k := 39) rfl (lay_c4 hb) (fun S3 h => ?_)
        refine p_msk [true, true] (L2 := [some (.ref b), some (.int x1)]) rfl ?_
        exact sX0_passDay_L72 hb ih h
def fX0_passDay_L2 (b : Nat) : Nat → Int32 → St → Option (Unit × St)
  | 0 => fun _ _ => none
  | n + 1 => fun x1 S =>
    if (S b 8) ≤ x1 then
      fX0_passDay_L31 b FU 0 S
    else
      cl (fX0_isHere b x1 S) fun v1 S1 =>
      if v1 = 0 then
        fX0_passDay_L23 b (fun x1 S => fX0_passDay_L2 b n x1 S) x1 S1
      else
        cl (fX0_climbAndGraze b x1 S1) fun _ S2 =>
        fX0_passDay_L23 b (fun x1 S => fX0_passDay_L2 b n x1 S) x1 S2
theorem sX0_passDay_L2 {b : Nat} (hb : isC b) {r : Unit} {S9 : St} : ∀ (n : Nat) (x1 : Int32) (S : St), fX0_passDay_L2 b n x1 S = some (r, S9) → PW mX0_passDay (none, S9) 2 [some (.ref b), some (.int x1)] [] S := by
  intro n
  induction n with
  | zero => intro x1 S h; cases h
  | succ n ih =>
    intro x1 S h
    unfold fX0_passDay_L2 at h
    refine p_iload_n (k := 2) (i := 1) rfl rfl rfl ?_
    refine p_aload_n (k := 3) (i := 0) rfl rfl rfl ?_
    refine p_geti (k := 4) rfl (lay_c hb) rfl fl_RX0_52 ?_
    refine p_icmp_ge (k := 5) 29 rfl (by decide) (fun hc => ?_) (fun hc => ?_)
    · rw [if_pos hc] at h
      refine p_iconst (k := 15) 0 rfl (by decide) ?_
      refine p_istore_n (k := 16) 1 [some (.ref b), some (.int 0)] rfl rfl rfl (by decide) rfl ?_
      refine p_msk [true, true] (L2 := [some (.ref b), some (.int 0)]) rfl ?_
      exact sX0_passDay_L31 hb _ _ _ h
    · rw [if_neg hc] at h
      refine p_aload_n (k := 6) (i := 0) rfl rfl rfl ?_
      refine p_iload_n (k := 7) (i := 1) rfl rfl rfl ?_
      obtain ⟨v1, S1, hcS1, h⟩ := cl_some h
      refine p_callV (k := 8) [.int x1] [] rfl (tX0_isHere hb hcS1) (lay_c hb) rfl lc_X0_isHere ml_RX0_88 mi_X0_isHere mv_X0_isHere (by decide) (by decide) (Nat.le_of_ble_eq_true rfl) rfl ?_
      refine p_if_eq (k := 9) 23 rfl (by decide) (fun hc => ?_) (fun hc => ?_)
      · rw [if_pos hc] at h
        refine p_msk [true, true] (L2 := [some (.ref b), some (.int x1)]) rfl ?_
        exact sX0_passDay_L23 hb ih h
      · rw [if_neg hc] at h
        refine p_aload_n (k := 10) (i := 0) rfl rfl rfl ?_
        refine p_iload_n (k := 11) (i := 1) rfl rfl rfl ?_
        obtain ⟨_, S2, hcS2, h⟩ := cl_some h
        refine p_callV (k := 12) [.int x1] [] rfl (tX0_climbAndGraze hb hcS2) (lay_c hb) rfl lc_X0_climbAndGraze ml_RX0_92 mi_X0_climbAndGraze mv_X0_climbAndGraze (by decide) (by decide) (Nat.le_of_ble_eq_true rfl) rfl ?_
        refine p_msk [true, true] (L2 := [some (.ref b), some (.int x1)]) rfl ?_
        exact sX0_passDay_L23 hb ih h
def fX0_passDay (b : Nat) (S : St) : Option (Unit × St) :=
  fX0_passDay_L2 b FU 0 S
theorem sX0_passDay {b : Nat} (hb : isC b) {S : St} {r : Unit} {S9 : St} (h : fX0_passDay b S = some (r, S9)) : PW mX0_passDay (none, S9) 0 [some (.ref b), none] [] S := by
  unfold fX0_passDay at h
  refine p_iconst (k := 0) 0 rfl (by decide) ?_
  refine p_istore_n (k := 1) 1 [some (.ref b), some (.int 0)] rfl rfl rfl (by decide) rfl ?_
  refine p_msk [true, true] (L2 := [some (.ref b), some (.int 0)]) rfl ?_
  exact sX0_passDay_L2 hb _ _ _ h
theorem tX0_passDay {b : Nat} (hb : isC b) {S : St} {r : Unit} {S9 : St} (h : fX0_passDay b S = some (r, S9)) : MR yX0_passDay cX0_passDay mX0_passDay [.ref b] S (none, S9) := MR.of (n := 1) okX0_passDay rfl rfl (sX0_passDay hb h)
-- passDays(I)V
def fX0_passDays_L2 (b : Nat) : Nat → Int32 → Int32 → St → Option (Unit × St)
  | 0 => fun _ _ _ => none
  | n + 1 => fun x1 x2 S =>
    if x1 ≤ x2 then
      some ((), S)
    else
      cl (fX0_passDay b S) fun _ S1 =>
      bnd (x2 + 1) fun v1 =>
      fX0_passDays_L2 b n x1 v1 S1
theorem sX0_passDays_L2 {b : Nat} (hb : isC b) {r : Unit} {S9 : St} : ∀ (n : Nat) (x1 : Int32) (x2 : Int32) (S : St), fX0_passDays_L2 b n x1 x2 S = some (r, S9) → PW mX0_passDays (none, S9) 2 [some (.ref b), some (.int x1), some (.int x2)] [] S := by
  intro n
  induction n with
  | zero => intro x1 x2 S h; cases h
  | succ n ih =>
    intro x1 x2 S h
    unfold fX0_passDays_L2 at h
    refine p_iload_n (k := 2) (i := 2) rfl rfl rfl ?_
    refine p_iload_n (k := 3) (i := 1) rfl rfl rfl ?_
    refine p_icmp_ge (k := 4) 17 rfl (by decide) (fun hc => ?_) (fun hc => ?_)
    · rw [if_pos hc] at h
      exact s_vret h (k := 9) rfl rfl
    · rw [if_neg hc] at h
      refine p_aload_n (k := 5) (i := 0) rfl rfl rfl ?_
      obtain ⟨_, S1, hcS1, h⟩ := cl_some h
      refine p_callV (k := 6) [] [] rfl (tX0_passDay hb hcS1) (lay_c hb) rfl lc_X0_passDay ml_RX0_85 mi_X0_passDay mv_X0_passDay (by decide) (by decide) (Nat.le_of_ble_eq_true rfl) rfl ?_
      obtain ⟨v1, ev1, h⟩ := bnd_ex h
      refine p_iinc (k := 7) v1 [some (.ref b), some (.int x1), some (.int v1)] rfl rfl (by rw [← ev1]; rfl) rfl (by decide) rfl ?_
      refine p_goto (k := 8) 2 rfl (by decide) ?_
      refine p_msk [true, true, true] (L2 := [some (.ref b), some (.int x1), some (.int v1)]) rfl ?_
      exact ih _ _ _ h
def fX0_passDays (b : Nat) (a1 : Int32) (S : St) : Option (Unit × St) :=
  fX0_passDays_L2 b FU a1 0 S
theorem sX0_passDays {b : Nat} {a1 : Int32} (hb : isC b) {S : St} {r : Unit} {S9 : St} (h : fX0_passDays b a1 S = some (r, S9)) : PW mX0_passDays (none, S9) 0 [some (.ref b), some (.int a1), none] [] S := by
  unfold fX0_passDays at h
  refine p_iconst (k := 0) 0 rfl (by decide) ?_
  refine p_istore_n (k := 1) 2 [some (.ref b), some (.int a1), some (.int 0)] rfl rfl rfl (by decide) rfl ?_
  refine p_msk [true, true, true] (L2 := [some (.ref b), some (.int a1), some (.int 0)]) rfl ?_
  exact sX0_passDays_L2 hb _ _ _ _ h
theorem tX0_passDays {b : Nat} {a1 : Int32} (hb : isC b) {S : St} {r : Unit} {S9 : St} (h : fX0_passDays b a1 S = some (r, S9)) : MR yX0_passDays cX0_passDays mX0_passDays [.ref b, .int a1] S (none, S9) := MR.of (n := 1) okX0_passDays rfl rfl (sX0_passDays hb h)
-- draw()I
def fX0_draw (b : Nat) (S : St) : Option (Int32 × St) :=
  bnd (up2 S b 13 (((S b 13) * 1103515245) + 12345)) fun S1 =>
  some (((S1 b 13 : Int32).toUInt32 >>> ((8 : Int32).toUInt32 &&& Int32.toUInt32 31)).toInt32, S1)
theorem sX0_draw {b : Nat} (hb : isC b) {S : St} {r : Int32} {S9 : St} (h : fX0_draw b S = some (r, S9)) : PW mX0_draw (some (.int r), S9) 0 [some (.ref b)] [] S := by
  unfold fX0_draw at h
  refine p_aload_n (k := 0) (i := 0) rfl rfl rfl ?_
  refine p_aload_n (k := 1) (i := 0) rfl rfl rfl ?_
  refine p_geti (k := 2) rfl (lay_c hb) rfl fl_RX0_43 ?_
  refine p_ldc (k := 3) rfl k_RX0_123 ?_
  refine p_imul (k := 4) rfl ?_
  refine p_sipush (k := 5) 12345 rfl (by decide) ?_
  refine p_iadd (k := 6) rfl ?_
  refine s_put h (k := 7) rfl (lay_c hb) rfl fl_RX0_43 fp_0_13 rfl rfl (fun S1 h => ?_)
  refine p_aload_n (k := 8) (i := 0) rfl rfl rfl ?_
  refine p_geti (k := 9) rfl (lay_c hb) rfl fl_RX0_43 ?_
  refine p_bipush (k := 10) 8 rfl (by decide) ?_
  refine p_iushr (k := 11) rfl ?_
  exact s_iret h (k := 12) rfl rfl
theorem tX0_draw {b : Nat} (hb : isC b) {S : St} {r : Int32} {S9 : St} (h : fX0_draw b S = some (r, S9)) : MR yX0_draw cX0_draw mX0_draw [.ref b] S (some (.int r), S9) := MR.of (n := 0) okX0_draw rfl rfl (sX0_draw hb h)
-- slip()V
def fX0_slip_L36 (b : Nat) (S : St) : Option (Unit × St) :=
  some ((), S)
theorem sX0_slip_L36 {b : Nat} (hb : isC b) {r : Unit} {S9 : St}  {S : St} (h : fX0_slip_L36 b S = some (r, S9)) : PW mX0_slip (none, S9) 36 [none, none] [] S := by
  unfold fX0_slip_L36 at h
  exact s_vret h (k := 22) rfl rfl
def fX0_slip (b : Nat) (S : St) : Option (Unit × St) :=
  cl (fX0_draw b S) fun v1 S1 =>
  wr S1 (b + 1) 12 (v1 - v1 / 12 * 12) 0 fun S2 =>
  cl (fX0_draw b S2) fun v2 S3 =>
  bnd (v2 - v2 / 8 * 8) fun v3 =>
  if (S3 b 8) ≤ v3 then
    fX0_slip_L36 b S3
  else
    wr S3 (b + 3) 8 v3 0 fun S4 =>
    fX0_slip_L36 b S4
theorem sX0_slip {b : Nat} (hb : isC b) {S : St} {r : Unit} {S9 : St} (h : fX0_slip b S = some (r, S9)) : PW mX0_slip (none, S9) 0 [some (.ref b), none] [] S := by
  unfold fX0_slip at h
  refine p_aload_n (k := 0) (i := 0) rfl rfl rfl ?_
  refine p_getr (k := 1) rfl (lay_c hb) rfl fl_RX0_11 ?_
  refine p_aload_n (k := 2) (i := 0) rfl rfl rfl ?_
  obtain ⟨v1, S1, hcS1, h⟩ := cl_some h
  refine p_callV (k := 3) [] [.ref (b + 1)] rfl (tX0_draw hb hcS1) (lay_c hb) rfl lc_X0_draw ml_RX0_119 mi_X0_draw mv_X0_draw (by decide) (by decide) (Nat.le_of_ble_eq_true rfl) rfl ?_
  refine p_bipush (k := 4) 12 rfl (by decide) ?_
  refine p_irem (k := 5) rfl (by decide) ?_
  refine p_iconst (k := 6) 0 rfl (by decide) ?_
  refine s_wr h (k := 7) rfl (lay_c0 hb) (fun S2 h => ?_)
  refine p_aload_n (k := 8) (i := 0) rfl rfl rfl ?_
  obtain ⟨v2, S3, hcS3, h⟩ := cl_some h
  refine p_callV (k := 9) [] [] rfl (tX0_draw hb hcS3) (lay_c hb) rfl lc_X0_draw ml_RX0_119 mi_X0_draw mv_X0_draw (by decide) (by decide) (Nat.le_of_ble_eq_true rfl) rfl ?_
  refine p_bipush (k := 10) 8 rfl (by decide) ?_
  refine p_irem (k := 11) rfl (by decide) ?_
  refine s_bnd h (fun v3 h => ?_)
  refine p_istore_n (k := 12) 1 [some (.ref b), some (.int v3)] rfl rfl rfl (by decide) rfl ?_
  refine p_iload_n (k := 13) (i := 1) rfl rfl rfl ?_
  refine p_aload_n (k := 14) (i := 0) rfl rfl rfl ?_
  refine p_geti (k := 15) rfl (lay_c hb) rfl fl_RX0_52 ?_
  refine p_icmp_ge (k := 16) 36 rfl (by decide) (fun hc => ?_) (fun hc => ?_)
  · rw [if_pos hc] at h
    refine p_msk [false, false] (L2 := [none, none]) rfl ?_
    exact sX0_slip_L36 hb h
  · rw [if_neg hc] at h
    refine p_aload_n (k := 17) (i := 0) rfl rfl rfl ?_
    refine p_getr (k := 18) rfl (lay_c hb) rfl fl_RX0_18 ?_
    refine p_iload_n (k := 19) (i := 1) rfl rfl rfl ?_
    refine p_iconst (k := 20) 0 rfl (by decide) ?_
    refine s_wr h (k := 21) rfl (lay_c2 hb) (fun S4 h => ?_)
    refine p_msk [false, false] (L2 := [none, none]) rfl ?_
    exact sX0_slip_L36 hb h
theorem tX0_slip {b : Nat} (hb : isC b) {S : St} {r : Unit} {S9 : St} (h : fX0_slip b S = some (r, S9)) : MR yX0_slip cX0_slip mX0_slip [.ref b] S (none, S9) := MR.of (n := 1) okX0_slip rfl rfl (sX0_slip hb h)
-- goatsOn(I)I
def fX0_goatsOn_L36 (b : Nat) (k4 : Int32 → Int32 → Int32 → St → Option (Int32 × St)) (x1 : Int32) (x2 : Int32) (x3 : Int32) (S : St) : Option (Int32 × St) :=
  bnd (x3 + 1) fun v1 =>
  k4 x1 x2 v1 S
theorem sX0_goatsOn_L36 {b : Nat} (hb : isC b) {r : Int32} {S9 : St} {k4 : Int32 → Int32 → Int32 → St → Option (Int32 × St)} (hk4 : ∀ x1 x2 x3 S, k4 x1 x2 x3 S = some (r, S9) → PW mX0_goatsOn (some (.int r), S9) 4 [some (.ref b), some (.int x1), some (.int x2), some (.int x3)] [] S) {x1 : Int32} {x2 : Int32} {x3 : Int32} {S : St} (h : fX0_goatsOn_L36 b k4 x1 x2 x3 S = some (r, S9)) : PW mX0_goatsOn (some (.int r), S9) 36 [some (.ref b), some (.int x1), some (.int x2), some (.int x3)] [] S := by
  unfold fX0_goatsOn_L36 at h
  obtain ⟨v1, ev1, h⟩ := bnd_ex h
  refine p_iinc (k := 24) v1 [some (.ref b), some (.int x1), some (.int x2), some (.int v1)] rfl rfl (by rw [← ev1]; rfl) rfl (by decide) rfl ?_
  refine p_goto (k := 25) 4 rfl (by decide) ?_
  refine p_msk [true, true, true, true] (L2 := [some (.ref b), some (.int x1), some (.int x2), some (.int v1)]) rfl ?_
  exact hk4 _ _ _ _ h
def fX0_goatsOn_L4 (b : Nat) : Nat → Int32 → Int32 → Int32 → St → Option (Int32 × St)
  | 0 => fun _ _ _ _ => none
  | n + 1 => fun x1 x2 x3 S =>
    if (S b 8) ≤ x3 then
      some (x2, S)
    else
      cl (fX0_isHere b x3 S) fun v1 S1 =>
      if v1 = 0 then
        fX0_goatsOn_L36 b (fun x1 x2 x3 S => fX0_goatsOn_L4 b n x1 x2 x3 S) x1 x2 x3 S1
      else
        rd S1 (b + 3) 8 x3 fun v2 =>
        if v2 = x1 then
          bnd (x2 ||| (1 <<< (x3 &&& 31))) fun v3 =>
          fX0_goatsOn_L36 b (fun x1 x2 x3 S => fX0_goatsOn_L4 b n x1 x2 x3 S) x1 v3 x3 S1
        else
          fX0_goatsOn_L36 b (fun x1 x2 x3 S => fX0_goatsOn_L4 b n x1 x2 x3 S) x1 x2 x3 S1
theorem sX0_goatsOn_L4 {b : Nat} (hb : isC b) {r : Int32} {S9 : St} : ∀ (n : Nat) (x1 : Int32) (x2 : Int32) (x3 : Int32) (S : St), fX0_goatsOn_L4 b n x1 x2 x3 S = some (r, S9) → PW mX0_goatsOn (some (.int r), S9) 4 [some (.ref b), some (.int x1), some (.int x2), some (.int x3)] [] S := by
  intro n
  induction n with
  | zero => intro x1 x2 x3 S h; cases h
  | succ n ih =>
    intro x1 x2 x3 S h
    unfold fX0_goatsOn_L4 at h
    refine p_iload_n (k := 4) (i := 3) rfl rfl rfl ?_
    refine p_aload_n (k := 5) (i := 0) rfl rfl rfl ?_
    refine p_geti (k := 6) rfl (lay_c hb) rfl fl_RX0_52 ?_
    refine p_icmp_ge (k := 7) 42 rfl (by decide) (fun hc => ?_) (fun hc => ?_)
    · rw [if_pos hc] at h
      refine p_iload_n (k := 26) (i := 2) rfl rfl rfl ?_
      exact s_iret h (k := 27) rfl rfl
    · rw [if_neg hc] at h
      refine p_aload_n (k := 8) (i := 0) rfl rfl rfl ?_
      refine p_iload_n (k := 9) (i := 3) rfl rfl rfl ?_
      obtain ⟨v1, S1, hcS1, h⟩ := cl_some h
      refine p_callV (k := 10) [.int x3] [] rfl (tX0_isHere hb hcS1) (lay_c hb) rfl lc_X0_isHere ml_RX0_88 mi_X0_isHere mv_X0_isHere (by decide) (by decide) (Nat.le_of_ble_eq_true rfl) rfl ?_
      refine p_if_eq (k := 11) 36 rfl (by decide) (fun hc => ?_) (fun hc => ?_)
      · rw [if_pos hc] at h
        refine p_msk [true, true, true, true] (L2 := [some (.ref b), some (.int x1), some (.int x2), some (.int x3)]) rfl ?_
        exact sX0_goatsOn_L36 hb ih h
      · rw [if_neg hc] at h
        refine p_aload_n (k := 12) (i := 0) rfl rfl rfl ?_
        refine p_getr (k := 13) rfl (lay_c hb) rfl fl_RX0_18 ?_
        refine p_iload_n (k := 14) (i := 3) rfl rfl rfl ?_
        refine s_rd h (k := 15) rfl (lay_c2 hb) (fun v2 h => ?_)
        refine p_iload_n (k := 16) (i := 1) rfl rfl rfl ?_
        refine p_icmp_ne (k := 17) 36 rfl (by decide) (fun hc => ?_) (fun hc => ?_)
        · rw [if_neg hc] at h
          refine p_msk [true, true, true, true] (L2 := [some (.ref b), some (.int x1), some (.int x2), some (.int x3)]) rfl ?_
          exact sX0_goatsOn_L36 hb ih h
        · rw [if_pos hc] at h
          refine p_iload_n (k := 18) (i := 2) rfl rfl rfl ?_
          refine p_iconst (k := 19) 1 rfl (by decide) ?_
          refine p_iload_n (k := 20) (i := 3) rfl rfl rfl ?_
          refine p_ishl (k := 21) rfl ?_
          refine p_ior (k := 22) rfl ?_
          refine s_bnd h (fun v3 h => ?_)
          refine p_istore_n (k := 23) 2 [some (.ref b), some (.int x1), some (.int v3), some (.int x3)] rfl rfl rfl (by decide) rfl ?_
          refine p_msk [true, true, true, true] (L2 := [some (.ref b), some (.int x1), some (.int v3), some (.int x3)]) rfl ?_
          exact sX0_goatsOn_L36 hb ih h
def fX0_goatsOn (b : Nat) (a1 : Int32) (S : St) : Option (Int32 × St) :=
  fX0_goatsOn_L4 b FU a1 0 0 S
theorem sX0_goatsOn {b : Nat} {a1 : Int32} (hb : isC b) {S : St} {r : Int32} {S9 : St} (h : fX0_goatsOn b a1 S = some (r, S9)) : PW mX0_goatsOn (some (.int r), S9) 0 [some (.ref b), some (.int a1), none, none] [] S := by
  unfold fX0_goatsOn at h
  refine p_iconst (k := 0) 0 rfl (by decide) ?_
  refine p_istore_n (k := 1) 2 [some (.ref b), some (.int a1), some (.int 0), none] rfl rfl rfl (by decide) rfl ?_
  refine p_iconst (k := 2) 0 rfl (by decide) ?_
  refine p_istore_n (k := 3) 3 [some (.ref b), some (.int a1), some (.int 0), some (.int 0)] rfl rfl rfl (by decide) rfl ?_
  refine p_msk [true, true, true, true] (L2 := [some (.ref b), some (.int a1), some (.int 0), some (.int 0)]) rfl ?_
  exact sX0_goatsOn_L4 hb _ _ _ _ _ h
theorem tX0_goatsOn {b : Nat} {a1 : Int32} (hb : isC b) {S : St} {r : Int32} {S9 : St} (h : fX0_goatsOn b a1 S = some (r, S9)) : MR yX0_goatsOn cX0_goatsOn mX0_goatsOn [.ref b, .int a1] S (some (.int r), S9) := MR.of (n := 2) okX0_goatsOn rfl rfl (sX0_goatsOn hb h)
-- goatsKnowing(I)I
def fX0_goatsKnowing_L39 (b : Nat) (k4 : Int32 → Int32 → Int32 → St → Option (Int32 × St)) (x1 : Int32) (x2 : Int32) (x3 : Int32) (S : St) : Option (Int32 × St) :=
  bnd (x3 + 1) fun v1 =>
  k4 x1 x2 v1 S
theorem sX0_goatsKnowing_L39 {b : Nat} (hb : isC b) {r : Int32} {S9 : St} {k4 : Int32 → Int32 → Int32 → St → Option (Int32 × St)} (hk4 : ∀ x1 x2 x3 S, k4 x1 x2 x3 S = some (r, S9) → PW mX0_goatsKnowing (some (.int r), S9) 4 [some (.ref b), some (.int x1), some (.int x2), some (.int x3)] [] S) {x1 : Int32} {x2 : Int32} {x3 : Int32} {S : St} (h : fX0_goatsKnowing_L39 b k4 x1 x2 x3 S = some (r, S9)) : PW mX0_goatsKnowing (some (.int r), S9) 39 [some (.ref b), some (.int x1), some (.int x2), some (.int x3)] [] S := by
  unfold fX0_goatsKnowing_L39 at h
  obtain ⟨v1, ev1, h⟩ := bnd_ex h
  refine p_iinc (k := 25) v1 [some (.ref b), some (.int x1), some (.int x2), some (.int v1)] rfl rfl (by rw [← ev1]; rfl) rfl (by decide) rfl ?_
  refine p_goto (k := 26) 4 rfl (by decide) ?_
  refine p_msk [true, true, true, true] (L2 := [some (.ref b), some (.int x1), some (.int x2), some (.int v1)]) rfl ?_
  exact hk4 _ _ _ _ h
def fX0_goatsKnowing_L4 (b : Nat) : Nat → Int32 → Int32 → Int32 → St → Option (Int32 × St)
  | 0 => fun _ _ _ _ => none
  | n + 1 => fun x1 x2 x3 S =>
    if (S b 8) ≤ x3 then
      some (x2, S)
    else
      cl (fX0_isHere b x3 S) fun v1 S1 =>
      if v1 = 0 then
        fX0_goatsKnowing_L39 b (fun x1 x2 x3 S => fX0_goatsKnowing_L4 b n x1 x2 x3 S) x1 x2 x3 S1
      else
        rd S1 (b + 4) 8 x3 fun v2 =>
        cl (fX4_hasBit v2 x1 S1) fun v3 S2 =>
        if v3 = 0 then
          fX0_goatsKnowing_L39 b (fun x1 x2 x3 S => fX0_goatsKnowing_L4 b n x1 x2 x3 S) x1 x2 x3 S2
        else
          bnd (x2 ||| (1 <<< (x3 &&& 31))) fun v4 =>
          fX0_goatsKnowing_L39 b (fun x1 x2 x3 S => fX0_goatsKnowing_L4 b n x1 x2 x3 S) x1 v4 x3 S2
theorem sX0_goatsKnowing_L4 {b : Nat} (hb : isC b) {r : Int32} {S9 : St} : ∀ (n : Nat) (x1 : Int32) (x2 : Int32) (x3 : Int32) (S : St), fX0_goatsKnowing_L4 b n x1 x2 x3 S = some (r, S9) → PW mX0_goatsKnowing (some (.int r), S9) 4 [some (.ref b), some (.int x1), some (.int x2), some (.int x3)] [] S := by
  intro n
  induction n with
  | zero => intro x1 x2 x3 S h; cases h
  | succ n ih =>
    intro x1 x2 x3 S h
    unfold fX0_goatsKnowing_L4 at h
    refine p_iload_n (k := 4) (i := 3) rfl rfl rfl ?_
    refine p_aload_n (k := 5) (i := 0) rfl rfl rfl ?_
    refine p_geti (k := 6) rfl (lay_c hb) rfl fl_RX0_52 ?_
    refine p_icmp_ge (k := 7) 45 rfl (by decide) (fun hc => ?_) (fun hc => ?_)
    · rw [if_pos hc] at h
      refine p_iload_n (k := 27) (i := 2) rfl rfl rfl ?_
      exact s_iret h (k := 28) rfl rfl
    · rw [if_neg hc] at h
      refine p_aload_n (k := 8) (i := 0) rfl rfl rfl ?_
      refine p_iload_n (k := 9) (i := 3) rfl rfl rfl ?_
      obtain ⟨v1, S1, hcS1, h⟩ := cl_some h
      refine p_callV (k := 10) [.int x3] [] rfl (tX0_isHere hb hcS1) (lay_c hb) rfl lc_X0_isHere ml_RX0_88 mi_X0_isHere mv_X0_isHere (by decide) (by decide) (Nat.le_of_ble_eq_true rfl) rfl ?_
      refine p_if_eq (k := 11) 39 rfl (by decide) (fun hc => ?_) (fun hc => ?_)
      · rw [if_pos hc] at h
        refine p_msk [true, true, true, true] (L2 := [some (.ref b), some (.int x1), some (.int x2), some (.int x3)]) rfl ?_
        exact sX0_goatsKnowing_L39 hb ih h
      · rw [if_neg hc] at h
        refine p_aload_n (k := 12) (i := 0) rfl rfl rfl ?_
        refine p_getr (k := 13) rfl (lay_c hb) rfl fl_RX0_21 ?_
        refine p_iload_n (k := 14) (i := 3) rfl rfl rfl ?_
        refine s_rd h (k := 15) rfl (lay_c3 hb) (fun v2 h => ?_)
        refine p_iload_n (k := 16) (i := 1) rfl rfl rfl ?_
        obtain ⟨v3, S2, hcS2, h⟩ := cl_some h
        refine p_callSN (k := 17) [.int v2, .int x1] [] rfl (tX4_hasBit hcS2) lc_X4_hasBit ml_RX0_115 ms_X4_hasBit (by decide) (by decide) (Nat.le_of_ble_eq_true rfl) rfl ?_
        refine p_if_eq (k := 18) 39 rfl (by decide) (fun hc => ?_) (fun hc => ?_)
        · rw [if_pos hc] at h
          refine p_msk [true, true, true, true] (L2 := [some (.ref b), some (.int x1), some (.int x2), some (.int x3)]) rfl ?_
          exact sX0_goatsKnowing_L39 hb ih h
        · rw [if_neg hc] at h
          refine p_iload_n (k := 19) (i := 2) rfl rfl rfl ?_
          refine p_iconst (k := 20) 1 rfl (by decide) ?_
          refine p_iload_n (k := 21) (i := 3) rfl rfl rfl ?_
          refine p_ishl (k := 22) rfl ?_
          refine p_ior (k := 23) rfl ?_
          refine s_bnd h (fun v4 h => ?_)
          refine p_istore_n (k := 24) 2 [some (.ref b), some (.int x1), some (.int v4), some (.int x3)] rfl rfl rfl (by decide) rfl ?_
          refine p_msk [true, true, true, true] (L2 := [some (.ref b), some (.int x1), some (.int v4), some (.int x3)]) rfl ?_
          exact sX0_goatsKnowing_L39 hb ih h
def fX0_goatsKnowing (b : Nat) (a1 : Int32) (S : St) : Option (Int32 × St) :=
  fX0_goatsKnowing_L4 b FU a1 0 0 S
theorem sX0_goatsKnowing {b : Nat} {a1 : Int32} (hb : isC b) {S : St} {r : Int32} {S9 : St} (h : fX0_goatsKnowing b a1 S = some (r, S9)) : PW mX0_goatsKnowing (some (.int r), S9) 0 [some (.ref b), some (.int a1), none, none] [] S := by
  unfold fX0_goatsKnowing at h
  refine p_iconst (k := 0) 0 rfl (by decide) ?_
  refine p_istore_n (k := 1) 2 [some (.ref b), some (.int a1), some (.int 0), none] rfl rfl rfl (by decide) rfl ?_
  refine p_iconst (k := 2) 0 rfl (by decide) ?_
  refine p_istore_n (k := 3) 3 [some (.ref b), some (.int a1), some (.int 0), some (.int 0)] rfl rfl rfl (by decide) rfl ?_
  refine p_msk [true, true, true, true] (L2 := [some (.ref b), some (.int a1), some (.int 0), some (.int 0)]) rfl ?_
  exact sX0_goatsKnowing_L4 hb _ _ _ _ _ h
theorem tX0_goatsKnowing {b : Nat} {a1 : Int32} (hb : isC b) {S : St} {r : Int32} {S9 : St} (h : fX0_goatsKnowing b a1 S = some (r, S9)) : MR yX0_goatsKnowing cX0_goatsKnowing mX0_goatsKnowing [.ref b, .int a1] S (some (.int r), S9) := MR.of (n := 2) okX0_goatsKnowing rfl rfl (sX0_goatsKnowing hb h)
-- pagesOf(I)I
def fX0_pagesOf_L29 (b : Nat) (k4 : Int32 → Int32 → Int32 → St → Option (Int32 × St)) (x1 : Int32) (x2 : Int32) (x3 : Int32) (S : St) : Option (Int32 × St) :=
  bnd (x3 + 1) fun v1 =>
  k4 x1 x2 v1 S
theorem sX0_pagesOf_L29 {b : Nat} (hb : isC b) {r : Int32} {S9 : St} {k4 : Int32 → Int32 → Int32 → St → Option (Int32 × St)} (hk4 : ∀ x1 x2 x3 S, k4 x1 x2 x3 S = some (r, S9) → PW mX0_pagesOf (some (.int r), S9) 4 [some (.ref b), some (.int x1), some (.int x2), some (.int x3)] [] S) {x1 : Int32} {x2 : Int32} {x3 : Int32} {S : St} (h : fX0_pagesOf_L29 b k4 x1 x2 x3 S = some (r, S9)) : PW mX0_pagesOf (some (.int r), S9) 29 [some (.ref b), some (.int x1), some (.int x2), some (.int x3)] [] S := by
  unfold fX0_pagesOf_L29 at h
  obtain ⟨v1, ev1, h⟩ := bnd_ex h
  refine p_iinc (k := 19) v1 [some (.ref b), some (.int x1), some (.int x2), some (.int v1)] rfl rfl (by rw [← ev1]; rfl) rfl (by decide) rfl ?_
  refine p_goto (k := 20) 4 rfl (by decide) ?_
  refine p_msk [true, true, true, true] (L2 := [some (.ref b), some (.int x1), some (.int x2), some (.int v1)]) rfl ?_
  exact hk4 _ _ _ _ h
def fX0_pagesOf_L4 (b : Nat) : Nat → Int32 → Int32 → Int32 → St → Option (Int32 × St)
  | 0 => fun _ _ _ _ => none
  | n + 1 => fun x1 x2 x3 S =>
    if (S b 8) ≤ x3 then
      some (x2, S)
    else
      cl (fX4_hasBit x1 x3 S) fun v1 S1 =>
      if v1 = 0 then
        fX0_pagesOf_L29 b (fun x1 x2 x3 S => fX0_pagesOf_L4 b n x1 x2 x3 S) x1 x2 x3 S1
      else
        rd S1 (b + 4) 8 x3 fun v2 =>
        bnd (x2 ||| v2) fun v3 =>
        fX0_pagesOf_L29 b (fun x1 x2 x3 S => fX0_pagesOf_L4 b n x1 x2 x3 S) x1 v3 x3 S1
theorem sX0_pagesOf_L4 {b : Nat} (hb : isC b) {r : Int32} {S9 : St} : ∀ (n : Nat) (x1 : Int32) (x2 : Int32) (x3 : Int32) (S : St), fX0_pagesOf_L4 b n x1 x2 x3 S = some (r, S9) → PW mX0_pagesOf (some (.int r), S9) 4 [some (.ref b), some (.int x1), some (.int x2), some (.int x3)] [] S := by
  intro n
  induction n with
  | zero => intro x1 x2 x3 S h; cases h
  | succ n ih =>
    intro x1 x2 x3 S h
    unfold fX0_pagesOf_L4 at h
    refine p_iload_n (k := 4) (i := 3) rfl rfl rfl ?_
    refine p_aload_n (k := 5) (i := 0) rfl rfl rfl ?_
    refine p_geti (k := 6) rfl (lay_c hb) rfl fl_RX0_52 ?_
    refine p_icmp_ge (k := 7) 35 rfl (by decide) (fun hc => ?_) (fun hc => ?_)
    · rw [if_pos hc] at h
      refine p_iload_n (k := 21) (i := 2) rfl rfl rfl ?_
      exact s_iret h (k := 22) rfl rfl
    · rw [if_neg hc] at h
      refine p_iload_n (k := 8) (i := 1) rfl rfl rfl ?_
      refine p_iload_n (k := 9) (i := 3) rfl rfl rfl ?_
      obtain ⟨v1, S1, hcS1, h⟩ := cl_some h
      refine p_callSN (k := 10) [.int x1, .int x3] [] rfl (tX4_hasBit hcS1) lc_X4_hasBit ml_RX0_115 ms_X4_hasBit (by decide) (by decide) (Nat.le_of_ble_eq_true rfl) rfl ?_
      refine p_if_eq (k := 11) 29 rfl (by decide) (fun hc => ?_) (fun hc => ?_)
      · rw [if_pos hc] at h
        refine p_msk [true, true, true, true] (L2 := [some (.ref b), some (.int x1), some (.int x2), some (.int x3)]) rfl ?_
        exact sX0_pagesOf_L29 hb ih h
      · rw [if_neg hc] at h
        refine p_iload_n (k := 12) (i := 2) rfl rfl rfl ?_
        refine p_aload_n (k := 13) (i := 0) rfl rfl rfl ?_
        refine p_getr (k := 14) rfl (lay_c hb) rfl fl_RX0_21 ?_
        refine p_iload_n (k := 15) (i := 3) rfl rfl rfl ?_
        refine s_rd h (k := 16) rfl (lay_c3 hb) (fun v2 h => ?_)
        refine p_ior (k := 17) rfl ?_
        refine s_bnd h (fun v3 h => ?_)
        refine p_istore_n (k := 18) 2 [some (.ref b), some (.int x1), some (.int v3), some (.int x3)] rfl rfl rfl (by decide) rfl ?_
        refine p_msk [true, true, true, true] (L2 := [some (.ref b), some (.int x1), some (.int v3), some (.int x3)]) rfl ?_
        exact sX0_pagesOf_L29 hb ih h
def fX0_pagesOf (b : Nat) (a1 : Int32) (S : St) : Option (Int32 × St) :=
  fX0_pagesOf_L4 b FU a1 0 0 S
theorem sX0_pagesOf {b : Nat} {a1 : Int32} (hb : isC b) {S : St} {r : Int32} {S9 : St} (h : fX0_pagesOf b a1 S = some (r, S9)) : PW mX0_pagesOf (some (.int r), S9) 0 [some (.ref b), some (.int a1), none, none] [] S := by
  unfold fX0_pagesOf at h
  refine p_iconst (k := 0) 0 rfl (by decide) ?_
  refine p_istore_n (k := 1) 2 [some (.ref b), some (.int a1), some (.int 0), none] rfl rfl rfl (by decide) rfl ?_
  refine p_iconst (k := 2) 0 rfl (by decide) ?_
  refine p_istore_n (k := 3) 3 [some (.ref b), some (.int a1), some (.int 0), some (.int 0)] rfl rfl rfl (by decide) rfl ?_
  refine p_msk [true, true, true, true] (L2 := [some (.ref b), some (.int a1), some (.int 0), some (.int 0)]) rfl ?_
  exact sX0_pagesOf_L4 hb _ _ _ _ _ h
theorem tX0_pagesOf {b : Nat} {a1 : Int32} (hb : isC b) {S : St} {r : Int32} {S9 : St} (h : fX0_pagesOf b a1 S = some (r, S9)) : MR yX0_pagesOf cX0_pagesOf mX0_pagesOf [.ref b, .int a1] S (some (.int r), S9) := MR.of (n := 2) okX0_pagesOf rfl rfl (sX0_pagesOf hb h)
-- pagesKnown()I
def fX0_pagesKnown (b : Nat) (S : St) : Option (Int32 × St) :=
  cl (fX0_pagesOf b ((S b 9) ^^^ (-1)) S) fun v1 S1 =>
  some (v1, S1)
theorem sX0_pagesKnown {b : Nat} (hb : isC b) {S : St} {r : Int32} {S9 : St} (h : fX0_pagesKnown b S = some (r, S9)) : PW mX0_pagesKnown (some (.int r), S9) 0 [some (.ref b)] [] S := by
  unfold fX0_pagesKnown at h
  refine p_aload_n (k := 0) (i := 0) rfl rfl rfl ?_
  refine p_aload_n (k := 1) (i := 0) rfl rfl rfl ?_
  refine p_geti (k := 2) rfl (lay_c hb) rfl fl_RX0_55 ?_
  refine p_iconst (k := 3) (-1) rfl (by decide) ?_
  refine p_ixor (k := 4) rfl ?_
  obtain ⟨v1, S1, hcS1, h⟩ := cl_some h
  refine p_callV (k := 5) [.int ((S b 9) ^^^ (-1))] [] rfl (tX0_pagesOf hb hcS1) (lay_c hb) rfl lc_X0_pagesOf ml_RX0_124 mi_X0_pagesOf mv_X0_pagesOf (by decide) (by decide) (Nat.le_of_ble_eq_true rfl) rfl ?_
  exact s_iret h (k := 6) rfl rfl
theorem tX0_pagesKnown {b : Nat} (hb : isC b) {S : St} {r : Int32} {S9 : St} (h : fX0_pagesKnown b S = some (r, S9)) : MR yX0_pagesKnown cX0_pagesKnown mX0_pagesKnown [.ref b] S (some (.int r), S9) := MR.of (n := 0) okX0_pagesKnown rfl rfl (sX0_pagesKnown hb h)
-- isInPrint(I)Z
def fX0_isInPrint (b : Nat) (a1 : Int32) (S : St) : Option (Int32 × St) :=
  cl (fX0_pagesKnown b S) fun v1 S1 =>
  cl (fX4_hasBit v1 a1 S1) fun v2 S2 =>
  retN .boolean v2 S2
theorem sX0_isInPrint {b : Nat} {a1 : Int32} (hb : isC b) {S : St} {r : Int32} {S9 : St} (h : fX0_isInPrint b a1 S = some (r, S9)) : PW mX0_isInPrint (some (.int r), S9) 0 [some (.ref b), some (.int a1)] [] S := by
  unfold fX0_isInPrint at h
  refine p_aload_n (k := 0) (i := 0) rfl rfl rfl ?_
  obtain ⟨v1, S1, hcS1, h⟩ := cl_some h
  refine p_callV (k := 1) [] [] rfl (tX0_pagesKnown hb hcS1) (lay_c hb) rfl lc_X0_pagesKnown ml_RX0_127 mi_X0_pagesKnown mv_X0_pagesKnown (by decide) (by decide) (Nat.le_of_ble_eq_true rfl) rfl ?_
  refine p_iload_n (k := 2) (i := 1) rfl rfl rfl ?_
  obtain ⟨v2, S2, hcS2, h⟩ := cl_some h
  refine p_callSN (k := 3) [.int v1, .int a1] [] rfl (tX4_hasBit hcS2) lc_X4_hasBit ml_RX0_115 ms_X4_hasBit (by decide) (by decide) (Nat.le_of_ble_eq_true rfl) rfl ?_
  exact s_zret h (k := 4) rfl rfl
theorem tX0_isInPrint {b : Nat} {a1 : Int32} (hb : isC b) {S : St} {r : Int32} {S9 : St} (h : fX0_isInPrint b a1 S = some (r, S9)) : MR yX0_isInPrint cX0_isInPrint mX0_isInPrint [.ref b, .int a1] S (some (.int r), S9) := MR.of (n := 0) okX0_isInPrint rfl rfl (sX0_isInPrint hb h)
-- cheapestQuoting(I)I
def fX0_cheapestQuoting_L43 (b : Nat) (k4 : Int32 → Int32 → Int32 → St → Option (Int32 × St)) (x1 : Int32) (x2 : Int32) (x3 : Int32) (S : St) : Option (Int32 × St) :=
  bnd (x3 + 1) fun v1 =>
  k4 x1 x2 v1 S
theorem sX0_cheapestQuoting_L43 {b : Nat} (hb : isC b) {r : Int32} {S9 : St} {k4 : Int32 → Int32 → Int32 → St → Option (Int32 × St)} (hk4 : ∀ x1 x2 x3 S, k4 x1 x2 x3 S = some (r, S9) → PW mX0_cheapestQuoting (some (.int r), S9) 4 [some (.ref b), some (.int x1), some (.int x2), some (.int x3)] [] S) {x1 : Int32} {x2 : Int32} {x3 : Int32} {S : St} (h : fX0_cheapestQuoting_L43 b k4 x1 x2 x3 S = some (r, S9)) : PW mX0_cheapestQuoting (some (.int r), S9) 43 [some (.ref b), some (.int x1), some (.int x2), some (.int x3)] [] S := by
  unfold fX0_cheapestQuoting_L43 at h
  obtain ⟨v1, ev1, h⟩ := bnd_ex h
  refine p_iinc (k := 25) v1 [some (.ref b), some (.int x1), some (.int x2), some (.int v1)] rfl rfl (by rw [← ev1]; rfl) rfl (by decide) rfl ?_
  refine p_goto (k := 26) 4 rfl (by decide) ?_
  refine p_msk [true, true, true, true] (L2 := [some (.ref b), some (.int x1), some (.int x2), some (.int v1)]) rfl ?_
  exact hk4 _ _ _ _ h
def fX0_cheapestQuoting_L41 (b : Nat) (k4 : Int32 → Int32 → Int32 → St → Option (Int32 × St)) (x1 : Int32) (x3 : Int32) (S : St) : Option (Int32 × St) :=
  fX0_cheapestQuoting_L43 b k4 x1 x3 x3 S
theorem sX0_cheapestQuoting_L41 {b : Nat} (hb : isC b) {r : Int32} {S9 : St} {k4 : Int32 → Int32 → Int32 → St → Option (Int32 × St)} (hk4 : ∀ x1 x2 x3 S, k4 x1 x2 x3 S = some (r, S9) → PW mX0_cheapestQuoting (some (.int r), S9) 4 [some (.ref b), some (.int x1), some (.int x2), some (.int x3)] [] S) {x1 : Int32} {x3 : Int32} {S : St} (h : fX0_cheapestQuoting_L41 b k4 x1 x3 S = some (r, S9)) : PW mX0_cheapestQuoting (some (.int r), S9) 41 [some (.ref b), some (.int x1), none, some (.int x3)] [] S := by
  unfold fX0_cheapestQuoting_L41 at h
  refine p_iload_n (k := 23) (i := 3) rfl rfl rfl ?_
  refine p_istore_n (k := 24) 2 [some (.ref b), some (.int x1), some (.int x3), some (.int x3)] rfl rfl rfl (by decide) rfl ?_
  refine p_msk [true, true, true, true] (L2 := [some (.ref b), some (.int x1), some (.int x3), some (.int x3)]) rfl ?_
  exact sX0_cheapestQuoting_L43 hb hk4 h
def fX0_cheapestQuoting_L4 (b : Nat) : Nat → Int32 → Int32 → Int32 → St → Option (Int32 × St)
  | 0 => fun _ _ _ _ => none
  | n + 1 => fun x1 x2 x3 S =>
    if (S b 8) ≤ x3 then
      some (x2, S)
    else
      cl (fX0_quotes b x3 S) fun v1 S1 =>
      cl (fX4_hasBit v1 x1 S1) fun v2 S2 =>
      if v2 = 0 then
        fX0_cheapestQuoting_L43 b (fun x1 x2 x3 S => fX0_cheapestQuoting_L4 b n x1 x2 x3 S) x1 x2 x3 S2
      else
        if x2 < 0 then
          fX0_cheapestQuoting_L41 b (fun x1 x2 x3 S => fX0_cheapestQuoting_L4 b n x1 x2 x3 S) x1 x3 S2
        else
          cl (fX0_costs b x3 S2) fun v3 S3 =>
          cl (fX0_costs b x2 S3) fun v4 S4 =>
          if v4 ≤ v3 then
            fX0_cheapestQuoting_L43 b (fun x1 x2 x3 S => fX0_cheapestQuoting_L4 b n x1 x2 x3 S) x1 x2 x3 S4
          else
            fX0_cheapestQuoting_L41 b (fun x1 x2 x3 S => fX0_cheapestQuoting_L4 b n x1 x2 x3 S) x1 x3 S4
theorem sX0_cheapestQuoting_L4 {b : Nat} (hb : isC b) {r : Int32} {S9 : St} : ∀ (n : Nat) (x1 : Int32) (x2 : Int32) (x3 : Int32) (S : St), fX0_cheapestQuoting_L4 b n x1 x2 x3 S = some (r, S9) → PW mX0_cheapestQuoting (some (.int r), S9) 4 [some (.ref b), some (.int x1), some (.int x2), some (.int x3)] [] S := by
  intro n
  induction n with
  | zero => intro x1 x2 x3 S h; cases h
  | succ n ih =>
    intro x1 x2 x3 S h
    unfold fX0_cheapestQuoting_L4 at h
    refine p_iload_n (k := 4) (i := 3) rfl rfl rfl ?_
    refine p_aload_n (k := 5) (i := 0) rfl rfl rfl ?_
    refine p_geti (k := 6) rfl (lay_c hb) rfl fl_RX0_52 ?_
    refine p_icmp_ge (k := 7) 49 rfl (by decide) (fun hc => ?_) (fun hc => ?_)
    · rw [if_pos hc] at h
      refine p_iload_n (k := 27) (i := 2) rfl rfl rfl ?_
      exact s_iret h (k := 28) rfl rfl
    · rw [if_neg hc] at h
      refine p_aload_n (k := 8) (i := 0) rfl rfl rfl ?_
      refine p_iload_n (k := 9) (i := 3) rfl rfl rfl ?_
      obtain ⟨v1, S1, hcS1, h⟩ := cl_some h
      refine p_callV (k := 10) [.int x3] [] rfl (tX0_quotes hb hcS1) (lay_c hb) rfl lc_X0_quotes ml_RX0_130 mi_X0_quotes mv_X0_quotes (by decide) (by decide) (Nat.le_of_ble_eq_true rfl) rfl ?_
      refine p_iload_n (k := 11) (i := 1) rfl rfl rfl ?_
      obtain ⟨v2, S2, hcS2, h⟩ := cl_some h
      refine p_callSN (k := 12) [.int v1, .int x1] [] rfl (tX4_hasBit hcS2) lc_X4_hasBit ml_RX0_115 ms_X4_hasBit (by decide) (by decide) (Nat.le_of_ble_eq_true rfl) rfl ?_
      refine p_if_eq (k := 13) 43 rfl (by decide) (fun hc => ?_) (fun hc => ?_)
      · rw [if_pos hc] at h
        refine p_msk [true, true, true, true] (L2 := [some (.ref b), some (.int x1), some (.int x2), some (.int x3)]) rfl ?_
        exact sX0_cheapestQuoting_L43 hb ih h
      · rw [if_neg hc] at h
        refine p_iload_n (k := 14) (i := 2) rfl rfl rfl ?_
        refine p_if_lt (k := 15) 41 rfl (by decide) (fun hc => ?_) (fun hc => ?_)
        · rw [if_pos hc] at h
          refine p_msk [true, true, false, true] (L2 := [some (.ref b), some (.int x1), none, some (.int x3)]) rfl ?_
          exact sX0_cheapestQuoting_L41 hb ih h
        · rw [if_neg hc] at h
          refine p_aload_n (k := 16) (i := 0) rfl rfl rfl ?_
          refine p_iload_n (k := 17) (i := 3) rfl rfl rfl ?_
          obtain ⟨v3, S3, hcS3, h⟩ := cl_some h
          refine p_callV (k := 18) [.int x3] [] rfl (tX0_costs hb hcS3) (lay_c hb) rfl lc_X0_costs ml_RX0_133 mi_X0_costs mv_X0_costs (by decide) (by decide) (Nat.le_of_ble_eq_true rfl) rfl ?_
          refine p_aload_n (k := 19) (i := 0) rfl rfl rfl ?_
          refine p_iload_n (k := 20) (i := 2) rfl rfl rfl ?_
          obtain ⟨v4, S4, hcS4, h⟩ := cl_some h
          refine p_callV (k := 21) [.int x2] [.int v3] rfl (tX0_costs hb hcS4) (lay_c hb) rfl lc_X0_costs ml_RX0_133 mi_X0_costs mv_X0_costs (by decide) (by decide) (Nat.le_of_ble_eq_true rfl) rfl ?_
          refine p_icmp_ge (k := 22) 43 rfl (by decide) (fun hc => ?_) (fun hc => ?_)
          · rw [if_pos hc] at h
            refine p_msk [true, true, true, true] (L2 := [some (.ref b), some (.int x1), some (.int x2), some (.int x3)]) rfl ?_
            exact sX0_cheapestQuoting_L43 hb ih h
          · rw [if_neg hc] at h
            refine p_msk [true, true, false, true] (L2 := [some (.ref b), some (.int x1), none, some (.int x3)]) rfl ?_
            exact sX0_cheapestQuoting_L41 hb ih h
def fX0_cheapestQuoting (b : Nat) (a1 : Int32) (S : St) : Option (Int32 × St) :=
  fX0_cheapestQuoting_L4 b FU a1 (-1) 0 S
theorem sX0_cheapestQuoting {b : Nat} {a1 : Int32} (hb : isC b) {S : St} {r : Int32} {S9 : St} (h : fX0_cheapestQuoting b a1 S = some (r, S9)) : PW mX0_cheapestQuoting (some (.int r), S9) 0 [some (.ref b), some (.int a1), none, none] [] S := by
  unfold fX0_cheapestQuoting at h
  refine p_iconst (k := 0) (-1) rfl (by decide) ?_
  refine p_istore_n (k := 1) 2 [some (.ref b), some (.int a1), some (.int (-1)), none] rfl rfl rfl (by decide) rfl ?_
  refine p_iconst (k := 2) 0 rfl (by decide) ?_
  refine p_istore_n (k := 3) 3 [some (.ref b), some (.int a1), some (.int (-1)), some (.int 0)] rfl rfl rfl (by decide) rfl ?_
  refine p_msk [true, true, true, true] (L2 := [some (.ref b), some (.int a1), some (.int (-1)), some (.int 0)]) rfl ?_
  exact sX0_cheapestQuoting_L4 hb _ _ _ _ _ h
theorem tX0_cheapestQuoting {b : Nat} {a1 : Int32} (hb : isC b) {S : St} {r : Int32} {S9 : St} (h : fX0_cheapestQuoting b a1 S = some (r, S9)) : MR yX0_cheapestQuoting cX0_cheapestQuoting mX0_cheapestQuoting [.ref b, .int a1] S (some (.int r), S9) := MR.of (n := 2) okX0_cheapestQuoting rfl rfl (sX0_cheapestQuoting hb h)
-- wisest()I
def fX0_wisest_L39 (b : Nat) (k4 : Int32 → Int32 → St → Option (Int32 × St)) (x1 : Int32) (x2 : Int32) (S : St) : Option (Int32 × St) :=
  bnd (x2 + 1) fun v1 =>
  k4 x1 v1 S
theorem sX0_wisest_L39 {b : Nat} (hb : isC b) {r : Int32} {S9 : St} {k4 : Int32 → Int32 → St → Option (Int32 × St)} (hk4 : ∀ x1 x2 S, k4 x1 x2 S = some (r, S9) → PW mX0_wisest (some (.int r), S9) 4 [some (.ref b), some (.int x1), some (.int x2)] [] S) {x1 : Int32} {x2 : Int32} {S : St} (h : fX0_wisest_L39 b k4 x1 x2 S = some (r, S9)) : PW mX0_wisest (some (.int r), S9) 39 [some (.ref b), some (.int x1), some (.int x2)] [] S := by
  unfold fX0_wisest_L39 at h
  obtain ⟨v1, ev1, h⟩ := bnd_ex h
  refine p_iinc (k := 23) v1 [some (.ref b), some (.int x1), some (.int v1)] rfl rfl (by rw [← ev1]; rfl) rfl (by decide) rfl ?_
  refine p_goto (k := 24) 4 rfl (by decide) ?_
  refine p_msk [true, true, true] (L2 := [some (.ref b), some (.int x1), some (.int v1)]) rfl ?_
  exact hk4 _ _ _ h
def fX0_wisest_L37 (b : Nat) (k4 : Int32 → Int32 → St → Option (Int32 × St)) (x2 : Int32) (S : St) : Option (Int32 × St) :=
  fX0_wisest_L39 b k4 x2 x2 S
theorem sX0_wisest_L37 {b : Nat} (hb : isC b) {r : Int32} {S9 : St} {k4 : Int32 → Int32 → St → Option (Int32 × St)} (hk4 : ∀ x1 x2 S, k4 x1 x2 S = some (r, S9) → PW mX0_wisest (some (.int r), S9) 4 [some (.ref b), some (.int x1), some (.int x2)] [] S) {x2 : Int32} {S : St} (h : fX0_wisest_L37 b k4 x2 S = some (r, S9)) : PW mX0_wisest (some (.int r), S9) 37 [some (.ref b), none, some (.int x2)] [] S := by
  unfold fX0_wisest_L37 at h
  refine p_iload_n (k := 21) (i := 2) rfl rfl rfl ?_
  refine p_istore_n (k := 22) 1 [some (.ref b), some (.int x2), some (.int x2)] rfl rfl rfl (by decide) rfl ?_
  refine p_msk [true, true, true] (L2 := [some (.ref b), some (.int x2), some (.int x2)]) rfl ?_
  exact sX0_wisest_L39 hb hk4 h
def fX0_wisest_L4 (b : Nat) : Nat → Int32 → Int32 → St → Option (Int32 × St)
  | 0 => fun _ _ _ => none
  | n + 1 => fun x1 x2 S =>
    if (S b 8) ≤ x2 then
      some (x1, S)
    else
      if x1 < 0 then
        fX0_wisest_L37 b (fun x1 x2 S => fX0_wisest_L4 b n x1 x2 S) x2 S
      else
        rd S (b + 4) 8 x2 fun v1 =>
        cl (fJ6_bitCount_0f7a4 v1 S) fun v2 S1 =>
        rd S1 (b + 4) 8 x1 fun v3 =>
        cl (fJ6_bitCount_0f7a4 v3 S1) fun v4 S2 =>
        if v2 ≤ v4 then
          fX0_wisest_L39 b (fun x1 x2 S => fX0_wisest_L4 b n x1 x2 S) x1 x2 S2
        else
          fX0_wisest_L37 b (fun x1 x2 S => fX0_wisest_L4 b n x1 x2 S) x2 S2
theorem sX0_wisest_L4 {b : Nat} (hb : isC b) {r : Int32} {S9 : St} : ∀ (n : Nat) (x1 : Int32) (x2 : Int32) (S : St), fX0_wisest_L4 b n x1 x2 S = some (r, S9) → PW mX0_wisest (some (.int r), S9) 4 [some (.ref b), some (.int x1), some (.int x2)] [] S := by
  intro n
  induction n with
  | zero => intro x1 x2 S h; cases h
  | succ n ih =>
    intro x1 x2 S h
    unfold fX0_wisest_L4 at h
    refine p_iload_n (k := 4) (i := 2) rfl rfl rfl ?_
    refine p_aload_n (k := 5) (i := 0) rfl rfl rfl ?_
    refine p_geti (k := 6) rfl (lay_c hb) rfl fl_RX0_52 ?_
    refine p_icmp_ge (k := 7) 45 rfl (by decide) (fun hc => ?_) (fun hc => ?_)
    · rw [if_pos hc] at h
      refine p_iload_n (k := 25) (i := 1) rfl rfl rfl ?_
      exact s_iret h (k := 26) rfl rfl
    · rw [if_neg hc] at h
      refine p_iload_n (k := 8) (i := 1) rfl rfl rfl ?_
      refine p_if_lt (k := 9) 37 rfl (by decide) (fun hc => ?_) (fun hc => ?_)
      · rw [if_pos hc] at h
        refine p_msk [true, false, true] (L2 := [some (.ref b), none, some (.int x2)]) rfl ?_
        exact sX0_wisest_L37 hb ih h
      · rw [if_neg hc] at h
        refine p_aload_n (k := 10) (i := 0) rfl rfl rfl ?_
        refine p_getr (k := 11) rfl (lay_c hb) rfl fl_RX0_21 ?_
        refine p_iload_n (k := 12) (i := 2) rfl rfl rfl ?_
        refine s_rd h (k := 13) rfl (lay_c3 hb) (fun v1 h => ?_)
        obtain ⟨v2, S1, hcS1, h⟩ := cl_some h
        refine p_callS (k := 14) [.int v1] [] rfl (tJ6_bitCount_0f7a4 hcS1) lc_J6_bitCount_0f7a4 ml_RX0_68 ms_J6_bitCount_0f7a4 (by decide) (by decide) (Nat.le_of_ble_eq_true rfl) rfl ?_
        refine p_aload_n (k := 15) (i := 0) rfl rfl rfl ?_
        refine p_getr (k := 16) rfl (lay_c hb) rfl fl_RX0_21 ?_
        refine p_iload_n (k := 17) (i := 1) rfl rfl rfl ?_
        refine s_rd h (k := 18) rfl (lay_c3 hb) (fun v3 h => ?_)
        obtain ⟨v4, S2, hcS2, h⟩ := cl_some h
        refine p_callS (k := 19) [.int v3] [.int v2] rfl (tJ6_bitCount_0f7a4 hcS2) lc_J6_bitCount_0f7a4 ml_RX0_68 ms_J6_bitCount_0f7a4 (by decide) (by decide) (Nat.le_of_ble_eq_true rfl) rfl ?_
        refine p_icmp_le (k := 20) 39 rfl (by decide) (fun hc => ?_) (fun hc => ?_)
        · rw [if_pos hc] at h
          refine p_msk [true, true, true] (L2 := [some (.ref b), some (.int x1), some (.int x2)]) rfl ?_
          exact sX0_wisest_L39 hb ih h
        · rw [if_neg hc] at h
          refine p_msk [true, false, true] (L2 := [some (.ref b), none, some (.int x2)]) rfl ?_
          exact sX0_wisest_L37 hb ih h
def fX0_wisest (b : Nat) (S : St) : Option (Int32 × St) :=
  fX0_wisest_L4 b FU (-1) 0 S
theorem sX0_wisest {b : Nat} (hb : isC b) {S : St} {r : Int32} {S9 : St} (h : fX0_wisest b S = some (r, S9)) : PW mX0_wisest (some (.int r), S9) 0 [some (.ref b), none, none] [] S := by
  unfold fX0_wisest at h
  refine p_iconst (k := 0) (-1) rfl (by decide) ?_
  refine p_istore_n (k := 1) 1 [some (.ref b), some (.int (-1)), none] rfl rfl rfl (by decide) rfl ?_
  refine p_iconst (k := 2) 0 rfl (by decide) ?_
  refine p_istore_n (k := 3) 2 [some (.ref b), some (.int (-1)), some (.int 0)] rfl rfl rfl (by decide) rfl ?_
  refine p_msk [true, true, true] (L2 := [some (.ref b), some (.int (-1)), some (.int 0)]) rfl ?_
  exact sX0_wisest_L4 hb _ _ _ _ h
theorem tX0_wisest {b : Nat} (hb : isC b) {S : St} {r : Int32} {S9 : St} (h : fX0_wisest b S = some (r, S9)) : MR yX0_wisest cX0_wisest mX0_wisest [.ref b] S (some (.int r), S9) := MR.of (n := 2) okX0_wisest rfl rfl (sX0_wisest hb h)
-- grassInAll()I
def fX0_grassInAll_L4 (b : Nat) : Nat → Int32 → Int32 → St → Option (Int32 × St)
  | 0 => fun _ _ _ => none
  | n + 1 => fun x1 x2 S =>
    if 12 ≤ x2 then
      some (x1, S)
    else
      rd S (b + 1) 12 x2 fun v1 =>
      bnd (x1 + v1) fun v2 =>
      bnd (x2 + 1) fun v3 =>
      fX0_grassInAll_L4 b n v2 v3 S
theorem sX0_grassInAll_L4 {b : Nat} (hb : isC b) {r : Int32} {S9 : St} : ∀ (n : Nat) (x1 : Int32) (x2 : Int32) (S : St), fX0_grassInAll_L4 b n x1 x2 S = some (r, S9) → PW mX0_grassInAll (some (.int r), S9) 4 [some (.ref b), some (.int x1), some (.int x2)] [] S := by
  intro n
  induction n with
  | zero => intro x1 x2 S h; cases h
  | succ n ih =>
    intro x1 x2 S h
    unfold fX0_grassInAll_L4 at h
    refine p_iload_n (k := 4) (i := 2) rfl rfl rfl ?_
    refine p_bipush (k := 5) 12 rfl (by decide) ?_
    refine p_icmp_ge (k := 6) 25 rfl (by decide) (fun hc => ?_) (fun hc => ?_)
    · rw [if_pos hc] at h
      refine p_iload_n (k := 16) (i := 1) rfl rfl rfl ?_
      exact s_iret h (k := 17) rfl rfl
    · rw [if_neg hc] at h
      refine p_iload_n (k := 7) (i := 1) rfl rfl rfl ?_
      refine p_aload_n (k := 8) (i := 0) rfl rfl rfl ?_
      refine p_getr (k := 9) rfl (lay_c hb) rfl fl_RX0_11 ?_
      refine p_iload_n (k := 10) (i := 2) rfl rfl rfl ?_
      refine s_rd h (k := 11) rfl (lay_c0 hb) (fun v1 h => ?_)
      refine p_iadd (k := 12) rfl ?_
      refine s_bnd h (fun v2 h => ?_)
      refine p_istore_n (k := 13) 1 [some (.ref b), some (.int v2), some (.int x2)] rfl rfl rfl (by decide) rfl ?_
      obtain ⟨v3, ev3, h⟩ := bnd_ex h
      refine p_iinc (k := 14) v3 [some (.ref b), some (.int v2), some (.int v3)] rfl rfl (by rw [← ev3]; rfl) rfl (by decide) rfl ?_
      refine p_goto (k := 15) 4 rfl (by decide) ?_
      refine p_msk [true, true, true] (L2 := [some (.ref b), some (.int v2), some (.int v3)]) rfl ?_
      exact ih _ _ _ h
def fX0_grassInAll (b : Nat) (S : St) : Option (Int32 × St) :=
  fX0_grassInAll_L4 b FU 0 0 S
theorem sX0_grassInAll {b : Nat} (hb : isC b) {S : St} {r : Int32} {S9 : St} (h : fX0_grassInAll b S = some (r, S9)) : PW mX0_grassInAll (some (.int r), S9) 0 [some (.ref b), none, none] [] S := by
  unfold fX0_grassInAll at h
  refine p_iconst (k := 0) 0 rfl (by decide) ?_
  refine p_istore_n (k := 1) 1 [some (.ref b), some (.int 0), none] rfl rfl rfl (by decide) rfl ?_
  refine p_iconst (k := 2) 0 rfl (by decide) ?_
  refine p_istore_n (k := 3) 2 [some (.ref b), some (.int 0), some (.int 0)] rfl rfl rfl (by decide) rfl ?_
  refine p_msk [true, true, true] (L2 := [some (.ref b), some (.int 0), some (.int 0)]) rfl ?_
  exact sX0_grassInAll_L4 hb _ _ _ _ h
theorem tX0_grassInAll {b : Nat} (hb : isC b) {S : St} {r : Int32} {S9 : St} (h : fX0_grassInAll b S = some (r, S9)) : MR yX0_grassInAll cX0_grassInAll mX0_grassInAll [.ref b] S (some (.int r), S9) := MR.of (n := 2) okX0_grassInAll rfl rfl (sX0_grassInAll hb h)
-- fedInAll()I
def fX0_fedInAll_L4 (b : Nat) : Nat → Int32 → Int32 → St → Option (Int32 × St)
  | 0 => fun _ _ _ => none
  | n + 1 => fun x1 x2 S =>
    if (S b 8) ≤ x2 then
      some (x1, S)
    else
      rd S (b + 6) 8 x2 fun v1 =>
      bnd (x1 + v1) fun v2 =>
      bnd (x2 + 1) fun v3 =>
      fX0_fedInAll_L4 b n v2 v3 S
theorem sX0_fedInAll_L4 {b : Nat} (hb : isC b) {r : Int32} {S9 : St} : ∀ (n : Nat) (x1 : Int32) (x2 : Int32) (S : St), fX0_fedInAll_L4 b n x1 x2 S = some (r, S9) → PW mX0_fedInAll (some (.int r), S9) 4 [some (.ref b), some (.int x1), some (.int x2)] [] S := by
  intro n
  induction n with
  | zero => intro x1 x2 S h; cases h
  | succ n ih =>
    intro x1 x2 S h
    unfold fX0_fedInAll_L4 at h
    refine p_iload_n (k := 4) (i := 2) rfl rfl rfl ?_
    refine p_aload_n (k := 5) (i := 0) rfl rfl rfl ?_
    refine p_geti (k := 6) rfl (lay_c hb) rfl fl_RX0_52 ?_
    refine p_icmp_ge (k := 7) 27 rfl (by decide) (fun hc => ?_) (fun hc => ?_)
    · rw [if_pos hc] at h
      refine p_iload_n (k := 17) (i := 1) rfl rfl rfl ?_
      exact s_iret h (k := 18) rfl rfl
    · rw [if_neg hc] at h
      refine p_iload_n (k := 8) (i := 1) rfl rfl rfl ?_
      refine p_aload_n (k := 9) (i := 0) rfl rfl rfl ?_
      refine p_getr (k := 10) rfl (lay_c hb) rfl fl_RX0_27 ?_
      refine p_iload_n (k := 11) (i := 2) rfl rfl rfl ?_
      refine s_rd h (k := 12) rfl (lay_c5 hb) (fun v1 h => ?_)
      refine p_iadd (k := 13) rfl ?_
      refine s_bnd h (fun v2 h => ?_)
      refine p_istore_n (k := 14) 1 [some (.ref b), some (.int v2), some (.int x2)] rfl rfl rfl (by decide) rfl ?_
      obtain ⟨v3, ev3, h⟩ := bnd_ex h
      refine p_iinc (k := 15) v3 [some (.ref b), some (.int v2), some (.int v3)] rfl rfl (by rw [← ev3]; rfl) rfl (by decide) rfl ?_
      refine p_goto (k := 16) 4 rfl (by decide) ?_
      refine p_msk [true, true, true] (L2 := [some (.ref b), some (.int v2), some (.int v3)]) rfl ?_
      exact ih _ _ _ h
def fX0_fedInAll (b : Nat) (S : St) : Option (Int32 × St) :=
  fX0_fedInAll_L4 b FU 0 0 S
theorem sX0_fedInAll {b : Nat} (hb : isC b) {S : St} {r : Int32} {S9 : St} (h : fX0_fedInAll b S = some (r, S9)) : PW mX0_fedInAll (some (.int r), S9) 0 [some (.ref b), none, none] [] S := by
  unfold fX0_fedInAll at h
  refine p_iconst (k := 0) 0 rfl (by decide) ?_
  refine p_istore_n (k := 1) 1 [some (.ref b), some (.int 0), none] rfl rfl rfl (by decide) rfl ?_
  refine p_iconst (k := 2) 0 rfl (by decide) ?_
  refine p_istore_n (k := 3) 2 [some (.ref b), some (.int 0), some (.int 0)] rfl rfl rfl (by decide) rfl ?_
  refine p_msk [true, true, true] (L2 := [some (.ref b), some (.int 0), some (.int 0)]) rfl ?_
  exact sX0_fedInAll_L4 hb _ _ _ _ h
theorem tX0_fedInAll {b : Nat} (hb : isC b) {S : St} {r : Int32} {S9 : St} (h : fX0_fedInAll b S = some (r, S9)) : MR yX0_fedInAll cX0_fedInAll mX0_fedInAll [.ref b] S (some (.int r), S9) := MR.of (n := 2) okX0_fedInAll rfl rfl (sX0_fedInAll hb h)
-- ledgesWithGoats()I
def fX0_ledgesWithGoats_L4 (b : Nat) : Nat → Int32 → Int32 → St → Option (Int32 × St)
  | 0 => fun _ _ _ => none
  | n + 1 => fun x1 x2 S =>
    if (S b 8) ≤ x2 then
      some (x1, S)
    else
      rd S (b + 3) 8 x2 fun v1 =>
      bnd (x1 ||| (1 <<< (v1 &&& 31))) fun v2 =>
      bnd (x2 + 1) fun v3 =>
      fX0_ledgesWithGoats_L4 b n v2 v3 S
theorem sX0_ledgesWithGoats_L4 {b : Nat} (hb : isC b) {r : Int32} {S9 : St} : ∀ (n : Nat) (x1 : Int32) (x2 : Int32) (S : St), fX0_ledgesWithGoats_L4 b n x1 x2 S = some (r, S9) → PW mX0_ledgesWithGoats (some (.int r), S9) 4 [some (.ref b), some (.int x1), some (.int x2)] [] S := by
  intro n
  induction n with
  | zero => intro x1 x2 S h; cases h
  | succ n ih =>
    intro x1 x2 S h
    unfold fX0_ledgesWithGoats_L4 at h
    refine p_iload_n (k := 4) (i := 2) rfl rfl rfl ?_
    refine p_aload_n (k := 5) (i := 0) rfl rfl rfl ?_
    refine p_geti (k := 6) rfl (lay_c hb) rfl fl_RX0_52 ?_
    refine p_icmp_ge (k := 7) 29 rfl (by decide) (fun hc => ?_) (fun hc => ?_)
    · rw [if_pos hc] at h
      refine p_iload_n (k := 19) (i := 1) rfl rfl rfl ?_
      exact s_iret h (k := 20) rfl rfl
    · rw [if_neg hc] at h
      refine p_iload_n (k := 8) (i := 1) rfl rfl rfl ?_
      refine p_iconst (k := 9) 1 rfl (by decide) ?_
      refine p_aload_n (k := 10) (i := 0) rfl rfl rfl ?_
      refine p_getr (k := 11) rfl (lay_c hb) rfl fl_RX0_18 ?_
      refine p_iload_n (k := 12) (i := 2) rfl rfl rfl ?_
      refine s_rd h (k := 13) rfl (lay_c2 hb) (fun v1 h => ?_)
      refine p_ishl (k := 14) rfl ?_
      refine p_ior (k := 15) rfl ?_
      refine s_bnd h (fun v2 h => ?_)
      refine p_istore_n (k := 16) 1 [some (.ref b), some (.int v2), some (.int x2)] rfl rfl rfl (by decide) rfl ?_
      obtain ⟨v3, ev3, h⟩ := bnd_ex h
      refine p_iinc (k := 17) v3 [some (.ref b), some (.int v2), some (.int v3)] rfl rfl (by rw [← ev3]; rfl) rfl (by decide) rfl ?_
      refine p_goto (k := 18) 4 rfl (by decide) ?_
      refine p_msk [true, true, true] (L2 := [some (.ref b), some (.int v2), some (.int v3)]) rfl ?_
      exact ih _ _ _ h
def fX0_ledgesWithGoats (b : Nat) (S : St) : Option (Int32 × St) :=
  fX0_ledgesWithGoats_L4 b FU 0 0 S
theorem sX0_ledgesWithGoats {b : Nat} (hb : isC b) {S : St} {r : Int32} {S9 : St} (h : fX0_ledgesWithGoats b S = some (r, S9)) : PW mX0_ledgesWithGoats (some (.int r), S9) 0 [some (.ref b), none, none] [] S := by
  unfold fX0_ledgesWithGoats at h
  refine p_iconst (k := 0) 0 rfl (by decide) ?_
  refine p_istore_n (k := 1) 1 [some (.ref b), some (.int 0), none] rfl rfl rfl (by decide) rfl ?_
  refine p_iconst (k := 2) 0 rfl (by decide) ?_
  refine p_istore_n (k := 3) 2 [some (.ref b), some (.int 0), some (.int 0)] rfl rfl rfl (by decide) rfl ?_
  refine p_msk [true, true, true] (L2 := [some (.ref b), some (.int 0), some (.int 0)]) rfl ?_
  exact sX0_ledgesWithGoats_L4 hb _ _ _ _ h
theorem tX0_ledgesWithGoats {b : Nat} (hb : isC b) {S : St} {r : Int32} {S9 : St} (h : fX0_ledgesWithGoats b S = some (r, S9)) : MR yX0_ledgesWithGoats cX0_ledgesWithGoats mX0_ledgesWithGoats [.ref b] S (some (.int r), S9) := MR.of (n := 2) okX0_ledgesWithGoats rfl rfl (sX0_ledgesWithGoats hb h)
-- spotsInUse()I
def fX0_spotsInUse_L22 (b : Nat) (k4 : Int32 → Int32 → St → Option (Int32 × St)) (x1 : Int32) (x2 : Int32) (S : St) : Option (Int32 × St) :=
  bnd (x2 + 1) fun v1 =>
  k4 x1 v1 S
theorem sX0_spotsInUse_L22 {b : Nat} (hb : isC b) {r : Int32} {S9 : St} {k4 : Int32 → Int32 → St → Option (Int32 × St)} (hk4 : ∀ x1 x2 S, k4 x1 x2 S = some (r, S9) → PW mX0_spotsInUse (some (.int r), S9) 4 [some (.ref b), some (.int x1), some (.int x2)] [] S) {x1 : Int32} {x2 : Int32} {S : St} (h : fX0_spotsInUse_L22 b k4 x1 x2 S = some (r, S9)) : PW mX0_spotsInUse (some (.int r), S9) 22 [some (.ref b), some (.int x1), some (.int x2)] [] S := by
  unfold fX0_spotsInUse_L22 at h
  obtain ⟨v1, ev1, h⟩ := bnd_ex h
  refine p_iinc (k := 13) v1 [some (.ref b), some (.int x1), some (.int v1)] rfl rfl (by rw [← ev1]; rfl) rfl (by decide) rfl ?_
  refine p_goto (k := 14) 4 rfl (by decide) ?_
  refine p_msk [true, true, true] (L2 := [some (.ref b), some (.int x1), some (.int v1)]) rfl ?_
  exact hk4 _ _ _ h
def fX0_spotsInUse_L4 (b : Nat) : Nat → Int32 → Int32 → St → Option (Int32 × St)
  | 0 => fun _ _ _ => none
  | n + 1 => fun x1 x2 S =>
    if 10 ≤ x2 then
      some (x1, S)
    else
      rd S (b + 8) 10 x2 fun v1 =>
      if v1 < 0 then
        fX0_spotsInUse_L22 b (fun x1 x2 S => fX0_spotsInUse_L4 b n x1 x2 S) x1 x2 S
      else
        bnd (x1 + 1) fun v2 =>
        fX0_spotsInUse_L22 b (fun x1 x2 S => fX0_spotsInUse_L4 b n x1 x2 S) v2 x2 S
theorem sX0_spotsInUse_L4 {b : Nat} (hb : isC b) {r : Int32} {S9 : St} : ∀ (n : Nat) (x1 : Int32) (x2 : Int32) (S : St), fX0_spotsInUse_L4 b n x1 x2 S = some (r, S9) → PW mX0_spotsInUse (some (.int r), S9) 4 [some (.ref b), some (.int x1), some (.int x2)] [] S := by
  intro n
  induction n with
  | zero => intro x1 x2 S h; cases h
  | succ n ih =>
    intro x1 x2 S h
    unfold fX0_spotsInUse_L4 at h
    refine p_iload_n (k := 4) (i := 2) rfl rfl rfl ?_
    refine p_bipush (k := 5) 10 rfl (by decide) ?_
    refine p_icmp_ge (k := 6) 28 rfl (by decide) (fun hc => ?_) (fun hc => ?_)
    · rw [if_pos hc] at h
      refine p_iload_n (k := 15) (i := 1) rfl rfl rfl ?_
      exact s_iret h (k := 16) rfl rfl
    · rw [if_neg hc] at h
      refine p_aload_n (k := 7) (i := 0) rfl rfl rfl ?_
      refine p_getr (k := 8) rfl (lay_c hb) rfl fl_RX0_33 ?_
      refine p_iload_n (k := 9) (i := 2) rfl rfl rfl ?_
      refine s_rd h (k := 10) rfl (lay_c7 hb) (fun v1 h => ?_)
      refine p_if_lt (k := 11) 22 rfl (by decide) (fun hc => ?_) (fun hc => ?_)
      · rw [if_pos hc] at h
        refine p_msk [true, true, true] (L2 := [some (.ref b), some (.int x1), some (.int x2)]) rfl ?_
        exact sX0_spotsInUse_L22 hb ih h
      · rw [if_neg hc] at h
        obtain ⟨v2, ev2, h⟩ := bnd_ex h
        refine p_iinc (k := 12) v2 [some (.ref b), some (.int v2), some (.int x2)] rfl rfl (by rw [← ev2]; rfl) rfl (by decide) rfl ?_
        refine p_msk [true, true, true] (L2 := [some (.ref b), some (.int v2), some (.int x2)]) rfl ?_
        exact sX0_spotsInUse_L22 hb ih h
def fX0_spotsInUse (b : Nat) (S : St) : Option (Int32 × St) :=
  fX0_spotsInUse_L4 b FU 0 0 S
theorem sX0_spotsInUse {b : Nat} (hb : isC b) {S : St} {r : Int32} {S9 : St} (h : fX0_spotsInUse b S = some (r, S9)) : PW mX0_spotsInUse (some (.int r), S9) 0 [some (.ref b), none, none] [] S := by
  unfold fX0_spotsInUse at h
  refine p_iconst (k := 0) 0 rfl (by decide) ?_
  refine p_istore_n (k := 1) 1 [some (.ref b), some (.int 0), none] rfl rfl rfl (by decide) rfl ?_
  refine p_iconst (k := 2) 0 rfl (by decide) ?_
  refine p_istore_n (k := 3) 2 [some (.ref b), some (.int 0), some (.int 0)] rfl rfl rfl (by decide) rfl ?_
  refine p_msk [true, true, true] (L2 := [some (.ref b), some (.int 0), some (.int 0)]) rfl ?_
  exact sX0_spotsInUse_L4 hb _ _ _ _ h
theorem tX0_spotsInUse {b : Nat} (hb : isC b) {S : St} {r : Int32} {S9 : St} (h : fX0_spotsInUse b S = some (r, S9)) : MR yX0_spotsInUse cX0_spotsInUse mX0_spotsInUse [.ref b] S (some (.int r), S9) := MR.of (n := 2) okX0_spotsInUse rfl rfl (sX0_spotsInUse hb h)
