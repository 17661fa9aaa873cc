/-! The literals: String.length, String.charAt, and what these call. -/
section STRS
variable {M : Mi} {out : Out} {pc k : Nat} {L : List (Option Value)} {st : List Value} {S : St}
theorem p_ldcs {i j : Nat} (h : M.1[k]? = some (pc, .ldc i, 2)) (hj : j < 13) (hown1 : M.2.1 = RX1) (hi : sIdx j = i) (nx : PW M out (pc + 2) L (.ref (100 + j) :: st) S) : PW M out pc L st S := by
  intro p l e0 s m args below meth c D cT ad A C H locs ls hL hP hS
  obtain ⟨hx, hT, hr, hml, hown, hts, hlk, hK, hD, hA, hO⟩ := id C
  have hR := hO.2.2.2.2 j hj
  rw [hi] at hR
  rw [hown1] at hown
  exact va_ldcS hx rfl hown hR (C.dec h) (nx p l e0 s m args below meth c D cT ad A C H locs ls hL hP hS)
theorem p_sgetv {w : Nat} (h : M.1[k]? = some (pc, .getfield 9, 3)) (hown1 : M.2.1 = RJ0) (hw : w < 13) (nx : PW M out (pc + 3) L (.ref (200 + w) :: st) S) : PW M out pc L (.ref (100 + w) :: st) S := by
  intro p l e0 s m args below meth c D cT ad A C H locs ls hL hP hS
  obtain ⟨hx, hT, hr, hml, hown, hts, hlk, hK, hD, hA, hO⟩ := id C
  rw [hown1] at hown
  exact vk_getf hx rfl (hO.2.1.1 w hw).2.2.1 hS hown (hts _ sfl_9) (fun _ q => q) (C.dec h) (nx p l e0 s m args below meth c D cT ad A C H locs ls hL hP hS)
theorem p_sgetc {w : Nat} (h : M.1[k]? = some (pc, .getfield 15, 3)) (hown1 : M.2.1 = RJ0) (hw : w < 13) (nx : PW M out (pc + 3) L (.int 0 :: st) S) : PW M out pc L (.ref (100 + w) :: st) S := by
  intro p l e0 s m args below meth c D cT ad A C H locs ls hL hP hS
  obtain ⟨hx, hT, hr, hml, hown, hts, hlk, hK, hD, hA, hO⟩ := id C
  rw [hown1] at hown
  exact vk_getf hx rfl (hO.2.1.1 w hw).2.1 hS hown (hts _ sfl_15) (fun _ q => q) (C.dec h) (nx p l e0 s m args below meth c D cT ad A C H locs ls hL hP hS)
theorem p_slen {w : Nat} (h : M.1[k]? = some (pc, .arraylength, 1)) (hw : w < 13) (nx : PW M out (pc + 1) L (.int (nI (sLen.getD w 0)) :: st) S) : PW M out pc L (.ref (200 + w) :: st) S := by
  intro p l e0 s m args below meth c D cT ad A C H locs ls hL hP hS
  obtain ⟨hx, hT, hr, hml, hown, hts, hlk, hK, hD, hA, hO⟩ := id C
  exact va_tlen hx rfl (hO.2.1.1 w hw).2.2.2 hS rfl (C.dec h) (nx p l e0 s m args below meth c D cT ad A C H locs ls hL hP hS)
theorem p_scs (h : M.1[k]? = some (pc, .getstatic 38, 3)) (hown1 : M.2.1 = RJ0) (nx : PW M out (pc + 3) L (.int 1 :: st) S) : PW M out pc L st S := by
  intro p l e0 s m args below meth c D cT ad A C H locs ls hL hP hS
  obtain ⟨hx, hT, hr, hml, hown, hts, hlk, hK, hD, hA, hO⟩ := id C
  rw [hown1] at hown
  exact va_gets hx rfl hO.2.2.1 hS hown (hts _ sfl_38) (fun _ q => q) (C.dec h) (nx p l e0 s m args below meth c D cT ad A C H locs ls hL hP hS)
theorem p_sfm (h : M.1[k]? = some (pc, .getstatic 1053, 3)) (hown1 : M.2.1 = RJ0) (nx : PW M out (pc + 3) L (.null :: st) S) (nx2 : PW M out (pc + 3) L (.ref 300 :: st) S) : PW M out pc L st S := by
  intro p l e0 s m args below meth c D cT ad A C H locs ls hL hP hS
  obtain ⟨hx, hT, hr, hml, hown, hts, hlk, hK, hD, hA, hO⟩ := id C
  rw [hown1] at hown
  rcases hO.2.2.2.1 with hz | hz
  · exact va_gets hx rfl hz hS hown (hts _ sfl_1053) (fun _ q => q) (C.dec h) (nx p l e0 s m args below meth c D cT ad A C H locs ls hL hP hS)
  · exact va_gets hx rfl hz hS hown (hts _ sfl_1053) (fun _ q => q) (C.dec h) (nx2 p l e0 s m args below meth c D cT ad A C H locs ls hL hP hS)
theorem p_sbald {w : Nat} {i : Int32} (h : M.1[k]? = some (pc, .baload, 1)) (hw : w < 13) (hin : vp_in i (sLen.getD w 0)) (nx : PW M out (pc + 1) L (.int ((sByt.getD w []).getD i.toNatClampNeg 0) :: st) S) : PW M out pc L (.int i :: .ref (200 + w) :: st) S := by
  intro p l e0 s m args below meth c D cT ad A C H locs ls hL hP hS
  obtain ⟨hx, hT, hr, hml, hown, hts, hlk, hK, hD, hA, hO⟩ := id C
  exact va_tb hx rfl (hO.2.1.1 w hw).2.2.2 hS hin rfl (C.dec h) (nx p l e0 s m args below meth c D cT ad A C H locs ls hL hP hS)
theorem p_callVs {idx w : Nat} {y : MethodName} {cc : ByteArray} {M2 : Mi} {out2 : Out} (As rest : List Value) (h : M.1[k]? = some (pc, .invokevirtual idx, 3)) (hM : MR y cc M2 (.ref (100 + w) :: As) S out2) (hw13 : w < 13) (hcl : y.cls = "java/lang/String") (hlc : LC y cc M2 As.length) (hl1 : Cond.methodLink M.own idx y ∈ TB) (hl2 : Cond.instanceMethod y ∈ TB) (hl3 : Cond.selects y.cls y y ∈ TB) (hd : M2.dep < M.dep) (hnl : M2.nL ≤ 13) (hw : (rest.map fun v => v.category).sum ≤ 8) (hst : As.reverse ++ .ref (100 + w) :: rest = st) (nx : PW M out (pc + 3) L (out2.1.toList ++ rest) out2.2) : PW M out pc L st S := by
  subst hst
  intro p l e0 s m args below meth c D cT ad A C H locs ls hL hP hS
  obtain ⟨hx, hT, hr, hml, hown, hts, hlk, hK, hD, hA, hO⟩ := id C
  obtain ⟨hF, hWD⟩ := WD_of C hP hS
  have hG : GoodIn TB (wsV M.own idx y.cls y (Cond.code y cc M2.nL M2.ty :: TB)) := by
    intro w hw
    rcases List.mem_append.mp hw with hw | hw
    · simp only [List.mem_cons, List.not_mem_nil, or_false] at hw
      rcases hw with rfl | rfl | rfl | rfl
      · exact ⟨hl1, good_of_word (tb_gd hl1)⟩
      · exact ⟨hl2, good_of_word (tb_gd hl2)⟩
      · exact ⟨hl3, good_of_word (tb_gd hl3)⟩
      · exact ⟨hlc.1, good_of_word (tb_gd hlc.1)⟩
    · exact tb_goodIn hlc.2.1 w hw
  have hrw : ((rest.map (cv ad)).map fun v => v.category).sum ≤ 8 := by
    rw [List.map_map]
    rw [show ((fun v : Value => v.category) ∘ cv ad) = (fun v : Value => v.category) from funext (fun v => cv_cat ad v)]
    exact hw
  have hrec := vk_recv hO.2.1 hw13 hS
  rw [← hcl] at hrec
  have hrun := va_runV (p := p) (l := l) (e := e0) (R := rmd M.dep) (s := s) (m := m) (args := args) (below := below) (meth := meth) (c := c) (H := H) (locs := locs) (cells := 0) (slots := 0) (b := ad (100 + w)) (As := As.map (cv ad)) (rest := rest.map (cv ad)) (g := F0 m pc ls ((As.reverse ++ .ref (100 + w) :: rest).map (cv ad))) ⟨hx, rfl, hml, hown, hts⟩ (hM l D cT ad H.size) (cwV As.length hts hG rfl rfl rfl ⟨rfl, hlc.2.2⟩ (rm_ok hd hnl)) ⟨WD.blind, hrec, fun U hU hW => ⟨rfl, hWD U hU hW⟩⟩ rfl (by rw [List.length_map]) hL.1 (by rw [List.map_append, ← List.map_reverse]; rfl) (lv_room hrw) (C.dec h) ⟨Nat.zero_le _, Nat.zero_le _⟩
  refine W_call hrun hS hF (fun H1 locs1 hP1 hS1 => ?_)
  have := nx p l e0 s m args below meth c D cT ad A C H1 locs1 ls hL hP1 hS1
  rw [List.map_append] at this
  rw [show ((out2.1.map (cv ad)).toList) = (out2.1.toList.map (cv ad)) by cases out2.1 <;> rfl]
  exact this
end STRS
theorem tJ0_coder {w : Nat} (hw : w < 13) (S : St) : MR yJ0_coder_7d493 cJ0_coder_7d493 mJ0_coder_7d493 [.ref (100 + w)] S (some (.int 0), S) := by
  refine MR.of (n := 0) okJ0_coder_7d493 rfl rfl ?_
  refine p_scs (k := 0) rfl rfl ?_
  refine p_if_eq (k := 1) 13 rfl (by decide) (fun hc => absurd hc (by decide)) (fun _ => ?_)
  refine p_aload_n (k := 2) (i := 0) rfl rfl rfl ?_
  refine p_sgetc (k := 3) rfl rfl hw ?_
  refine p_goto (k := 4) 14 rfl (by decide) ?_
  exact p_iret (k := 6) rfl rfl (by decide)
theorem tJ0_isLatin1 {w : Nat} (hw : w < 13) (S : St) : MR yJ0_isLatin1_aae02 cJ0_isLatin1_aae02 mJ0_isLatin1_aae02 [.ref (100 + w)] S (some (.int 1), S) := by
  refine MR.of (n := 0) okJ0_isLatin1_aae02 rfl rfl ?_
  refine p_scs (k := 0) rfl rfl ?_
  refine p_if_eq (k := 1) 17 rfl (by decide) (fun hc => absurd hc (by decide)) (fun _ => ?_)
  refine p_aload_n (k := 2) (i := 0) rfl rfl rfl ?_
  refine p_sgetc (k := 3) rfl rfl hw ?_
  refine p_if_ne (k := 4) 17 rfl (by decide) (fun hc => absurd rfl hc) (fun _ => ?_)
  refine p_iconst (k := 5) 1 rfl (by decide) ?_
  refine p_goto (k := 6) 18 rfl (by decide) ?_
  exact p_iret (k := 8) rfl rfl (by decide)
def fJ0_length_8abf5 (w : Nat) (S : St) : Option (Int32 × St) := some (nI (sLen.getD w 0) >>> ((0 : Int32) &&& 31), S)
theorem tJ0_length_8abf5 {w : Nat} (hw : w < 13) {S : St} {r : Int32} {S9 : St} (h : fJ0_length_8abf5 w S = some (r, S9)) : MR yJ0_length_8abf5 cJ0_length_8abf5 mJ0_length_8abf5 [.ref (100 + w)] S (some (.int r), S9) := by
  unfold fJ0_length_8abf5 at h
  cases h
  refine MR.of (n := 0) okJ0_length_8abf5 rfl rfl ?_
  refine p_aload_n (k := 0) (i := 0) rfl rfl rfl ?_
  refine p_sgetv (k := 1) rfl rfl hw ?_
  refine p_slen (k := 2) rfl hw ?_
  refine p_aload_n (k := 3) (i := 0) rfl rfl rfl ?_
  refine p_callVs (k := 4) [] [.int (nI (sLen.getD w 0))] rfl (tJ0_coder hw S) hw rfl lc_J0_coder_7d493 ml_RJ0_335 mi_J0_coder_7d493 mv_J0_coder_7d493 (by decide) (by decide) (Nat.le_of_ble_eq_true rfl) rfl ?_
  refine p_ishr (k := 5) rfl ?_
  exact p_iret (k := 6) rfl rfl rfl
theorem tJ3_checkIndex {i n : Int32} (v : Value) (hv : v = .null ∨ v = .ref 300) (h1 : ¬ i < 0) (h2 : i < n) (S : St) : MR yJ3_checkIndex_8e157 cJ3_checkIndex_8e157 mJ3_checkIndex_8e157 [.int i, .int n, v] S (some (.int i), S) := by
  have key : ∀ w : Value, PW mJ3_checkIndex_8e157 (some (.int i), S) 0 [some (.int i), some (.int n), some w] [] S := by
    intro w
    refine p_iload_n (k := 0) (i := 0) rfl rfl rfl ?_
    refine p_if_lt (k := 1) 9 rfl (by decide) (fun hc => absurd hc h1) (fun _ => ?_)
    refine p_iload_n (k := 2) (i := 0) rfl rfl rfl ?_
    refine p_iload_n (k := 3) (i := 1) rfl rfl rfl ?_
    refine p_icmp_lt (k := 4) 16 rfl (by decide) (fun _ => ?_) (fun hc => absurd h2 hc)
    refine p_iload_n (k := 10) (i := 0) rfl rfl rfl ?_
    exact p_iret (k := 11) rfl rfl rfl
  rcases hv with rfl | rfl
  · exact MR.of (n := 0) okJ3_checkIndex_8e157 rfl rfl (key _)
  · exact MR.of (n := 0) okJ3_checkIndex_8e157 rfl rfl (key _)
theorem tJ0_checkIndex {i n : Int32} (h1 : ¬ i < 0) (h2 : i < n) (S : St) : MR yJ0_checkIndex_df160 cJ0_checkIndex_df160 mJ0_checkIndex_df160 [.int i, .int n] S (none, S) := by
  refine MR.of (n := 0) okJ0_checkIndex_df160 rfl rfl ?_
  refine p_iload_n (k := 0) (i := 0) rfl rfl rfl ?_
  refine p_iload_n (k := 1) (i := 1) rfl rfl rfl ?_
  refine p_sfm (k := 2) rfl rfl ?_ ?_
  · refine p_callS (k := 3) [.int i, .int n, .null] [] rfl (tJ3_checkIndex .null (Or.inl rfl) h1 h2 S) lc_J3_checkIndex_8e157 ml_RJ0_1059 ms_J3_checkIndex_8e157 (by decide) (by decide) (Nat.le_of_ble_eq_true rfl) rfl ?_
    refine p_pop (k := 4) rfl rfl ?_
    exact p_vret (k := 5) rfl rfl
  · refine p_callS (k := 3) [.int i, .int n, .ref 300] [] rfl (tJ3_checkIndex (.ref 300) (Or.inr rfl) h1 h2 S) lc_J3_checkIndex_8e157 ml_RJ0_1059 ms_J3_checkIndex_8e157 (by decide) (by decide) (Nat.le_of_ble_eq_true rfl) rfl ?_
    refine p_pop (k := 4) rfl rfl ?_
    exact p_vret (k := 5) rfl rfl
def sch (w : Nat) (i : Int32) : Int32 := (((sByt.getD w []).getD i.toNatClampNeg 0 &&& 255).toUInt32 % 65536).toInt32
theorem tJ1_charAt {w : Nat} {i : Int32} (hw : w < 13) (hin : vp_in i (sLen.getD w 0)) (h2 : i < nI (sLen.getD w 0)) (S : St) : MR yJ1_charAt_3b067 cJ1_charAt_3b067 mJ1_charAt_3b067 [.ref (200 + w), .int i] S (some (.int (sch w i)), S) := by
  have h1 : ¬ i < 0 := fun q => hin (Or.inl q)
  refine MR.of (n := 0) okJ1_charAt_3b067 rfl rfl ?_
  refine p_iload_n (k := 0) (i := 1) rfl rfl rfl ?_
  refine p_aload_n (k := 1) (i := 0) rfl rfl rfl ?_
  refine p_slen (k := 2) rfl hw ?_
  refine p_callS (k := 3) [.int i, .int (nI (sLen.getD w 0))] [] rfl (tJ0_checkIndex h1 h2 S) lc_J0_checkIndex_df160 ml_RJ1_9 ms_J0_checkIndex_df160 (by decide) (by decide) (Nat.le_of_ble_eq_true rfl) rfl ?_
  refine p_aload_n (k := 4) (i := 0) rfl rfl rfl ?_
  refine p_iload_n (k := 5) (i := 1) rfl rfl rfl ?_
  refine p_sbald (k := 6) rfl hw hin ?_
  refine p_sipush (k := 7) 255 rfl (by decide) ?_
  refine p_iand (k := 8) rfl ?_
  refine p_i2c (k := 9) rfl ?_
  exact p_iret (k := 10) rfl rfl (pk_nc _)
def fJ0_charAt_5068e (w : Nat) (i : Int32) (S : St) : Option (Int32 × St) := if i < 0 ∨ sLen.getD w 0 ≤ i.toNatClampNeg then none else some (sch w i, S)
theorem sLen_lt : ∀ w, w < 13 → sLen.getD w 0 < 2 ^ 31 := by decide
theorem tJ0_charAt_5068e {w : Nat} (hw : w < 13) {i : Int32} {S : St} {r : Int32} {S9 : St} (h : fJ0_charAt_5068e w i S = some (r, S9)) : MR yJ0_charAt_5068e cJ0_charAt_5068e mJ0_charAt_5068e [.ref (100 + w), .int i] S (some (.int r), S9) := by
  unfold fJ0_charAt_5068e at h
  split at h
  · cases h
  · rename_i hn
    cases h
    have hin : vp_in i (sLen.getD w 0) := hn
    have h2 : i < nI (sLen.getD w 0) := by
      obtain ⟨j, hj, rfl⟩ := vp_in_of hin (sLen_lt w hw)
      exact nI_lt hj (sLen_lt w hw)
    refine MR.of (n := 0) okJ0_charAt_5068e rfl rfl ?_
    refine p_aload_n (k := 0) (i := 0) rfl rfl rfl ?_
    refine p_callVs (k := 1) [] [] rfl (tJ0_isLatin1 hw S) hw rfl lc_J0_isLatin1_aae02 ml_RJ0_492 mi_J0_isLatin1_aae02 mv_J0_isLatin1_aae02 (by decide) (by decide) (Nat.le_of_ble_eq_true rfl) rfl ?_
    refine p_if_eq (k := 2) 16 rfl (by decide) (fun hc => absurd hc (by decide)) (fun _ => ?_)
    refine p_aload_n (k := 3) (i := 0) rfl rfl rfl ?_
    refine p_sgetv (k := 4) rfl rfl hw ?_
    refine p_iload_n (k := 5) (i := 1) rfl rfl rfl ?_
    refine p_callS (k := 6) [.ref (200 + w), .int i] [] rfl (tJ1_charAt hw hin h2 S) lc_J1_charAt_3b067 ml_RJ0_495 ms_J1_charAt_3b067 (by decide) (by decide) (Nat.le_of_ble_eq_true rfl) rfl ?_
    exact p_iret (k := 7) rfl rfl (pk_nc _)
