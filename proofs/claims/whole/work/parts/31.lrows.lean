/-! The law's walk: rows like those of PW, over the law's own room and end. -/
def LX (L : Nat) (xs : Nat → Int32) (p : Program) (s : State) (m : MethodId) (b : Addr) (meth : Method) (c : Code) (D : va_G) (cT : Nat → ClassId) (ad : Nat → Nat) : Prop :=
  L ≤ 3072 ∧ lw_At p s m meth c b L xs ∧ ad 400 = b ∧ va_K D vwCl (tyl cT) s ∧ (∀ S : St, va_D (fun q : Nat => s.heap.size ≤ q) (wl cT ad S)) ∧ OL ad (fun q : Nat => s.heap.size ≤ q) s s.heap
def LW (L : Nat) (xs : Nat → Int32) (pc : Nat) (Lc : List (Option Value)) (st : List Value) (S : St) : Prop :=
  ∀ (p : Program) (l : Launch) (e : Env) (s : State) (m : MethodId) (b : Addr) (below : List Frame) (meth : Method) (c : Code) (D : va_G) (cT : Nat → ClassId) (ad : Nat → Nat), LX L xs p s m b meth c D cT ad →
  ∀ (H : Heap) (locs : List Loc) (ls : Array Slot), LR ad ls 4 Lc → va_P D vwCl (wl cT ad S) H → va_S (fun q : Nat => s.heap.size ≤ q) s.heap H locs →
  W p l e room_1 s m #[Value.ref b] below meth c H locs 51 1183 (lw_Z below #[Value.ref b] s) (F0 m pc ls (st.map (cv ad)))
theorem l_dec {k g pc len : Nat} {i : Instr} (h : (TLA.getD g [])[k]? = some (pc, i, len)) : decode code pc = .ok (i, len) := by
  by_cases hg : g < TLA.length
  · have h1 := okL (TLA.getD g []) (by rw [List.getD_eq_getElem?_getD, List.getElem?_eq_getElem hg]; exact List.getElem_mem hg) _ (List.mem_of_getElem? h)
    exact h1
  · have e : TLA.getD g [] = [] := by
      rw [List.getD_eq_getElem?_getD, List.getElem?_eq_none (Nat.le_of_not_lt hg)]
      rfl
    rw [e] at h
    simp at h
section LROWS
variable {L : Nat} {xs : Nat → Int32} {pc k g : Nat} {Lc : List (Option Value)} {st : List Value} {S : St}
theorem l_iconst {n : Int} (v : Int32) (h : (TLA.getD g [])[k]? = some (pc, .iconst n, 1)) (hv : Int32.ofInt n = v) (nx : LW L xs (pc + 1) Lc (.int v :: st) S) : LW L xs pc Lc st S := by
  intro p l e s m b below meth c D cT ad C H locs ls hL hP hS
  obtain ⟨hlx, ⟨hx, hb, hr, hml, hown, hts, hX, hbl, hlk, hgv⟩, hb4, hK, hD, hO⟩ := id C
  exact lv_iconst hx hb (l_dec h) hv (nx p l e s m b below meth c D cT ad C H locs ls hL hP hS)
theorem l_bipush {n : Int} (v : Int32) (h : (TLA.getD g [])[k]? = some (pc, .bipush n, 2)) (hv : (Int8.ofInt n).toInt32 = v) (nx : LW L xs (pc + 2) Lc (.int v :: st) S) : LW L xs pc Lc st S := by
  intro p l e s m b below meth c D cT ad C H locs ls hL hP hS
  obtain ⟨hlx, ⟨hx, hb, hr, hml, hown, hts, hX, hbl, hlk, hgv⟩, hb4, hK, hD, hO⟩ := id C
  exact lv_bipush hx hb (l_dec h) hv (nx p l e s m b below meth c D cT ad C H locs ls hL hP hS)
theorem l_aload_n {n : Fin 4} {i x : Nat} (h : (TLA.getD g [])[k]? = some (pc, .aload_n n, 1)) (hi : (n : Nat) = i) (hl : Lc[i]? = some (some (.ref x))) (nx : LW L xs (pc + 1) Lc (.ref x :: st) S) : LW L xs pc Lc st S := by
  intro p l e s m b below meth c D cT ad C H locs ls hL hP hS
  obtain ⟨hlx, ⟨hx, hb, hr, hml, hown, hts, hX, hbl, hlk, hgv⟩, hb4, hK, hD, hO⟩ := id C
  exact lv_aload_n hx hb (l_dec h) hi (hL.2.2 _ _ hl) (nx p l e s m b below meth c D cT ad C H locs ls hL hP hS)
theorem l_iload_n {n : Fin 4} {i : Nat} {x : Int32} (h : (TLA.getD g [])[k]? = some (pc, .iload_n n, 1)) (hi : (n : Nat) = i) (hl : Lc[i]? = some (some (.int x))) (nx : LW L xs (pc + 1) Lc (.int x :: st) S) : LW L xs pc Lc st S := by
  intro p l e s m b below meth c D cT ad C H locs ls hL hP hS
  obtain ⟨hlx, ⟨hx, hb, hr, hml, hown, hts, hX, hbl, hlk, hgv⟩, hb4, hK, hD, hO⟩ := id C
  exact lv_iload_n hx hb (l_dec h) hi (hL.2.2 _ _ hl) (nx p l e s m b below meth c D cT ad C H locs ls hL hP hS)
theorem l_iadd {x y : Int32} (h : (TLA.getD g [])[k]? = some (pc, .iadd, 1)) (nx : LW L xs (pc + 1) Lc (.int (x + y) :: st) S) : LW L xs pc Lc (.int y :: .int x :: st) S := by
  intro p l e s m b below meth c D cT ad C H locs ls hL hP hS
  obtain ⟨hlx, ⟨hx, hb, hr, hml, hown, hts, hX, hbl, hlk, hgv⟩, hb4, hK, hD, hO⟩ := id C
  exact lv_iadd hx hb (l_dec h) (nx p l e s m b below meth c D cT ad C H locs ls hL hP hS)
theorem l_isub {x y : Int32} (h : (TLA.getD g [])[k]? = some (pc, .isub, 1)) (nx : LW L xs (pc + 1) Lc (.int (x - y) :: st) S) : LW L xs pc Lc (.int y :: .int x :: st) S := by
  intro p l e s m b below meth c D cT ad C H locs ls hL hP hS
  obtain ⟨hlx, ⟨hx, hb, hr, hml, hown, hts, hX, hbl, hlk, hgv⟩, hb4, hK, hD, hO⟩ := id C
  exact lv_isub hx hb (l_dec h) (nx p l e s m b below meth c D cT ad C H locs ls hL hP hS)
theorem l_iand {x y : Int32} (h : (TLA.getD g [])[k]? = some (pc, .iand, 1)) (nx : LW L xs (pc + 1) Lc (.int (x &&& y) :: st) S) : LW L xs pc Lc (.int y :: .int x :: st) S := by
  intro p l e s m b below meth c D cT ad C H locs ls hL hP hS
  obtain ⟨hlx, ⟨hx, hb, hr, hml, hown, hts, hX, hbl, hlk, hgv⟩, hb4, hK, hD, hO⟩ := id C
  exact lv_iand hx hb (l_dec h) (nx p l e s m b below meth c D cT ad C H locs ls hL hP hS)
theorem l_lcmp {x y : Int64} (h : (TLA.getD g [])[k]? = some (pc, .lcmp, 1)) (nx : LW L xs (pc + 1) Lc (.int (lg_cmp x y) :: st) S) : LW L xs pc Lc (.long y :: .long x :: st) S := by
  intro p l e s m b below meth c D cT ad C H locs ls hL hP hS
  obtain ⟨hlx, ⟨hx, hb, hr, hml, hown, hts, hX, hbl, hlk, hgv⟩, hb4, hK, hD, hO⟩ := id C
  exact W.lcmp hx hb (l_dec h) (nx p l e s m b below meth c D cT ad C H locs ls hL hP hS)
theorem l_icmp_eq {x y : Int32} {off : Int} (tgt : Nat) (h : (TLA.getD g [])[k]? = some (pc, .if_icmp .eq off, 3)) (ht : (pc : Int) + off = (tgt : Int)) (hc : x = y) (nx : LW L xs tgt Lc st S) : LW L xs pc Lc (.int y :: .int x :: st) S := by
  intro p l e s m b below meth c D cT ad C H locs ls hL hP hS
  obtain ⟨hlx, ⟨hx, hb, hr, hml, hown, hts, hX, hbl, hlk, hgv⟩, hb4, hK, hD, hO⟩ := id C
  exact lv_icmp_eq hx hb (l_dec h) ht (fun _ => nx p l e s m b below meth c D cT ad C H locs ls hL hP hS) (fun q => absurd hc q)
theorem l_if_eq {x : Int32} {off : Int} (tgt : Nat) (h : (TLA.getD g [])[k]? = some (pc, .ifCond .eq off, 3)) (ht : (pc : Int) + off = (tgt : Int)) (hc : x = 0) (nx : LW L xs tgt Lc st S) : LW L xs pc Lc (.int x :: st) S := by
  intro p l e s m b below meth c D cT ad C H locs ls hL hP hS
  obtain ⟨hlx, ⟨hx, hb, hr, hml, hown, hts, hX, hbl, hlk, hgv⟩, hb4, hK, hD, hO⟩ := id C
  exact lv_if_eq hx hb (l_dec h) ht (fun _ => nx p l e s m b below meth c D cT ad C H locs ls hL hP hS) (fun q => absurd hc q)
theorem l_icmp_gt {x y : Int32} {off : Int} (tgt : Nat) (h : (TLA.getD g [])[k]? = some (pc, .if_icmp .gt off, 3)) (ht : (pc : Int) + off = (tgt : Int)) (kt : y < x → LW L xs tgt Lc st S) (kf : ¬ y < x → LW L xs (pc + 3) Lc st S) : LW L xs pc Lc (.int y :: .int x :: st) S := by
  intro p l e s m b below meth c D cT ad C H locs ls hL hP hS
  obtain ⟨hlx, ⟨hx, hb, hr, hml, hown, hts, hX, hbl, hlk, hgv⟩, hb4, hK, hD, hO⟩ := id C
  exact lv_icmp_gt hx hb (l_dec h) ht (fun q => kt q p l e s m b below meth c D cT ad C H locs ls hL hP hS) (fun q => kf q p l e s m b below meth c D cT ad C H locs ls hL hP hS)
theorem l_goto {off : Int} (tgt : Nat) (h : (TLA.getD g [])[k]? = some (pc, .goto off, 3)) (ht : (pc : Int) + off = (tgt : Int)) (nx : LW L xs tgt Lc st S) : LW L xs pc Lc st S := by
  intro p l e s m b below meth c D cT ad C H locs ls hL hP hS
  obtain ⟨hlx, ⟨hx, hb, hr, hml, hown, hts, hX, hbl, hlk, hgv⟩, hb4, hK, hD, hO⟩ := id C
  exact lv_goto hx hb (l_dec h) ht (nx p l e s m b below meth c D cT ad C H locs ls hL hP hS)
theorem l_tableOut {dflt lo hi : Int} {offs : Array Int} {len : Nat} {x : Int32} (tgt : Nat) (h : (TLA.getD g [])[k]? = some (pc, .tableswitch dflt lo hi offs, len)) (hz : x.toInt < lo ∨ hi < x.toInt) (ht : (pc : Int) + dflt = (tgt : Int)) (nx : LW L xs tgt Lc st S) : LW L xs pc Lc (.int x :: st) S := by
  intro p l e s m b below meth c D cT ad C H locs ls hL hP hS
  obtain ⟨hlx, ⟨hx, hb, hr, hml, hown, hts, hX, hbl, hlk, hgv⟩, hb4, hK, hD, hO⟩ := id C
  exact lv_tableOut hx hb (l_dec h) hz ht (nx p l e s m b below meth c D cT ad C H locs ls hL hP hS)
theorem l_tableIn {dflt lo hi : Int} {offs : Array Int} {len : Nat} {x : Int32} {off : Int} (tgt : Nat) (h : (TLA.getD g [])[k]? = some (pc, .tableswitch dflt lo hi offs, len)) (h1 : ¬ x.toInt < lo) (h2 : ¬ hi < x.toInt) (ho : offs[(x.toInt - lo).toNat]? = some off) (ht : (pc : Int) + off = (tgt : Int)) (nx : LW L xs tgt Lc st S) : LW L xs pc Lc (.int x :: st) S := by
  intro p l e s m b below meth c D cT ad C H locs ls hL hP hS
  obtain ⟨hlx, ⟨hx, hb, hr, hml, hown, hts, hX, hbl, hlk, hgv⟩, hb4, hK, hD, hO⟩ := id C
  exact lv_tableIn hx hb (l_dec h) h1 h2 ho ht (nx p l e s m b below meth c D cT ad C H locs ls hL hP hS)
theorem l_iinc {i : Nat} {n : Int} {x : Int32} (v : Int32) (L' : List (Option Value)) (h : (TLA.getD g [])[k]? = some (pc, .iinc i n, 3)) (hl : Lc[i]? = some (some (.int x))) (hv : x + Int32.ofInt n = v) (hg : lg2 Lc i = false) (hn : i < 4) (hset : Lc.set i (some (.int v)) = L') (nx : LW L xs (pc + 3) L' st S) : LW L xs pc Lc st S := by
  intro p l e s m b below meth c D cT ad C H locs ls hL hP hS
  obtain ⟨hlx, ⟨hx, hb, hr, hml, hown, hts, hX, hbl, hlk, hgv⟩, hb4, hK, hD, hO⟩ := id C
  obtain ⟨j, hj⟩ := List.getElem?_of_mem (asc_mem (ad := ad) (q := (i, .int x)).mpr ⟨.int x, hl, rfl⟩)
  exact lv_iinc hx hb (l_dec h) hL.has hj hv hn rfl (fun ls2 h2 => nx p l e s m b below meth c D cT ad C H locs ls2 (hset ▸ LR.set1 (v := .int v) hg h2) hP hS)
theorem l_slen  (h : (TLA.getD g [])[k]? = some (pc, .arraylength, 1)) (nx : LW L xs (pc + 1) Lc (.int (nI L) :: st) S) : LW L xs pc Lc (.ref 400 :: st) S := by
  intro p l e s m b below meth c D cT ad C H locs ls hL hP hS
  obtain ⟨hlx, ⟨hx, hb, hr, hml, hown, hts, hX, hbl, hlk, hgv⟩, hb4, hK, hD, hO⟩ := id C
  subst hb4
  exact va_slen hx hb hX hbl (Nat.not_le.mpr hbl) hS (l_dec h) (nx p l e s m _ below meth c D cT ad C H locs ls hL hP hS)
theorem l_sld {i : Int32} {j : Nat} (h : (TLA.getD g [])[k]? = some (pc, .iaload, 1)) (hi : i = nI j) (hj : j < L) (nx : LW L xs (pc + 1) Lc (.int (xs j) :: st) S) : LW L xs pc Lc (.int i :: .ref 400 :: st) S := by
  intro p l e s m b below meth c D cT ad C H locs ls hL hP hS
  obtain ⟨hlx, ⟨hx, hb, hr, hml, hown, hts, hX, hbl, hlk, hgv⟩, hb4, hK, hD, hO⟩ := id C
  subst hb4
  subst hi
  have hL3 : L < 2 ^ 31 := by
    have := hlx
    omega
  refine va_sld hx hb hX hbl (Nat.not_le.mpr hbl) hS (vp_in_nI hj hL3) (l_dec h) ?_
  rw [nI_clamp (by omega)]
  exact nx p l e s m _ below meth c D cT ad C H locs ls hL hP hS
theorem l_callV {idx q ci : Nat} {fs : List (Option Nat)} {y : MethodName} {cc : ByteArray} {M2 : Mi} {out2 : Out} {Tf : u_T} {N : Nat} (As rest : List Value) (h : (TLA.getD g [])[k]? = some (pc, .invokevirtual idx, 3)) (hM : MR y cc M2 (.ref q :: As) S out2) (hlay : lay[q]? = some (.inr (.inl (ci, fs)))) (hcl : vwCl[ci]? = some (y.cls, Tf, N)) (hlc : LC y cc M2 As.length) (hl1 : Cond.methodLink RL idx y ∈ TB) (hl2 : Cond.instanceMethod y ∈ TB) (hl3 : Cond.selects y.cls y y ∈ TB) (hd : M2.dep < 13) (hnl : M2.nL ≤ 13) (hw : (rest.map fun v => v.category).sum ≤ 8) (hst : As.reverse ++ .ref q :: rest = st) (nx : LW L xs (pc + 3) Lc (out2.1.toList ++ rest) out2.2) : LW L xs pc Lc st S := by
  subst hst
  intro p l e s m b below meth c D cT ad C H locs ls hL hP hS
  obtain ⟨hlx, ⟨hx, hb, hr, hml, hown, hts, hX, hbl, hlk, hgv⟩, hb4, hK, hD, hO⟩ := id C
  have hts2 : ∀ w ∈ TB, w.before #[Value.ref b] s = true := fun w hw => hts w (tb_lw hw)
  have hF : ∀ q, va_A (wl cT ad S) H.size q → s.heap.size ≤ q := by
    intro q h
    rcases h with ⟨k, e, h⟩ | h
    · exact (hD S).2 k _ h
    · exact Nat.le_trans hS.1 h
  have hWD : ∀ U : State, U.heap = H → s.WarmedH U.vm → WD D cT ad H.size S U := by
    intro U hU hW
    refine ⟨by rw [hU], by rw [hU]; exact hP, va_K.moved hW.alike hK, (hD S).weaken (fun _ _ _ _ => trivial), ?_⟩
    rw [hU]
    exact ((hO.kept (H1 := H) hS.2.1).warm hW).narrow hF
  have hG : GoodIn TB (wsV RL idx y.cls y (Cond.code y cc M2.nL M2.ty :: TB)) := by
    intro w hw
    rcases List.mem_append.mp hw with hw | hw
    · simp only [List.mem_cons, List.not_mem_nil, or_false] at hw
      rcases hw with rfl | rfl | rfl | rfl
      · exact ⟨hl1, good_of_word (tb_gd hl1)⟩
      · exact ⟨hl2, good_of_word (tb_gd hl2)⟩
      · exact ⟨hl3, good_of_word (tb_gd hl3)⟩
      · exact ⟨hlc.1, good_of_word (tb_gd hlc.1)⟩
    · exact tb_goodIn hlc.2.1 w hw
  have hrw : ((rest.map (cv ad)).map fun v => v.category).sum ≤ 8 := by
    rw [List.map_map]
    rw [show ((fun v : Value => v.category) ∘ cv ad) = (fun v : Value => v.category) from funext (fun v => cv_cat ad v)]
    exact hw
  have hrm : (rmd M2.dep).frames + 1 ≤ room_1.frames ∧ 8 + (M2.nL + 11) + (rmd M2.dep).locals ≤ room_1.locals := by
    show M2.dep + 1 ≤ 13 ∧ 8 + (M2.nL + 11) + 32 * M2.dep ≤ 476
    omega
  have hrun := va_runV (p := p) (l := l) (e := e) (R := room_1) (s := s) (m := m) (args := #[Value.ref b]) (below := below) (meth := meth) (c := c) (H := H) (locs := locs) (cells := 51) (slots := 1183) (b := ad q) (As := As.map (cv ad)) (rest := rest.map (cv ad)) (g := F0 m pc ls ((As.reverse ++ .ref q :: rest).map (cv ad))) ⟨hx, hb, hml, hown, hts2⟩ (hM l D cT ad H.size) (cwV As.length hts2 hG rfl rfl rfl ⟨rfl, hlc.2.2⟩ hrm) ⟨WD.blind, va_recv hK hP hcl (wl_get hlay), fun U hU hW => ⟨rfl, hWD U hU hW⟩⟩ rfl (by rw [List.length_map]) hL.1 (by rw [List.map_append, ← List.map_reverse]; rfl) (lv_room hrw) (l_dec h) ⟨Nat.le_of_ble_eq_true rfl, Nat.le_of_ble_eq_true rfl⟩
  intro T hT X
  obtain ⟨v, st₀, t, T', Lo, h0, X', hLo, e1, e2, ⟨hv, hP2, hz, hk⟩, stp⟩ := hrun T hT X
  cases hv
  rw [h0] at hz hk
  have hn := nx p l e s m b below meth c D cT ad C T'.heap (locs ++ Lo) ls hL (by rw [e1]; exact hP2) ⟨Nat.le_trans hS.1 (by rw [e1]; exact hz), fun q h1 h2 => by rw [e1, hk q (Nat.lt_of_lt_of_le h1 hS.1) (fun z => h2 (hF q z))]; exact hS.2.1 q h1 h2, fun q hq => by
      rcases List.mem_append.mp hq with h | h
      · exact hS.2.2 q h
      · exact hF _ (hLo q h)⟩
  rw [List.map_append] at hn
  obtain ⟨t2, a1, b1⟩ := hn T' rfl X'
  refine ⟨t2, stp t2 ?_, b1⟩
  rw [show ((out2.1.map (cv ad)).toList) = (out2.1.toList.map (cv ad)) by cases out2.1 <;> rfl]
  exact a1
theorem l_ret (h : (TLA.getD g [])[k]? = some (pc, .ireturn, 1)) : LW L xs pc Lc [.int 1] S := by
  intro p l e s m b below meth c D cT ad C H locs ls hL hP hS
  obtain ⟨hlx, ⟨hx, hb, hr, hml, hown, hts, hX, hbl, hlk, hgv⟩, hb4, hK, hD, hO⟩ := id C
  refine va_forget (fun q hq => hS.2.2 q hq) ?_
  refine W.widen (k := 600000) (n := 7302250) (Nat.le_of_ble_eq_true rfl) (Nat.le_of_ble_eq_true rfl) ?_
  exact lw_ret hx hb hr hlk (l_dec h)
end LROWS
theorem lgc_refl (r : Int64) : lg_cmp r r = 0 := by
  unfold lg_cmp
  simp
