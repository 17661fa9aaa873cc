/-! A method's contract over the whole layout: called with these arguments at this state it comes back with this outcome. -/
abbrev Mi.nL (M : Mi) : Nat := M.2.2.2.1
abbrev Mi.dep (M : Mi) : Nat := M.2.2.1
abbrev Mi.own (M : Mi) : String := M.2.1
abbrev Mi.ty (M : Mi) : Option FieldType := M.2.2.2.2
def WD (D : va_G) (cT : Nat → ClassId) (ad : Nat → Nat) (sz : Nat) (S : St) (U : State) : Prop := U.heap.size = sz ∧ va_P D vwCl (wl cT ad S) U.heap ∧ va_K D vwCl (tyl cT) U ∧ va_D (fun _ => True) (wl cT ad S) ∧ OL ad (va_A (wl cT ad S) sz) U U.heap
def MR (y : MethodName) (cc : ByteArray) (M : Mi) (args : List Value) (S : St) (out : Out) : Prop :=
  ∀ (l : Launch) (D : va_G) (cT : Nat → ClassId) (ad : Nat → Nat) (sz : Nat), Met l y (Cond.code y cc M.nL M.ty :: TB) (rmd M.dep) (va_Pc (args.map (cv ad)) (WD D cT ad sz S)) (QO D cT ad (va_A (wl cT ad S) sz) out) 0 0 (va_A (wl cT ad S) sz)
/-- the locals at the entry -/
def entL : List Value → List (Option Value)
  | [] => []
  | v :: r => if v.category = 2 then some v :: none :: entL r else some v :: entL r
theorem entL_len : ∀ (as : List Value), (lg_sl as).length = (entL as).length
  | [] => rfl
  | v :: r => by
    have ih := entL_len r
    simp only [lg_sl] at ih
    simp only [lg_sl, entL, List.flatMap_cons, List.length_append]
    by_cases h : v.category = 2
    · rw [if_pos h, if_pos h]
      simp only [List.length_cons, List.length_nil]
      omega
    · rw [if_neg h, if_neg h]
      simp only [List.length_cons, List.length_nil]
      omega
theorem lg_cv (ad : Nat → Nat) (as : List Value) : (lg_sl (as.map (cv ad))).length = (lg_sl as).length := by
  rw [entL_len, entL_len]
  induction as with
  | nil => rfl
  | cons v r ih =>
    simp only [List.map_cons, entL, cv_cat]
    by_cases h : v.category = 2
    · rw [if_pos h, if_pos h]; simp only [List.length_cons]; omega
    · rw [if_neg h, if_neg h]; simp only [List.length_cons]; omega
theorem entL_in (ad : Nat → Nat) : ∀ (as : List Value) (n k i : Nat) (v : Value), (entL as ++ List.replicate n none)[i]? = some (some v) → (k + i, cv ad v) ∈ lv_args k (as.map (cv ad))
  | [], n, k, i, v, h => by
    simp only [entL, List.nil_append] at h
    have h2 := List.mem_of_getElem? h
    have h3 := (List.mem_replicate.mp h2).2
    cases h3
  | a :: r, n, k, i, v, h => by
    simp only [entL] at h
    simp only [List.map_cons, lv_args, cv_cat]
    by_cases hc : a.category = 2
    · rw [if_pos hc] at h
      rw [if_pos hc]
      match i, h with
      | 0, h =>
        simp at h
        rw [h]
        exact List.mem_cons_self
      | 1, h => simp at h
      | i + 2, h =>
        simp only [List.cons_append, List.getElem?_cons_succ] at h
        have := entL_in ad r n (k + 2) i v h
        rw [show k + 2 + i = k + (i + 2) by omega] at this
        exact List.mem_cons_of_mem _ this
    · rw [if_neg hc] at h
      rw [if_neg hc]
      match i, h with
      | 0, h =>
        simp at h
        rw [h]
        exact List.mem_cons_self
      | i + 1, h =>
        simp only [List.cons_append, List.getElem?_cons_succ] at h
        have := entL_in ad r n (k + 1) i v h
        rw [show k + 1 + i = k + (i + 1) by omega] at this
        exact List.mem_cons_of_mem _ this
/-- what a program decides of a method -/
def MOK (y : MethodName) (cc : ByteArray) (M : Mi) : Prop := plainName y.cls = true ∧ y.cls = M.own ∧ ∀ q ∈ M.1, decode cc q.1 = .ok q.2
theorem MR.of {y : MethodName} {cc : ByteArray} {M : Mi} {as : List Value} {S : St} {out : Out} {n : Nat} {L : List (Option Value)} (ok : MOK y cc M) (hL : entL as ++ List.replicate n none = L) (hn : L.length = M.nL) (h : PW M out 0 L [] S) : MR y cc M as S out := by
  obtain ⟨hy, hcls, hT⟩ := ok
  intro l D cT ad sz
  refine Met.ofW (cc := cc) (maxL := M.nL) (ret := M.ty) hy rfl ?_
  intro p e s m args below meth c s₁ B hml hv
  obtain ⟨rfl, hsz, hP, hK, hD0, hO⟩ := hv
  have hb := B.bytes
  have hts := atoms_spec (ws := Cond.code y cc M.nL M.ty :: TB) B.pre
  have hown : s.vm.findClass y.cls = some m.cls := findClass_of_methodNamed B.named
  rw [hcls] at hown
  subst hsz
  have hlen : (lg_sl (as.map (cv ad))).length ≤ M.nL := by
    rw [lg_cv, entL_len, ← hn, ← hL, List.length_append]
    omega
  have hl := lv_entry (as.map (cv ad)) (n := M.nL) hlen
  rw [lg_entry_eq]
  have hLR : LR ad ((lg_sl (as.map (cv ad)) ++ List.replicate (M.nL - (lg_sl (as.map (cv ad))).length) Slot.unset).toArray) M.nL L := by
    refine ⟨hl.1, hl.2.1, fun i v hi => ?_⟩
    rw [← hL] at hi
    have h1 := entL_in ad as n 0 i v hi
    rw [Nat.zero_add] at h1
    exact hl.2.2 _ h1
  have hC : CX M p e s m (as.map (cv ad)).toArray meth c D cT ad (va_A (wl cT ad S) s.heap.size) :=
    ⟨B.exec, by rw [hb]; exact hT, B.returns, hml, hown, fun w hw => hts w (List.mem_cons_of_mem _ hw), B.notSynchronized, hK, fun S' => (wl_D S' hD0).self.weaken (fun _ _ _ q => wl_A S (Nat.le_refl _) q), fun q hq => Or.inr hq, hO⟩
  exact h p l e s m _ below meth c D cT ad _ hC s.heap [] _ hLR hP va_S.rf
section CALLS
variable {M : Mi} {out : Out} {pc k : Nat} {L : List (Option Value)} {st : List Value} {S : St}
theorem W_call {p : Program} {l : Launch} {e : Env} {R : Room} {s : State} {m : MethodId} {args : Array Value} {below : List Frame} {meth : Method} {c : Code} {H : Heap} {locs : List Loc} {Q : State → Prop} {ls : Array Slot} {rest st0 : List Value} {a : Array Value} {A A1 : Nat → Prop} {D : va_G} {cT : Nat → ClassId} {ad : Nat → Nat} {out2 : Out}
    (hr : va_Run p l e R s m args below meth c H locs 0 0 0 0 (F0 m pc ls st0) rest (QO D cT ad A1 out2 a) A1) (hS : va_S A s.heap H locs) (hA : ∀ q, A1 q → A q)
    (kk : ∀ (H1 : Heap) (locs1 : List Loc), va_P D vwCl (wl cT ad out2.2) H1 → va_S A s.heap H1 locs1 → W p l e R s m args below meth c H1 locs1 0 0 Q (F0 m (pc + 3) ls ((out2.1.map (cv ad)).toList ++ rest))) : W p l e R s m args below meth c H locs 0 0 Q (F0 m pc ls st0) := by
  intro T hT X
  obtain ⟨v, st₀, t, T', L, h0, X', hL, e1, e2, ⟨hv, hP, hz, hk⟩, st⟩ := hr T hT X
  cases hv
  rw [h0] at hz hk
  obtain ⟨t2, a1, b1⟩ := kk T'.heap (locs ++ L) (by rw [e1]; exact hP)
    ⟨Nat.le_trans hS.1 (by rw [e1]; exact hz), fun q h1 h2 => by rw [e1, hk q (Nat.lt_of_lt_of_le h1 hS.1) (fun z => h2 (hA q z))]; exact hS.2.1 q h1 h2, fun q hq => by
      rcases List.mem_append.mp hq with h | h
      · exact hS.2.2 q h
      · exact hA _ (hL q h)⟩ T' rfl X'
  exact ⟨t2, st t2 a1, b1⟩
theorem WD_of {p : Program} {e : Env} {s : State} {m : MethodId} {args : Array Value} {meth : Method} {c : Code} {D : va_G} {cT : Nat → ClassId} {ad : Nat → Nat} {A : Nat → Prop} (C : CX M p e s m args meth c D cT ad A) {H : Heap} {locs : List Loc} (hP : va_P D vwCl (wl cT ad S) H) (hS : va_S A s.heap H locs) :
    (∀ q, va_A (wl cT ad S) H.size q → A q) ∧ ∀ U : State, U.heap = H → s.WarmedH U.vm → WD D cT ad H.size S U := by
  obtain ⟨hx, hT, hr, hml, hown, hts, hlk, hK, hD, hA, hO⟩ := id C
  have hF : ∀ q, va_A (wl cT ad S) H.size q → A q := by
    intro q h
    rcases h with ⟨k, e, h⟩ | h
    · exact (hD S).2 k _ h
    · exact hA q (Nat.le_trans hS.1 h)
  refine ⟨hF, fun U hU hW => ⟨by rw [hU], by rw [hU]; exact hP, va_K.moved hW.alike hK, (hD S).weaken (fun _ _ _ _ => trivial), ?_⟩⟩
  rw [hU]
  exact ((hO.kept (H1 := H) hS.2.1).warm hW).narrow hF
theorem WD.blind {as : List Value} {D : va_G} {cT : Nat → ClassId} {ad : Nat → Nat} {sz : Nat} : FrameBlind (va_Pc (as.map (cv ad)) (WD D cT ad sz S)) := by
  intro a U g mk q
  obtain ⟨q0, q1, qP, qK, qD, qO⟩ := q
  exact ⟨q0, q1, qP, va_K.moved (u := U) (U := U.calling g mk a) (Vm.Alike.refl U.vm) qK, qD, qO.blind g mk a⟩
/-- what the tables say of a callee: its code, its class, how many it takes -/
def LC (y : MethodName) (cc : ByteArray) (M2 : Mi) (n : Nat) : Prop := Cond.initialized y.cls ∈ TB ∧ Cond.code y cc M2.nL M2.ty ∈ TB ∧ (y.cls ≠ "java/lang/invoke/MethodHandle" ∧ y.cls ≠ "java/lang/invoke/VarHandle" ∧ (parseMethodDescriptor y.desc).map (fun d => d.parameters.length) = some n)
theorem rm_ok {M2 : Mi} (hd : M2.dep < M.dep) (hnl : M2.nL ≤ 13) : (rmd M2.dep).frames + 1 ≤ (rmd M.dep).frames ∧ 8 + (M2.nL + 11) + (rmd M2.dep).locals ≤ (rmd M.dep).locals := by
  show M2.dep + 1 ≤ M.dep ∧ 8 + (M2.nL + 11) + 32 * M2.dep ≤ 32 * M.dep
  omega
theorem p_callS {idx : Nat} {y : MethodName} {cc : ByteArray} {M2 : Mi} {out2 : Out} (As rest : List Value) (h : M.1[k]? = some (pc, .invokestatic idx, 3)) (hM : MR y cc M2 As S out2) (hlc : LC y cc M2 As.length) (hl1 : Cond.methodLink M.own idx y ∈ TB) (hl2 : Cond.static y ∈ TB) (hd : M2.dep < M.dep) (hnl : M2.nL ≤ 13) (hw : (rest.map fun v => v.category).sum ≤ 8) (hst : As.reverse ++ rest = st) (nx : PW M out (pc + 3) L (out2.1.toList ++ rest) out2.2) : PW M out pc L st S := by
  subst hst
  intro p l e s m args below meth c D cT ad A C H locs ls hL hP hS
  obtain ⟨hx, hT, hr, hml, hown, hts, hlk, hK, hD, hA, hO⟩ := id C
  obtain ⟨hF, hWD⟩ := WD_of C hP hS
  have hG : GoodIn TB (va_wsS M.own idx y (Cond.code y cc M2.nL M2.ty :: TB)) := by
    intro w hw
    rcases List.mem_append.mp hw with hw | hw
    · simp only [List.mem_cons, List.not_mem_nil, or_false] at hw
      rcases hw with rfl | rfl | rfl
      · exact ⟨hl1, good_of_word (tb_gd hl1)⟩
      · exact ⟨hl2, good_of_word (tb_gd hl2)⟩
      · exact ⟨hlc.1, good_of_word (tb_gd hlc.1)⟩
    · exact tb_goodIn hlc.2.1 w hw
  have hrw : ((rest.map (cv ad)).map fun v => v.category).sum ≤ 8 := by
    rw [List.map_map]
    rw [show ((fun v : Value => v.category) ∘ cv ad) = (fun v : Value => v.category) from funext (fun v => cv_cat ad v)]
    exact hw
  have hrun := va_runS (p := p) (l := l) (e := e) (R := rmd M.dep) (s := s) (m := m) (args := args) (below := below) (meth := meth) (c := c) (H := H) (locs := locs) (cells := 0) (slots := 0) (As := As.map (cv ad)) (rest := rest.map (cv ad)) (g := F0 m pc ls ((As.reverse ++ rest).map (cv ad))) ⟨hx, rfl, hml, hown, hts⟩ (hM l D cT ad H.size) (va_cwS As.length hts hG rfl rfl rfl hlc.2.2 (rm_ok hd hnl)) ⟨WD.blind, fun U hU hW => ⟨rfl, hWD U hU hW⟩⟩ rfl (by rw [List.length_map]) hL.1 (by rw [List.map_append, ← List.map_reverse]) (lv_room hrw) (C.dec h) ⟨Nat.zero_le _, Nat.zero_le _⟩
  refine W_call hrun hS hF (fun H1 locs1 hP1 hS1 => ?_)
  have := nx p l e s m args below meth c D cT ad A C H1 locs1 ls hL hP1 hS1
  rw [List.map_append] at this
  rw [show ((out2.1.map (cv ad)).toList) = (out2.1.toList.map (cv ad)) by cases out2.1 <;> rfl]
  exact this
theorem p_callV {idx q ci : Nat} {fs : List (Option Nat)} {y : MethodName} {cc : ByteArray} {M2 : Mi} {out2 : Out} {Tf : u_T} {N : Nat} (As rest : List Value) (h : M.1[k]? = some (pc, .invokevirtual idx, 3)) (hM : MR y cc M2 (.ref q :: As) S out2) (hlay : lay[q]? = some (.inr (.inl (ci, fs)))) (hcl : vwCl[ci]? = some (y.cls, Tf, N)) (hlc : LC y cc M2 As.length) (hl1 : Cond.methodLink M.own idx y ∈ TB) (hl2 : Cond.instanceMethod y ∈ TB) (hl3 : Cond.selects y.cls y y ∈ TB) (hd : M2.dep < M.dep) (hnl : M2.nL ≤ 13) (hw : (rest.map fun v => v.category).sum ≤ 8) (hst : As.reverse ++ .ref q :: rest = st) (nx : PW M out (pc + 3) L (out2.1.toList ++ rest) out2.2) : PW M out pc L st S := by
  subst hst
  intro p l e s m args below meth c D cT ad A C H locs ls hL hP hS
  obtain ⟨hx, hT, hr, hml, hown, hts, hlk, hK, hD, hA, hO⟩ := id C
  obtain ⟨hF, hWD⟩ := WD_of C hP hS
  have hG : GoodIn TB (wsV M.own idx y.cls y (Cond.code y cc M2.nL M2.ty :: TB)) := by
    intro w hw
    rcases List.mem_append.mp hw with hw | hw
    · simp only [List.mem_cons, List.not_mem_nil, or_false] at hw
      rcases hw with rfl | rfl | rfl | rfl
      · exact ⟨hl1, good_of_word (tb_gd hl1)⟩
      · exact ⟨hl2, good_of_word (tb_gd hl2)⟩
      · exact ⟨hl3, good_of_word (tb_gd hl3)⟩
      · exact ⟨hlc.1, good_of_word (tb_gd hlc.1)⟩
    · exact tb_goodIn hlc.2.1 w hw
  have hrw : ((rest.map (cv ad)).map fun v => v.category).sum ≤ 8 := by
    rw [List.map_map]
    rw [show ((fun v : Value => v.category) ∘ cv ad) = (fun v : Value => v.category) from funext (fun v => cv_cat ad v)]
    exact hw
  have hrun := va_runV (p := p) (l := l) (e := e) (R := rmd M.dep) (s := s) (m := m) (args := args) (below := below) (meth := meth) (c := c) (H := H) (locs := locs) (cells := 0) (slots := 0) (b := ad q) (As := As.map (cv ad)) (rest := rest.map (cv ad)) (g := F0 m pc ls ((As.reverse ++ .ref q :: rest).map (cv ad))) ⟨hx, rfl, hml, hown, hts⟩ (hM l D cT ad H.size) (cwV As.length hts hG rfl rfl rfl ⟨rfl, hlc.2.2⟩ (rm_ok hd hnl)) ⟨WD.blind, va_recv hK hP hcl (wl_get hlay), fun U hU hW => ⟨rfl, hWD U hU hW⟩⟩ rfl (by rw [List.length_map]) hL.1 (by rw [List.map_append, ← List.map_reverse]; rfl) (lv_room hrw) (C.dec h) ⟨Nat.zero_le _, Nat.zero_le _⟩
  refine W_call hrun hS hF (fun H1 locs1 hP1 hS1 => ?_)
  have := nx p l e s m args below meth c D cT ad A C H1 locs1 ls hL hP1 hS1
  rw [List.map_append] at this
  rw [show ((out2.1.map (cv ad)).toList) = (out2.1.toList.map (cv ad)) by cases out2.1 <;> rfl]
  exact this
/-- a private static method of a nest mate -/
theorem p_callSN {idx : Nat} {y : MethodName} {cc : ByteArray} {M2 : Mi} {out2 : Out} {host : String} (As rest : List Value) (h : M.1[k]? = some (pc, .invokestatic idx, 3)) (hM : MR y cc M2 As S out2) (hlc : LC y cc M2 As.length) (hl1 : Cond.methodLinkNest M.own idx y host ∈ nestW) (hl2 : Cond.static y ∈ TB) (hd : M2.dep < M.dep) (hnl : M2.nL ≤ 13) (hw : (rest.map fun v => v.category).sum ≤ 8) (hst : As.reverse ++ rest = st) (nx : PW M out (pc + 3) L (out2.1.toList ++ rest) out2.2) : PW M out pc L st S := by
  subst hst
  intro p l e s m args below meth c D cT ad A C H locs ls hL hP hS
  obtain ⟨hx, hT, hr, hml, hown, hts, hlk, hK, hD, hA, hO⟩ := id C
  obtain ⟨hF, hWD⟩ := WD_of C hP hS
  have hrw : ((rest.map (cv ad)).map fun v => v.category).sum ≤ 8 := by
    rw [List.map_map]
    rw [show ((fun v : Value => v.category) ∘ cv ad) = (fun v : Value => v.category) from funext (fun v => cv_cat ad v)]
    exact hw
  have hrun := va_runSN (p := p) (l := l) (e := e) (R := rmd M.dep) (s := s) (m := m) (args := args) (below := below) (meth := meth) (c := c) (H := H) (locs := locs) (cells := 0) (slots := 0) (As := As.map (cv ad)) (rest := rest.map (cv ad)) (g := F0 m pc ls ((As.reverse ++ rest).map (cv ad))) ⟨hx, rfl, hml, hown, hts⟩ (hM l D cT ad H.size) ⟨va_cnB As.length hts (tb_goodIn hlc.2.1) rfl rfl rfl (hO.1 _ hl1) (hts _ hlc.1) hlc.2.2 (rm_ok hd hnl), hts _ hl2, trivial⟩ ⟨WD.blind, fun U hU hW => ⟨rfl, hWD U hU hW⟩⟩ rfl (by rw [List.length_map]) hL.1 (by rw [List.map_append, ← List.map_reverse]) (lv_room hrw) (C.dec h) ⟨Nat.zero_le _, Nat.zero_le _⟩
  refine W_call hrun hS hF (fun H1 locs1 hP1 hS1 => ?_)
  have := nx p l e s m args below meth c D cT ad A C H1 locs1 ls hL hP1 hS1
  rw [List.map_append] at this
  rw [show ((out2.1.map (cv ad)).toList) = (out2.1.toList.map (cv ad)) by cases out2.1 <;> rfl]
  exact this
/-- System.arraycopy between two arrays of numbers -/
theorem p_copy {idx q0 q1 n0 n1 : Nat} {sp dp n : Int32} (rest : List Value) (h : M.1[k]? = some (pc, .invokestatic idx, 3)) (hl1 : Cond.methodLink M.own idx arraycopyName ∈ TB) (hl2 : Cond.native arraycopyName ∈ TB) (hl3 : Cond.static arraycopyName ∈ TB) (hl4 : Cond.initialized "java/lang/System" ∈ TB) (hq0 : lay[q0]? = some (.inl n0)) (hq1 : lay[q1]? = some (.inl n1)) (h1 : ¬ sp < 0) (h2 : ¬ dp < 0) (h3 : ¬ n < 0) (h4 : sp.toNatClampNeg + n.toNatClampNeg ≤ n0) (h5 : dp.toNatClampNeg + n.toNatClampNeg ≤ n1) (hd : 0 < M.dep) (hw : (rest.map fun v => v.category).sum ≤ 8)
    (nx : PW M out (pc + 3) L rest (upR S q1 (va_cpy (S q0) (S q1) sp.toNatClampNeg dp.toNatClampNeg n.toNatClampNeg))) : PW M out pc L (.int n :: .int dp :: .ref q1 :: .int sp :: .ref q0 :: rest) S := by
  intro p l e0 s m args below meth c D cT ad A C H locs ls hL hP hS
  obtain ⟨hx, hT, hr, hml, hown, hts, hlk, hK, hD, hA, hO⟩ := id C
  have hrw : ((rest.map (cv ad)).map fun v => v.category).sum ≤ 8 := by
    rw [List.map_map]
    rw [show ((fun v : Value => v.category) ∘ cv ad) = (fun v : Value => v.category) from funext (fun v => cv_cat ad v)]
    exact hw
  have hs : c.maxLocals = ls.size := hml.trans hL.1.symm
  have hfr : 1 ≤ (rmd M.dep).frames := hd
  have hlo : ((rest.map (cv ad)).map fun v => v.category).sum + (nativeFrameWords "java/lang/System" "arraycopy" 5 + 11) ≤ (rmd M.dep).locals := by
    have e1 : nativeFrameWords "java/lang/System" "arraycopy" 5 = 7 := by decide
    have e2 : (rmd M.dep).locals = 32 * M.dep := rfl
    rw [e1, e2]
    have : 0 < M.dep := hd
    omega
  refine va_copyi (rest := rest.map (cv ad)) hx rfl hs hown (hts _ hl1) (hts _ hl2) (hts _ hl3) (hts _ hl4) hK hP (hD S) hS q0 q1 0 0 (f := S q0) (g := S q1) (ty := .int) (wl_get hq0) (wl_get hq1) rfl rfl rfl h1 h2 h3 h4 h5 (fun _ _ => rfl) hfr hlo (C.dec h) (fun H1 locs1 hP1 hD1 hS1 => ?_)
  have e : (wl cT ad S).set q1 (ad q1, .inl (cT 0, n1, .inl (va_cpy (S q0) (S q1) sp.toNatClampNeg dp.toNatClampNeg n.toNatClampNeg))) = wl cT ad (upR S q1 (va_cpy (S q0) (S q1) sp.toNatClampNeg dp.toNatClampNeg n.toNatClampNeg)) := wl_set (f := va_cpy (S q0) (S q1) sp.toNatClampNeg dp.toNatClampNeg n.toNatClampNeg) hq1
  rw [e] at hP1
  exact nx p l e0 s m args below meth c D cT ad A C H1 locs1 ls hL hP1 hS1
end CALLS
