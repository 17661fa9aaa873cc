/-! Constructors: a walk over a world of cells that grows (NW), its rows, and its calls. -/
def nestN : List Cond := [.methodLinkNest RX4 28 yX3_init RX4, .methodLinkNest RX4 48 yX2_init RX4]
def rmn (d mc ms : Nat) : Room := { frames := d, cells := mc, slots := ms, locals := 32 * d }
def QN (D : va_G) (A : Nat → Prop) (Fn : va_W → Prop) : Array Value → State → Outcome → State → Prop := fun _ st oc t => oc = .returned none ∧ (∃ w : va_W, Fn w ∧ va_P D vwCl w t.heap ∧ va_D A w) ∧ va_F A st t
def CN (M : Mi) (p : Program) (e : Env) (s : State) (m : MethodId) (args : Array Value) (meth : Method) (c : Code) (D : va_G) (cT : Nat → ClassId) (A : Nat → Prop) : Prop :=
  p.tables.exec = Jvm.exec ∧ (∀ q ∈ M.1, decode c.code q.1 = .ok q.2) ∧ meth.sig.returnType = none ∧ c.maxLocals = M.2.2.2.1 ∧ s.vm.findClass M.2.1 = some m.cls ∧ (∀ w ∈ TB, w.before args s = true) ∧ meth.locks = false ∧ va_K D vwCl (tyl cT) s ∧ (∀ q, s.heap.size ≤ q → A q) ∧ (∀ w ∈ nestN, va_Nw w s) ∧ meth.name = "<init>" ∧ va_AO RX2 s
def NW (M : Mi) (mc ms : Nat) (cT : Nat → ClassId) (Fn : va_W → Prop) (c0 s0 pc : Nat) (L : List (Option Value)) (st : List Value) (ws : va_W) : Prop :=
  ∀ (p : Program) (l : Launch) (e : Env) (s : State) (m : MethodId) (args : Array Value) (below : List Frame) (meth : Method) (c : Code) (D : va_G) (A : Nat → Prop), CN M p e s m args meth c D cT A →
  ∀ (H : Heap) (locs : List Loc) (ls : Array Slot), LR id ls M.2.2.2.1 L → va_P D vwCl ws H → va_D A ws → va_S A s.heap H locs →
  W p l e (rmn M.2.2.1 mc ms) s m args below meth c H locs c0 s0 (MQ below (QN D A Fn) args s mc ms A) (F0 m pc ls st)
theorem CN.dec {M : Mi} {p : Program} {e : Env} {s : State} {m : MethodId} {args : Array Value} {meth : Method} {c : Code} {D : va_G} {cT : Nat → ClassId} {A : Nat → Prop} (C : CN M p e s m args meth c D cT A) {k pc len : Nat} {i : Instr} (h : M.1[k]? = some (pc, i, len)) : decode c.code pc = .ok (i, len) := by
  have h1 := C.2.1 _ (List.mem_of_getElem? h)
  exact h1
theorem cv_id (v : Value) : cv id v = v := by cases v <;> rfl
section NROWS
variable {M : Mi} {mc ms : Nat} {cT : Nat → ClassId} {Fn : va_W → Prop} {c0 s0 pc k : Nat} {L : List (Option Value)} {st : List Value} {ws : va_W}
theorem n_iconst {n : Int} (v : Int32) (h : M.1[k]? = some (pc, .iconst n, 1)) (hv : Int32.ofInt n = v) (nx : NW M mc ms cT Fn c0 s0 (pc + 1) L (.int v :: st) ws) : NW M mc ms cT Fn c0 s0 pc L st ws := by
  intro p l e0 s m args below meth c D A C H locs ls hL hP hD hS
  exact lv_iconst C.1 rfl (C.dec h) hv (nx p l e0 s m args below meth c D A C H locs ls hL hP hD hS)
theorem n_bipush {n : Int} (v : Int32) (h : M.1[k]? = some (pc, .bipush n, 2)) (hv : (Int8.ofInt n).toInt32 = v) (nx : NW M mc ms cT Fn c0 s0 (pc + 2) L (.int v :: st) ws) : NW M mc ms cT Fn c0 s0 pc L st ws := by
  intro p l e0 s m args below meth c D A C H locs ls hL hP hD hS
  exact lv_bipush C.1 rfl (C.dec h) hv (nx p l e0 s m args below meth c D A C H locs ls hL hP hD hS)
theorem n_sipush {n : Int} (v : Int32) (h : M.1[k]? = some (pc, .sipush n, 3)) (hv : (Int16.ofInt n).toInt32 = v) (nx : NW M mc ms cT Fn c0 s0 (pc + 3) L (.int v :: st) ws) : NW M mc ms cT Fn c0 s0 pc L st ws := by
  intro p l e0 s m args below meth c D A C H locs ls hL hP hD hS
  exact lv_sipush C.1 rfl (C.dec h) hv (nx p l e0 s m args below meth c D A C H locs ls hL hP hD hS)
theorem n_aload_n {n : Fin 4} {i a : Nat} (h : M.1[k]? = some (pc, .aload_n n, 1)) (hi : (n : Nat) = i) (hl : L[i]? = some (some (.ref a))) (nx : NW M mc ms cT Fn c0 s0 (pc + 1) L (.ref a :: st) ws) : NW M mc ms cT Fn c0 s0 pc L st ws := by
  intro p l e0 s m args below meth c D A C H locs ls hL hP hD hS
  exact lv_aload_n C.1 rfl (C.dec h) hi (hL.2.2 _ _ hl) (nx p l e0 s m args below meth c D A C H locs ls hL hP hD hS)
theorem n_iload_n {n : Fin 4} {i : Nat} {x : Int32} (h : M.1[k]? = some (pc, .iload_n n, 1)) (hi : (n : Nat) = i) (hl : L[i]? = some (some (.int x))) (nx : NW M mc ms cT Fn c0 s0 (pc + 1) L (.int x :: st) ws) : NW M mc ms cT Fn c0 s0 pc L st ws := by
  intro p l e0 s m args below meth c D A C H locs ls hL hP hD hS
  exact lv_iload_n C.1 rfl (C.dec h) hi (hL.2.2 _ _ hl) (nx p l e0 s m args below meth c D A C H locs ls hL hP hD hS)
theorem n_istore_n {n : Fin 4} (i : Nat) {x : Int32} (L' : List (Option Value)) (h : M.1[k]? = some (pc, .istore_n n, 1)) (hi : (n : Nat) = i) (hg : lg2 L i = false) (hn : i < M.2.2.2.1) (hset : L.set i (some (.int x)) = L') (nx : NW M mc ms cT Fn c0 s0 (pc + 1) L' st ws) : NW M mc ms cT Fn c0 s0 pc L (.int x :: st) ws := by
  intro p l e0 s m args below meth c D A C H locs ls hL hP hD hS
  exact lv_istore_n C.1 rfl (C.dec h) hi hL.has hn rfl (fun ls2 h2 => nx p l e0 s m args below meth c D A C H locs ls2 (hset ▸ LR.set1 (v := .int x) hg h2) hP hD hS)
theorem n_iinc {i : Nat} {n : Int} {x : Int32} (v : Int32) (L' : List (Option Value)) (h : M.1[k]? = some (pc, .iinc i n, 3)) (hl : L[i]? = some (some (.int x))) (hv : x + Int32.ofInt n = v) (hg : lg2 L i = false) (hn : i < M.2.2.2.1) (hset : L.set i (some (.int v)) = L') (nx : NW M mc ms cT Fn c0 s0 (pc + 3) L' st ws) : NW M mc ms cT Fn c0 s0 pc L st ws := by
  intro p l e0 s m args below meth c D A C H locs ls hL hP hD hS
  obtain ⟨j, hj⟩ := List.getElem?_of_mem (asc_mem (ad := id) (q := (i, .int x)).mpr ⟨.int x, hl, rfl⟩)
  exact lv_iinc C.1 rfl (C.dec h) hL.has hj hv hn rfl (fun ls2 h2 => nx p l e0 s m args below meth c D A C H locs ls2 (hset ▸ LR.set1 (v := .int v) hg h2) hP hD hS)
theorem n_iadd {x y : Int32} (v : Int32) (h : M.1[k]? = some (pc, .iadd, 1)) (hv : x + y = v) (nx : NW M mc ms cT Fn c0 s0 (pc + 1) L (.int v :: st) ws) : NW M mc ms cT Fn c0 s0 pc L (.int y :: .int x :: st) ws := by
  subst hv
  intro p l e0 s m args below meth c D A C H locs ls hL hP hD hS
  exact lv_iadd C.1 rfl (C.dec h) (nx p l e0 s m args below meth c D A C H locs ls hL hP hD hS)
theorem n_goto {off : Int} (tgt : Nat) (h : M.1[k]? = some (pc, .goto off, 3)) (ht : (pc : Int) + off = (tgt : Int)) (nx : NW M mc ms cT Fn c0 s0 tgt L st ws) : NW M mc ms cT Fn c0 s0 pc L st ws := by
  intro p l e0 s m args below meth c D A C H locs ls hL hP hD hS
  exact lv_goto C.1 rfl (C.dec h) ht (nx p l e0 s m args below meth c D A C H locs ls hL hP hD hS)
theorem n_ge_t {off : Int} {x y : Int32} (tgt : Nat) (h : M.1[k]? = some (pc, .if_icmp .ge off, 3)) (ht : (pc : Int) + off = (tgt : Int)) (hc : y ≤ x) (nx : NW M mc ms cT Fn c0 s0 tgt L st ws) : NW M mc ms cT Fn c0 s0 pc L (.int y :: .int x :: st) ws := by
  intro p l e0 s m args below meth c D A C H locs ls hL hP hD hS
  exact lv_icmp_ge C.1 rfl (C.dec h) ht (fun _ => nx p l e0 s m args below meth c D A C H locs ls hL hP hD hS) (fun q => absurd hc q)
theorem n_ge_f {off : Int} {x y : Int32} (tgt : Nat) (h : M.1[k]? = some (pc, .if_icmp .ge off, 3)) (ht : (pc : Int) + off = (tgt : Int)) (hc : ¬ y ≤ x) (nx : NW M mc ms cT Fn c0 s0 (pc + 3) L st ws) : NW M mc ms cT Fn c0 s0 pc L (.int y :: .int x :: st) ws := by
  intro p l e0 s m args below meth c D A C H locs ls hL hP hD hS
  exact lv_icmp_ge C.1 rfl (C.dec h) ht (fun q => absurd q hc) (fun _ => nx p l e0 s m args below meth c D A C H locs ls hL hP hD hS)
theorem n_dup {v : Value} (h : M.1[k]? = some (pc, .dup, 1)) (hv : v.category = 1) (nx : NW M mc ms cT Fn c0 s0 (pc + 1) L (v :: v :: st) ws) : NW M mc ms cT Fn c0 s0 pc L (v :: st) ws := by
  intro p l e0 s m args below meth c D A C H locs ls hL hP hD hS
  exact lv_dup C.1 rfl (C.dec h) hv (nx p l e0 s m args below meth c D A C H locs ls hL hP hD hS)
theorem n_obj {idx a : Nat} (h : M.1[k]? = some (pc, .invokespecial idx, 3)) (hl1 : Cond.methodLink M.own idx objectInit ∈ TB) (hl2 : Cond.instanceMethod objectInit ∈ TB) (hl3 : Cond.code objectInit ⟨#[0xb1]⟩ 1 none ∈ TB) (hd : 0 < M.dep) (hw : (st.map fun v => v.category).sum ≤ 8) (nx : NW M mc ms cT Fn c0 s0 (pc + 3) L st ws) : NW M mc ms cT Fn c0 s0 pc L (.ref a :: st) ws := by
  intro p l e0 s m args below meth c D A C H locs ls hL hP hD hS
  obtain ⟨hx, hT, hr, hml, hown, hts, hlk, hK, hA, hN, hin, hAO⟩ := id C
  have hlo : 2 * (F0 m pc ls (.ref a :: st)).monitorRoom + (st.map fun v => v.category).sum + 12 ≤ (rmn M.dep mc ms).locals := by
    have e1 := lv_room (m := m) (pc := pc) (ls := ls) (rest := .ref a :: st) hw
    have e2 : (rmn M.dep mc ms).locals = 32 * M.dep := rfl
    have : 0 < M.dep := hd
    rw [e2]
    omega
  exact W.objInit hx rfl hown (hts _ hl1) (hts _ hl2) (hts _ hl3) rfl (hL.1.trans hml.symm) rfl (C.dec h) hd hlo (nx p l e0 s m args below meth c D A C H locs ls hL hP hD hS)
theorem n_new {idx ci N : Nat} {fs : List Value} {Tf : u_T} (C0 : String) (ty : Nat → FieldType) (h : M.1[k]? = some (pc, .new idx, 3)) (hc : vwCl[ci]? = some (C0, Tf, N)) (hin : ∀ w ∈ u_ws C0 Tf N, w ∈ TB) (hty : ∀ k, k < N → parseFieldDescriptor (Tf k).2.2.1 = some (ty k)) (hl1 : Cond.classLink M.own idx C0 ∈ TB) (hl2 : Cond.instantiable C0 N ∈ TB) (hl3 : Cond.initialized C0 ∈ TB) (hfs : ∀ j, j < N → defaultValue (ty j) = vp_V fs j) (hc1 : c0 + 1 ≤ mc) (hs1 : s0 + N ≤ ms) (nx : ∀ q : Nat, NW M mc ms cT Fn (c0 + 1) (s0 + N) (pc + 3) L (.ref q :: st) (ws ++ [(q, .inr (ci, fs))])) : NW M mc ms cT Fn c0 s0 pc L st ws := by
  intro p l e0 s m args below meth c D A C H locs ls hL hP hD hS
  obtain ⟨hx, hT, hr, hml, hown, hts, hlk, hK, hA, hN, hi9, hAO⟩ := id C
  exact va_new (C := C0) (T := Tf) (N := N) (ci := ci) (fs := fs) hx rfl hts hin ty hty hown (hts _ hl1) (hts _ hl2) (hts _ hl3) hK hP hD hS hA hc hfs hc1 hs1 (C.dec h) (fun q H1 hP1 hD1 hS1 => nx q p l e0 s m args below meth c D A C H1 locs ls hL hP1 hD1 hS1)
theorem n_newa {n : Int32} (N : Nat) (h : M.1[k]? = some (pc, .newarray .int, 2)) (harr : Cond.arrayClass .int ∈ TB) (hn : ¬ n < 0) (hN : n.toNatClampNeg = N) (hb : N * 4 ≤ 536870912) (hc1 : c0 + 1 ≤ mc) (hs1 : s0 + N ≤ ms) (nx : ∀ q : Nat, NW M mc ms cT Fn (c0 + 1) (s0 + N) (pc + 2) L (.ref q :: st) (ws ++ [(q, .inl (cT 0, N, .inl (fun _ => 0)))])) : NW M mc ms cT Fn c0 s0 pc L (.int n :: st) ws := by
  intro p l e0 s m args below meth c D A C H locs ls hL hP hD hS
  obtain ⟨hx, hT, hr, hml, hown, hts, hlk, hK, hA, hN9, hi9, hAO⟩ := id C
  refine va_newa (atype := .int) (ty := .int) (a0 := (N, .inl (fun _ => 0))) hx rfl (hts _ harr) rfl hK hP hD hS hA (fun cA => rfl) hn hN hb hc1 hs1 (C.dec h) (fun q cA H1 hK1 hP1 hD1 hS1 => ?_)
  have h1 : s.vm.findClass ("[" ++ FieldType.int.toString) = some cA := (hK1.2 2 (cA, .int) rfl).2
  have h2 : s.vm.findClass ("[" ++ FieldType.int.toString) = some (cT 0) := (hK.2 0 (cT 0, .int) rfl).2
  have h3 : cT 0 = cA := Option.some.inj (h2.symm.trans h1)
  subst h3
  exact nx q p l e0 s m args below meth c D A C H1 locs ls hL hP1 hD1 hS1
theorem n_anewa {idx : Nat} {n : Int32} (N : Nat) (h : M.1[k]? = some (pc, .anewarray idx, 3)) (hl1 : Cond.classLink M.own idx RX2 ∈ TB) (hn : ¬ n < 0) (hN : n.toNatClampNeg = N) (hb : N * 4 ≤ 536870912) (hc1 : c0 + 1 ≤ mc) (hs1 : s0 + N ≤ ms) (nx : ∀ q : Nat, NW M mc ms cT Fn (c0 + 1) (s0 + N) (pc + 3) L (.ref q :: st) (ws ++ [(q, .inl (cT 1, N, .inr (.inr (.inr (.inr (fun _ => none))))))])) : NW M mc ms cT Fn c0 s0 pc L (.int n :: st) ws := by
  intro p l e0 s m args below meth c D A C H locs ls hL hP hD hS
  obtain ⟨hx, hT, hr, hml, hown, hts, hlk, hK, hA, hN9, hi9, hAO⟩ := id C
  refine va_newq hx rfl hown (hts _ hl1) hAO hK hP hD hS hA hn hN hb hc1 hs1 (C.dec h) (fun q cA H1 hK1 hP1 hD1 hS1 => ?_)
  obtain ⟨k1, comp1, -, -, -, h1⟩ := (hK1.2 2 (cA, .object RX2) rfl).2
  obtain ⟨k2, comp2, -, -, -, h2⟩ := (hK.2 1 (cT 1, .object RX2) rfl).2
  have h3 : cT 1 = cA := Option.some.inj (h2.symm.trans h1)
  subst h3
  exact nx q p l e0 s m args below meth c D A C H1 locs ls hL hP1 hD1 hS1
theorem n_getr {idx ci j q0 a : Nat} {fs : List Value} {v : Value} (h : M.1[k]? = some (pc, .getfield idx, 3)) (hw : ws[q0]? = some (a, .inr (ci, fs))) (hf : fs[j]? = some v) (hF : FL M.2.1 idx ci j) (nx : NW M mc ms cT Fn c0 s0 (pc + 3) L (v :: st) ws) : NW M mc ms cT Fn c0 s0 pc L (.ref a :: st) ws := by
  intro p l e0 s m args below meth c D A C H locs ls hL hP hD hS
  obtain ⟨hx, hT, hr, hml, hown, hts, hlk, hK, hA, hN9, hi9, hAO⟩ := id C
  obtain ⟨C0, Tf, N, hc, hj, hlink, hin⟩ := hF
  exact va_get (D := D) (cl := vwCl) (ci := ci) (v := v) (C := C0) (T := Tf) (N := N) hx rfl hts hin hown hK hP q0 hw hc j hj (hts _ hlink) (fun _ h9 => h9) hf (C.dec h) (nx p l e0 s m args below meth c D A C H locs ls hL hP hD hS)
theorem n_puti {idx ci j q0 a : Nat} {fs : List Value} {v : Int32} {ty : FieldType} (ws' : va_W) (h : M.1[k]? = some (pc, .putfield idx, 3)) (hw : ws[q0]? = some (a, .inr (ci, fs))) (hF : FL M.2.1 idx ci j) (hG : FP ci j ty) (hn : narrow ty (.int v) = .int v) (hfit : fits ty (.int v) = true) (hlen : Nat.ble (j + 1) fs.length = true) (e : ws.set q0 (a, .inr (ci, fs.set j (.int v))) = ws') (nx : NW M mc ms cT Fn c0 s0 (pc + 3) L st ws') : NW M mc ms cT Fn c0 s0 pc L (.int v :: .ref a :: st) ws := by
  subst e
  intro p l e0 s m args below meth c D A C H locs ls hL hP hD hS
  obtain ⟨hx, hT, hr, hml, hown, hts, hlk, hK, hA, hN9, hi9, hAO⟩ := id C
  obtain ⟨C0, Tf, N, hc, hj, hlink, hin⟩ := hF
  obtain ⟨C1, T1, N1, ty0, hc1, hty, hnm, hfin, hty1⟩ := hG
  cases hc.symm.trans hc1
  exact va_put (D := D) (cl := vwCl) (ci := ci) (v := .int v) (ty := ty) (C := C0) (T := Tf) (N := N) hx rfl hts hin ty0 hty hnm hown hK hP hD hS q0 hw hc j hj (hts _ hlink) (fun _ h9 => h9) hfin hty1 hn hfit (Nat.le_of_ble_eq_true hlen) (C.dec h) (fun H1 locs1 hP1 hD1 hS1 => nx p l e0 s m args below meth c D A C H1 locs1 ls hL hP1 hD1 hS1)
/-- a final field that holds a reference -/
def FR (own : String) (ci j : Nat) : Prop := ∃ (C : String) (T : u_T) (N : Nat) (ty0 : Nat → FieldType), vwCl[ci]? = some (C, T, N) ∧ (∀ k, k < N → parseFieldDescriptor (T k).2.2.1 = some (ty0 k)) ∧ (∀ a, a < N → ∀ b, b < N → a ≠ b → (T a).2.1 ≠ (T b).2.1) ∧ (T j).2.2.2 = true ∧ (T j).1 = own ∧ ∃ ty, parseFieldDescriptor (T j).2.2.1 = some ty ∧ ∀ q : Nat, narrow ty (.ref q) = .ref q ∧ fits ty (.ref q) = true
theorem n_putr {idx ci j q0 a q : Nat} {fs : List Value} (ws' : va_W) (h : M.1[k]? = some (pc, .putfield idx, 3)) (hw : ws[q0]? = some (a, .inr (ci, fs))) (hF : FL M.2.1 idx ci j) (hG : FR M.2.1 ci j) (hlen : Nat.ble (j + 1) fs.length = true) (e : ws.set q0 (a, .inr (ci, fs.set j (.ref q))) = ws') (nx : NW M mc ms cT Fn c0 s0 (pc + 3) L st ws') : NW M mc ms cT Fn c0 s0 pc L (.ref q :: .ref a :: st) ws := by
  subst e
  intro p l e0 s m args below meth c D A C H locs ls hL hP hD hS
  obtain ⟨hx, hT, hr, hml, hown, hts, hlk, hK, hA, hN9, hi9, hAO⟩ := id C
  obtain ⟨C0, Tf, N, hc, hj, hlink, hin⟩ := hF
  obtain ⟨C1, T1, N1, ty0, hc1, hty, hnm, hfin, hdecl, ty, hty1, hnf⟩ := hG
  cases hc.symm.trans hc1
  exact va_putF (D := D) (cl := vwCl) (ci := ci) (v := .ref q) (ty := ty) (C := C0) (T := Tf) (N := N) hx rfl hts hin ty0 hty hnm hown hK hP hD hS q0 hw hc j hj (hts _ hlink) (fun _ h9 => h9) hfin hi9 hdecl hty1 (hnf q).1 (hnf q).2 (Nat.le_of_ble_eq_true hlen) (C.dec h) (fun H1 locs1 hP1 hD1 hS1 => nx p l e0 s m args below meth c D A C H1 locs1 ls hL hP1 hD1 hS1)
theorem n_iast {q0 a n : Nat} {f : Nat → Int32} {i x : Int32} (j : Nat) (ws' : va_W) (h : M.1[k]? = some (pc, .iastore, 1)) (hw : ws[q0]? = some (a, .inl (cT 0, n, .inl f))) (hi : i = nI j) (hj : j < n) (hn : n < 2 ^ 31) (e : ws.set q0 (a, .inl (cT 0, n, .inl (upd f j x))) = ws') (nx : NW M mc ms cT Fn c0 s0 (pc + 1) L st ws') : NW M mc ms cT Fn c0 s0 pc L (.int x :: .int i :: .ref a :: st) ws := by
  subst e
  subst hi
  intro p l e0 s m args below meth c D A C H locs ls hL hP hD hS
  obtain ⟨hx, hT, hr, hml, hown, hts, hlk, hK, hA, hN9, hi9, hAO⟩ := id C
  refine va_iast hx rfl hK hP hD hS q0 0 hw rfl (vp_in_nI hj hn) (C.dec h) (fun H1 locs1 hP1 hD1 hS1 => ?_)
  rw [nI_clamp (by omega)] at hP1 hD1
  exact nx p l e0 s m args below meth c D A C H1 locs1 ls hL hP1 hD1 hS1
theorem n_aast {q0 qk a v n : Nat} {f : Nat → Option Nat} {vs : List Value} {i : Int32} (j : Nat) (ws' : va_W) (h : M.1[k]? = some (pc, .aastore, 1)) (hw : ws[q0]? = some (a, .inl (cT 1, n, .inr (.inr (.inr (.inr f)))))) (hv : ws[qk]? = some (v, .inr (2, vs))) (hi : i = nI j) (hj : j < n) (hn : n < 2 ^ 31) (e : ws.set q0 (a, .inl (cT 1, n, .inr (.inr (.inr (.inr (va_up f j (some v))))))) = ws') (nx : NW M mc ms cT Fn c0 s0 (pc + 1) L st ws') : NW M mc ms cT Fn c0 s0 pc L (.ref v :: .int i :: .ref a :: st) ws := by
  subst e
  subst hi
  intro p l e0 s m args below meth c D A C H locs ls hL hP hD hS
  obtain ⟨hx, hT, hr, hml, hown, hts, hlk, hK, hA, hN9, hi9, hAO⟩ := id C
  refine va_astq hx rfl hK hP hD hS q0 1 qk 2 (r := (RX2, TX2, 3)) hw rfl hv rfl (vp_in_nI hj hn) (C.dec h) (fun H1 locs1 hP1 hD1 hS1 => ?_)
  rw [nI_clamp (by omega)] at hP1 hD1
  exact nx p l e0 s m args below meth c D A C H1 locs1 ls hL hP1 hD1 hS1
theorem n_vret (h : M.1[k]? = some (pc, .return_, 1)) (hc1 : c0 ≤ mc) (hs1 : s0 ≤ ms) (hf : Fn ws) : NW M mc ms cT Fn c0 s0 pc L [] ws := by
  intro p l e0 s m args below meth c D A C H locs ls hL hP hD hS
  obtain ⟨hx, hT, hr, hml, hown, hts, hlk, hK, hA, hN9, hi9, hAO⟩ := id C
  refine W.widen (k := mc) (n := ms) hc1 hs1 ?_
  exact W.vret hx rfl hr (fun t ht hW => ⟨rfl, ⟨ws, hf, by rw [ht]; exact hP, hD⟩, hS.F ht⟩) hS.2.2 (C.dec h) hlk
end NROWS
/-- a constructor's contract -/
def WN (D : va_G) (cT : Nat → ClassId) (sz : Nat) (w0 : va_W) (U : State) : Prop := U.heap.size = sz ∧ va_P D vwCl w0 U.heap ∧ va_K D vwCl (tyl cT) U ∧ va_D (fun _ => True) w0 ∧ (∀ w ∈ nestN, va_Nw w U) ∧ va_AO RX2 U
def NC (y : MethodName) (cc : ByteArray) (M : Mi) (mc ms : Nat) (cT : Nat → ClassId) (args : List Value) (w0 : va_W) (Fn : va_W → Prop) : Prop :=
  ∀ (l : Launch) (D : va_G) (sz : Nat), Met l y (Cond.code y cc M.nL none :: TB) (rmn M.dep mc ms) (va_Pc args (WN D cT sz w0)) (QN D (va_A w0 sz) Fn) mc ms (va_A w0 sz)
theorem WN.blind {as : List Value} {D : va_G} {cT : Nat → ClassId} {sz : Nat} {w0 : va_W} : FrameBlind (va_Pc as (WN D cT sz w0)) := by
  intro a U g mk q
  obtain ⟨q0, q1, qP, qK, qD, qN, qA⟩ := q
  refine ⟨q0, q1, qP, va_K.moved (u := U) (U := U.calling g mk a) (Vm.Alike.refl U.vm) qK, qD, fun w hw => ?_, va_AO.moved (u := U) (U := U.calling g mk a) (Vm.Alike.refl U.vm) qA⟩
  have h1 := qN w hw
  simp only [nestN, List.mem_cons, List.not_mem_nil, or_false] at hw
  rcases hw with rfl | rfl
  · exact va_Nw.same rfl (u := U) (U := U.calling g mk a) rfl h1
  · exact va_Nw.same rfl (u := U) (U := U.calling g mk a) rfl h1
theorem nestN_warm {s U : State} (hW : s.WarmedH U.vm) (h : ∀ w ∈ nestN, va_Nw w s) : ∀ w ∈ nestN, va_Nw w U := by
  intro w hw
  have h1 := h w hw
  simp only [nestN, List.mem_cons, List.not_mem_nil, or_false] at hw
  rcases hw with rfl | rfl
  · exact va_Nw.warmM hW h1
  · exact va_Nw.warmM hW h1
theorem NC.of {y : MethodName} {cc : ByteArray} {M : Mi} {mc ms : Nat} {cT : Nat → ClassId} {as : List Value} {w0 : va_W} {Fn : va_W → Prop} {n : Nat} {L : List (Option Value)} (ok : MOK y cc M) (hy1 : y.name = "<init>") (hM0 : M.ty = none) (hL : entL as ++ List.replicate n none = L) (hn : L.length = M.nL) (h : NW M mc ms cT Fn 0 0 0 L [] w0) : NC y cc M mc ms cT as w0 Fn := by
  obtain ⟨hy, hcls, hT⟩ := ok
  intro l D sz
  refine Met.ofW (cc := cc) (maxL := M.nL) (ret := none) hy rfl ?_
  intro p e s m args below meth c s₁ B hml hv
  obtain ⟨rfl, hsz, hP, hK, hD0, hN, hAO⟩ := hv
  have hb := B.bytes
  have hts := atoms_spec (ws := Cond.code y cc M.nL none :: TB) B.pre
  have hown : s.vm.findClass y.cls = some m.cls := findClass_of_methodNamed B.named
  rw [hcls] at hown
  have hin : meth.name = "<init>" := (name_of_methodNamed B.named B.method).1.trans hy1
  subst hsz
  have hmap : as.map (cv id) = as := by
    rw [show cv id = id from funext cv_id, List.map_id]
  have hlen : (lg_sl as).length ≤ M.nL := by
    rw [entL_len, ← hn, ← hL, List.length_append]
    omega
  have hl := lv_entry as (n := M.nL) hlen
  rw [lg_entry_eq]
  have hLR : LR id ((lg_sl as ++ List.replicate (M.nL - (lg_sl as).length) Slot.unset).toArray) M.nL L := by
    refine ⟨hl.1, hl.2.1, fun i v hi => ?_⟩
    rw [← hL] at hi
    have h1 := entL_in id as n 0 i v hi
    rw [Nat.zero_add, hmap] at h1
    exact hl.2.2 _ h1
  exact h p l e s m _ below meth c D (va_A w0 s.heap.size) ⟨B.exec, by rw [hb]; exact hT, B.returns, hml, hown, fun w hw => hts w (List.mem_cons_of_mem _ hw), B.notSynchronized, hK, fun q hq => Or.inr hq, hN, hin, hAO⟩ s.heap [] _ hLR hP hD0.self va_S.rf
theorem nd_of : ∀ (l : List Nat), l.Nodup → va_nd l = true
  | [], _ => rfl
  | a :: l, h => by
    obtain ⟨h1, h2⟩ := List.nodup_cons.mp h
    simp only [va_nd, Bool.and_eq_true, decide_eq_true_eq]
    exact ⟨h1, nd_of l h2⟩
theorem rng_l (wr w0 : va_W) : (List.range wr.length).map (fun i => (wr ++ w0)[i]?) = wr.map some := by
  apply List.ext_getElem?
  intro i
  by_cases h : i < wr.length
  · rw [List.getElem?_map, List.getElem?_range h, List.getElem?_map]
    show some ((wr ++ w0)[i]?) = (wr[i]?).map some
    rw [List.getElem?_append_left h, List.getElem?_eq_getElem h]
    rfl
  · rw [List.getElem?_eq_none (by simp; omega), List.getElem?_eq_none (by simp; omega)]
theorem rng_r (wr : va_W) (x : Nat × va_E) : [wr.length].map (fun i => (wr ++ [x])[i]?) = [x].map some := by simp
section NCALLS
variable {M : Mi} {mc ms : Nat} {cT : Nat → ClassId} {Fn : va_W → Prop} {c0 s0 pc k : Nat} {L : List (Option Value)} {st : List Value}
theorem N_call {p : Program} {l : Launch} {e : Env} {R : Room} {s : State} {m : MethodId} {args : Array Value} {below : List Frame} {meth : Method} {c : Code} {H : Heap} {locs : List Loc} {Q : State → Prop} {ls : Array Slot} {rest st0 : List Value} {a : Array Value} {A A1 : Nat → Prop} {D : va_G} {Fin2 : va_W → Prop} {mc2 ms2 : Nat}
    (hr : va_Run p l e R s m args below meth c H locs c0 s0 mc2 ms2 (F0 m pc ls st0) rest (QN D A1 Fin2 a) A1) (hS : va_S A s.heap H locs) (hA : ∀ q, A1 q → A q)
    (kk : ∀ (w1 : va_W) (H1 : Heap) (locs1 : List Loc), Fin2 w1 → va_P D vwCl w1 H1 → va_D A1 w1 → (∀ q : Nat, q < H.size → ¬ A1 q → H1[q]? = H[q]?) → va_S A s.heap H1 locs1 → W p l e R s m args below meth c H1 locs1 (c0 + mc2) (s0 + ms2) Q (F0 m (pc + 3) ls rest)) : W p l e R s m args below meth c H locs c0 s0 Q (F0 m pc ls st0) := by
  intro T hT X
  obtain ⟨v, st₀, t, T', L, h0, X', hL, e1, e2, ⟨hv, ⟨w1, hf, hP, hD⟩, hz, hk⟩, st⟩ := hr T hT X
  cases hv
  rw [h0] at hz hk
  obtain ⟨t2, a1, b1⟩ := kk w1 T'.heap (locs ++ L) hf (by rw [e1]; exact hP) hD (fun q h1 h2 => by rw [e1]; exact hk q h1 h2)
    ⟨Nat.le_trans hS.1 (by rw [e1]; exact hz), fun q h1 h2 => by rw [e1, hk q (Nat.lt_of_lt_of_le h1 hS.1) (fun z => h2 (hA q z))]; exact hS.2.1 q h1 h2, fun q hq => by
      rcases List.mem_append.mp hq with h | h
      · exact hS.2.2 q h
      · exact hA _ (hL q h)⟩ T' rfl X'
  exact ⟨t2, st t2 a1, b1⟩
/-- what the tables say of a constructor -/
def LN (y : MethodName) (cc : ByteArray) (M2 : Mi) (n : Nat) : Prop := Cond.initialized y.cls ∈ TB ∧ Cond.code y cc M2.nL none ∈ TB ∧ (y.cls ≠ "java/lang/invoke/MethodHandle" ∧ y.cls ≠ "java/lang/invoke/VarHandle" ∧ (parseMethodDescriptor y.desc).map (fun d => d.parameters.length) = some n) ∧ y.name = "<init>" ∧ Cond.instanceMethod y ∈ TB
theorem rn_ok {M2 : Mi} {mc2 ms2 : Nat} (hd : M2.dep < M.dep) (hnl : M2.nL ≤ 13) : (rmn M2.dep mc2 ms2).frames + 1 ≤ (rmn M.dep mc ms).frames ∧ 8 + (M2.nL + 11) + (rmn M2.dep mc2 ms2).locals ≤ (rmn M.dep mc ms).locals := by
  show M2.dep + 1 ≤ M.dep ∧ 8 + (M2.nL + 11) + 32 * M2.dep ≤ 32 * M.dep
  omega
theorem n_ctor {wr : va_W} {q idx mc2 ms2 : Nat} {ex : va_E} {y : MethodName} {cc : ByteArray} {M2 : Mi} {Fin2 : va_W → Prop} (As rest : List Value) (h : M.1[k]? = some (pc, .invokespecial idx, 3)) (hC : NC y cc M2 mc2 ms2 cT (.ref q :: As) [(q, ex)] Fin2) (hn : LN y cc M2 As.length) (hl1 : Cond.methodLink M.own idx y ∈ TB ∨ Cond.methodLinkNest M.own idx y RX4 ∈ nestN) (hd : M2.dep < M.dep) (hnl : M2.nL ≤ 13) (hw : (rest.map fun v => v.category).sum ≤ 8) (hc1 : c0 + mc2 ≤ mc) (hs1 : s0 + ms2 ≤ ms) (hst : As.reverse ++ .ref q :: rest = st)
    (nx : ∀ w1 : va_W, Fin2 w1 → NW M mc ms cT Fn (c0 + mc2) (s0 + ms2) (pc + 3) L rest (wr ++ w1)) : NW M mc ms cT Fn c0 s0 pc L st (wr ++ [(q, ex)]) := by
  subst hst
  intro p l e0 s m args below meth c D A C H locs ls hL hP hD hS
  obtain ⟨hx, hT, hr, hml, hown, hts, hlk, hK, hA, hN9, hi9, hAO⟩ := id C
  have eC := rng_r wr (q, ex)
  have eR := rng_l wr [(q, ex)]
  have hPc := hP.sub (ws' := [(q, ex)]) [wr.length] (by simp)
  have hDc := hD.sub (ws' := [(q, ex)]) [wr.length] (by simp [va_nd]) eC
  have hFc : ∀ q2, va_A [(q, ex)] H.size q2 → A q2 := va_free (wc := [(q, ex)]) hD hS hA [wr.length] eC
  have hpre : ∀ U : State, U.heap = H → s.WarmedH U.vm → va_Pc (.ref q :: As) (WN D cT H.size [(q, ex)]) (Value.ref q :: As).toArray U := fun U hU hW => ⟨rfl, by rw [hU], by rw [hU]; exact hPc, va_K.moved hW.alike hK, hDc.weaken (fun _ _ _ _ => trivial), nestN_warm hW hN9, va_AO.moved hW.alike hAO⟩
  have hrun : va_Run p l e0 (rmn M.dep mc ms) s m args below meth c H locs c0 s0 mc2 ms2 (F0 m pc ls (As.reverse ++ .ref q :: rest)) rest (QN D (va_A [(q, ex)] H.size) Fin2 (Value.ref q :: As).toArray) (va_A [(q, ex)] H.size) := by
    rcases hl1 with hl1 | hl1
    · exact va_runI (As := As) (rest := rest) ⟨hx, rfl, hml, hown, hts⟩ (hC l D H.size) (cwI As.length hts (tb_goodIn hn.2.1) rfl rfl rfl (hts _ hn.1) (hts _ hl1) (hts _ hn.2.2.2.2) hn.2.2.2.1 hn.2.2.1 (rn_ok hd hnl)) ⟨WN.blind, hpre⟩ rfl rfl hL.1 rfl (lv_room hw) (C.dec h) ⟨hc1, hs1⟩
    · exact va_runIN (As := As) (rest := rest) ⟨hx, rfl, hml, hown, hts⟩ (hC l D H.size) ⟨va_cnB As.length hts (tb_goodIn hn.2.1) rfl rfl rfl (hN9 _ hl1) (hts _ hn.1) hn.2.2.1 (rn_ok hd hnl), hn.2.2.2.1, hts _ hn.2.2.2.2⟩ ⟨WN.blind, hpre⟩ rfl rfl hL.1 rfl (lv_room hw) (C.dec h) ⟨hc1, hs1⟩
  refine N_call hrun hS hFc (fun w1 H1 locs1 hf hP1 hD1 hk1 hS1 => ?_)
  obtain ⟨hP2, hD2⟩ := va_join (wr := wr) (w1 := w1) hP hD [wr.length] (List.range wr.length) eC eR (nd_of _ List.nodup_range) (by intro i hi; simp at hi ⊢; omega) hk1 hFc hP1 hD1
  exact nx w1 hf p l e0 s m args below meth c D A C H1 locs1 ls hL hP2 hD2 hS1
end NCALLS
