theorem CX.dec {M : Mi} {p : Program} {e : Env} {s : State} {m : MethodId} {args : Array Value} {meth : Method} {c : Code} {D : va_G} {cT : Nat → ClassId} {ad : Nat → Nat} {A : Nat → Prop} (C : CX M p e s m args meth c D cT ad A) {k pc len : Nat} {i : Instr} (h : M.1[k]? = some (pc, i, len)) : decode c.code pc = .ok (i, len) := by
  have h1 := C.2.1 _ (List.mem_of_getElem? h)
  exact h1
section ROWS
variable {M : Mi} {out : Out} {pc k : Nat} {L : List (Option Value)} {st : List Value} {S : St}
theorem p_iconst {n : Int} (v : Int32) (h : M.1[k]? = some (pc, .iconst n, 1)) (hv : Int32.ofInt n = v) (nx : PW M out (pc + 1) L (.int v :: st) S) : PW M out pc L st S := by
  intro p l e s m args below meth c D cT ad A C H locs ls hL hP hS
  obtain ⟨hx, hT, hr, hml, hown, hts, hlk, hK, hD, hA, hO⟩ := id C
  exact lv_iconst hx rfl (CX.dec C h) hv (nx p l e s m args below meth c D cT ad A C H locs ls hL hP hS)
theorem p_bipush {n : Int} (v : Int32) (h : M.1[k]? = some (pc, .bipush n, 2)) (hv : (Int8.ofInt n).toInt32 = v) (nx : PW M out (pc + 2) L (.int v :: st) S) : PW M out pc L st S := by
  intro p l e s m args below meth c D cT ad A C H locs ls hL hP hS
  obtain ⟨hx, hT, hr, hml, hown, hts, hlk, hK, hD, hA, hO⟩ := id C
  exact lv_bipush hx rfl (CX.dec C h) hv (nx p l e s m args below meth c D cT ad A C H locs ls hL hP hS)
theorem p_sipush {n : Int} (v : Int32) (h : M.1[k]? = some (pc, .sipush n, 3)) (hv : (Int16.ofInt n).toInt32 = v) (nx : PW M out (pc + 3) L (.int v :: st) S) : PW M out pc L st S := by
  intro p l e s m args below meth c D cT ad A C H locs ls hL hP hS
  obtain ⟨hx, hT, hr, hml, hown, hts, hlk, hK, hD, hA, hO⟩ := id C
  exact lv_sipush hx rfl (CX.dec C h) hv (nx p l e s m args below meth c D cT ad A C H locs ls hL hP hS)
theorem p_lconst {n : Fin 2} (v : Int64) (h : M.1[k]? = some (pc, .lconst n, 1)) (hv : Int64.ofNat (n : Nat) = v) (nx : PW M out (pc + 1) L (.long v :: st) S) : PW M out pc L st S := by
  intro p l e s m args below meth c D cT ad A C H locs ls hL hP hS
  obtain ⟨hx, hT, hr, hml, hown, hts, hlk, hK, hD, hA, hO⟩ := id C
  exact lv_lconst hx rfl (CX.dec C h) hv (nx p l e s m args below meth c D cT ad A C H locs ls hL hP hS)
theorem p_ldc {i : Nat} {v : Int32} (h : M.1[k]? = some (pc, .ldc i, 2)) (hc : Cond.constant M.2.1 i v ∈ TB) (nx : PW M out (pc + 2) L (.int v :: st) S) : PW M out pc L st S := by
  intro p l e s m args below meth c D cT ad A C H locs ls hL hP hS
  obtain ⟨hx, hT, hr, hml, hown, hts, hlk, hK, hD, hA, hO⟩ := id C
  exact lv_ldc hx rfl hown (hts _ hc) (CX.dec C h) (nx p l e s m args below meth c D cT ad A C H locs ls hL hP hS)
theorem p_ldcw {i : Nat} {v : Int32} (h : M.1[k]? = some (pc, .ldc_w i, 3)) (hc : Cond.constant M.2.1 i v ∈ TB) (nx : PW M out (pc + 3) L (.int v :: st) S) : PW M out pc L st S := by
  intro p l e s m args below meth c D cT ad A C H locs ls hL hP hS
  obtain ⟨hx, hT, hr, hml, hown, hts, hlk, hK, hD, hA, hO⟩ := id C
  exact lv_ldcw hx rfl hown (hts _ hc) (CX.dec C h) (nx p l e s m args below meth c D cT ad A C H locs ls hL hP hS)
theorem p_ldc2 {i : Nat} {v : Int64} (h : M.1[k]? = some (pc, .ldc2_w i, 3)) (hc : Cond.constantLong M.2.1 i v ∈ TB) (nx : PW M out (pc + 3) L (.long v :: st) S) : PW M out pc L st S := by
  intro p l e s m args below meth c D cT ad A C H locs ls hL hP hS
  obtain ⟨hx, hT, hr, hml, hown, hts, hlk, hK, hD, hA, hO⟩ := id C
  exact lv_ldc2 hx rfl hown (hts _ hc) (CX.dec C h) (nx p l e s m args below meth c D cT ad A C H locs ls hL hP hS)
theorem p_iload_n {n : Fin 4} {i : Nat} {x : Int32} (h : M.1[k]? = some (pc, .iload_n n, 1)) (hi : (n : Nat) = i) (hl : L[i]? = some (some (.int x))) (nx : PW M out (pc + 1) L (.int x :: st) S) : PW M out pc L st S := by
  intro p l e s m args below meth c D cT ad A C H locs ls hL hP hS
  obtain ⟨hx, hT, hr, hml, hown, hts, hlk, hK, hD, hA, hO⟩ := id C
  exact lv_iload_n hx rfl (CX.dec C h) hi (hL.2.2 _ _ hl) (nx p l e s m args below meth c D cT ad A C H locs ls hL hP hS)
theorem p_iload {i : Nat} {x : Int32} (h : M.1[k]? = some (pc, .iload i, 2)) (hl : L[i]? = some (some (.int x))) (nx : PW M out (pc + 2) L (.int x :: st) S) : PW M out pc L st S := by
  intro p l e s m args below meth c D cT ad A C H locs ls hL hP hS
  obtain ⟨hx, hT, hr, hml, hown, hts, hlk, hK, hD, hA, hO⟩ := id C
  exact lv_iload hx rfl (CX.dec C h) (hL.2.2 _ _ hl) (nx p l e s m args below meth c D cT ad A C H locs ls hL hP hS)
theorem p_lload_n {n : Fin 4} {i : Nat} {x : Int64} (h : M.1[k]? = some (pc, .lload_n n, 1)) (hi : (n : Nat) = i) (hl : L[i]? = some (some (.long x))) (nx : PW M out (pc + 1) L (.long x :: st) S) : PW M out pc L st S := by
  intro p l e s m args below meth c D cT ad A C H locs ls hL hP hS
  obtain ⟨hx, hT, hr, hml, hown, hts, hlk, hK, hD, hA, hO⟩ := id C
  exact lv_lload_n hx rfl (CX.dec C h) hi (hL.2.2 _ _ hl) (nx p l e s m args below meth c D cT ad A C H locs ls hL hP hS)
theorem p_lload {i : Nat} {x : Int64} (h : M.1[k]? = some (pc, .lload i, 2)) (hl : L[i]? = some (some (.long x))) (nx : PW M out (pc + 2) L (.long x :: st) S) : PW M out pc L st S := by
  intro p l e s m args below meth c D cT ad A C H locs ls hL hP hS
  obtain ⟨hx, hT, hr, hml, hown, hts, hlk, hK, hD, hA, hO⟩ := id C
  exact lv_lload hx rfl (CX.dec C h) (hL.2.2 _ _ hl) (nx p l e s m args below meth c D cT ad A C H locs ls hL hP hS)
theorem p_aload_n {n : Fin 4} {i : Nat} {x : Nat} (h : M.1[k]? = some (pc, .aload_n n, 1)) (hi : (n : Nat) = i) (hl : L[i]? = some (some (.ref x))) (nx : PW M out (pc + 1) L (.ref x :: st) S) : PW M out pc L st S := by
  intro p l e s m args below meth c D cT ad A C H locs ls hL hP hS
  obtain ⟨hx, hT, hr, hml, hown, hts, hlk, hK, hD, hA, hO⟩ := id C
  exact lv_aload_n hx rfl (CX.dec C h) hi (hL.2.2 _ _ hl) (nx p l e s m args below meth c D cT ad A C H locs ls hL hP hS)
theorem p_aload {i : Nat} {x : Nat} (h : M.1[k]? = some (pc, .aload i, 2)) (hl : L[i]? = some (some (.ref x))) (nx : PW M out (pc + 2) L (.ref x :: st) S) : PW M out pc L st S := by
  intro p l e s m args below meth c D cT ad A C H locs ls hL hP hS
  obtain ⟨hx, hT, hr, hml, hown, hts, hlk, hK, hD, hA, hO⟩ := id C
  exact lv_aload hx rfl (CX.dec C h) (hL.2.2 _ _ hl) (nx p l e s m args below meth c D cT ad A C H locs ls hL hP hS)
theorem p_istore_n {n : Fin 4} (i : Nat) {x : Int32} (L' : List (Option Value)) (h : M.1[k]? = some (pc, .istore_n n, 1)) (hi : (n : Nat) = i) (hg : lg2 L i = false) (hn : i < M.2.2.2.1) (hset : L.set i (some (.int x)) = L') (nx : PW M out (pc + 1) L' st S) : PW M out pc L (.int x :: st) S := by
  intro p l e s m args below meth c D cT ad A C H locs ls hL hP hS
  obtain ⟨hx, hT, hr, hml, hown, hts, hlk, hK, hD, hA, hO⟩ := id C
  exact lv_istore_n hx rfl (CX.dec C h) hi hL.has hn rfl (fun ls2 h2 => nx p l e s m args below meth c D cT ad A C H locs ls2 (hset ▸ LR.set1 (v := .int x) hg h2) hP hS)
theorem p_istore {i : Nat} {x : Int32} (L' : List (Option Value)) (h : M.1[k]? = some (pc, .istore i, 2)) (hg : lg2 L i = false) (hn : i < M.2.2.2.1) (hset : L.set i (some (.int x)) = L') (nx : PW M out (pc + 2) L' st S) : PW M out pc L (.int x :: st) S := by
  intro p l e s m args below meth c D cT ad A C H locs ls hL hP hS
  obtain ⟨hx, hT, hr, hml, hown, hts, hlk, hK, hD, hA, hO⟩ := id C
  exact lv_istore hx rfl (CX.dec C h) hL.has hn rfl (fun ls2 h2 => nx p l e s m args below meth c D cT ad A C H locs ls2 (hset ▸ LR.set1 (v := .int x) hg h2) hP hS)
theorem p_lstore_n {n : Fin 4} (i : Nat) {x : Int64} (L' : List (Option Value)) (h : M.1[k]? = some (pc, .lstore_n n, 1)) (hi : (n : Nat) = i) (hg : lg2 L i = false) (hn : i + 1 < M.2.2.2.1) (hset : (L.set i (some (.long x))).set (i + 1) none = L') (nx : PW M out (pc + 1) L' st S) : PW M out pc L (.long x :: st) S := by
  intro p l e s m args below meth c D cT ad A C H locs ls hL hP hS
  obtain ⟨hx, hT, hr, hml, hown, hts, hlk, hK, hD, hA, hO⟩ := id C
  exact lv_lstore_n hx rfl (CX.dec C h) hi hL.has hn rfl (fun ls2 h2 => nx p l e s m args below meth c D cT ad A C H locs ls2 (hset ▸ LR.set2 (v := .long x) hg h2) hP hS)
theorem p_lstore {i : Nat} {x : Int64} (L' : List (Option Value)) (h : M.1[k]? = some (pc, .lstore i, 2)) (hg : lg2 L i = false) (hn : i + 1 < M.2.2.2.1) (hset : (L.set i (some (.long x))).set (i + 1) none = L') (nx : PW M out (pc + 2) L' st S) : PW M out pc L (.long x :: st) S := by
  intro p l e s m args below meth c D cT ad A C H locs ls hL hP hS
  obtain ⟨hx, hT, hr, hml, hown, hts, hlk, hK, hD, hA, hO⟩ := id C
  exact lv_lstore hx rfl (CX.dec C h) hL.has hn rfl (fun ls2 h2 => nx p l e s m args below meth c D cT ad A C H locs ls2 (hset ▸ LR.set2 (v := .long x) hg h2) hP hS)
theorem p_iinc {i : Nat} {n : Int} {x : Int32} (v : Int32) (L' : List (Option Value)) (h : M.1[k]? = some (pc, .iinc i n, 3)) (hl : L[i]? = some (some (.int x))) (hv : x + Int32.ofInt n = v) (hg : lg2 L i = false) (hn : i < M.2.2.2.1) (hset : L.set i (some (.int v)) = L') (nx : PW M out (pc + 3) L' st S) : PW M out pc L st S := by
  intro p l e s m args below meth c D cT ad A C H locs ls hL hP hS
  obtain ⟨hx, hT, hr, hml, hown, hts, hlk, hK, hD, hA, hO⟩ := id C
  obtain ⟨j, hj⟩ := List.getElem?_of_mem (asc_mem (ad := ad) (q := (i, .int x)).mpr ⟨.int x, hl, rfl⟩)
  exact lv_iinc hx rfl (CX.dec C h) hL.has hj hv hn rfl (fun ls2 h2 => nx p l e s m args below meth c D cT ad A C H locs ls2 (hset ▸ LR.set1 (v := .int v) hg h2) hP hS)
theorem p_iadd {x y : Int32} (h : M.1[k]? = some (pc, .iadd, 1)) (nx : PW M out (pc + 1) L (.int (x + y) :: st) S) : PW M out pc L (.int y :: .int x :: st) S := by
  intro p l e s m args below meth c D cT ad A C H locs ls hL hP hS
  obtain ⟨hx, hT, hr, hml, hown, hts, hlk, hK, hD, hA, hO⟩ := id C
  exact lv_iadd hx rfl (CX.dec C h) (nx p l e s m args below meth c D cT ad A C H locs ls hL hP hS)
theorem p_isub {x y : Int32} (h : M.1[k]? = some (pc, .isub, 1)) (nx : PW M out (pc + 1) L (.int (x - y) :: st) S) : PW M out pc L (.int y :: .int x :: st) S := by
  intro p l e s m args below meth c D cT ad A C H locs ls hL hP hS
  obtain ⟨hx, hT, hr, hml, hown, hts, hlk, hK, hD, hA, hO⟩ := id C
  exact lv_isub hx rfl (CX.dec C h) (nx p l e s m args below meth c D cT ad A C H locs ls hL hP hS)
theorem p_imul {x y : Int32} (h : M.1[k]? = some (pc, .imul, 1)) (nx : PW M out (pc + 1) L (.int (x * y) :: st) S) : PW M out pc L (.int y :: .int x :: st) S := by
  intro p l e s m args below meth c D cT ad A C H locs ls hL hP hS
  obtain ⟨hx, hT, hr, hml, hown, hts, hlk, hK, hD, hA, hO⟩ := id C
  exact lv_imul hx rfl (CX.dec C h) (nx p l e s m args below meth c D cT ad A C H locs ls hL hP hS)
theorem p_iand {x y : Int32} (h : M.1[k]? = some (pc, .iand, 1)) (nx : PW M out (pc + 1) L (.int (x &&& y) :: st) S) : PW M out pc L (.int y :: .int x :: st) S := by
  intro p l e s m args below meth c D cT ad A C H locs ls hL hP hS
  obtain ⟨hx, hT, hr, hml, hown, hts, hlk, hK, hD, hA, hO⟩ := id C
  exact lv_iand hx rfl (CX.dec C h) (nx p l e s m args below meth c D cT ad A C H locs ls hL hP hS)
theorem p_ior {x y : Int32} (h : M.1[k]? = some (pc, .ior, 1)) (nx : PW M out (pc + 1) L (.int (x ||| y) :: st) S) : PW M out pc L (.int y :: .int x :: st) S := by
  intro p l e s m args below meth c D cT ad A C H locs ls hL hP hS
  obtain ⟨hx, hT, hr, hml, hown, hts, hlk, hK, hD, hA, hO⟩ := id C
  exact lv_ior hx rfl (CX.dec C h) (nx p l e s m args below meth c D cT ad A C H locs ls hL hP hS)
theorem p_ixor {x y : Int32} (h : M.1[k]? = some (pc, .ixor, 1)) (nx : PW M out (pc + 1) L (.int (x ^^^ y) :: st) S) : PW M out pc L (.int y :: .int x :: st) S := by
  intro p l e s m args below meth c D cT ad A C H locs ls hL hP hS
  obtain ⟨hx, hT, hr, hml, hown, hts, hlk, hK, hD, hA, hO⟩ := id C
  exact lv_ixor hx rfl (CX.dec C h) (nx p l e s m args below meth c D cT ad A C H locs ls hL hP hS)
theorem p_idiv {x y : Int32} (h : M.1[k]? = some (pc, .idiv, 1)) (hne : ¬ y = 0) (nx : PW M out (pc + 1) L (.int (x / y) :: st) S) : PW M out pc L (.int y :: .int x :: st) S := by
  intro p l e s m args below meth c D cT ad A C H locs ls hL hP hS
  obtain ⟨hx, hT, hr, hml, hown, hts, hlk, hK, hD, hA, hO⟩ := id C
  exact lv_idiv hx rfl (CX.dec C h) hne (nx p l e s m args below meth c D cT ad A C H locs ls hL hP hS)
theorem p_irem {x y : Int32} (h : M.1[k]? = some (pc, .irem, 1)) (hne : ¬ y = 0) (nx : PW M out (pc + 1) L (.int (x - x / y * y) :: st) S) : PW M out pc L (.int y :: .int x :: st) S := by
  intro p l e s m args below meth c D cT ad A C H locs ls hL hP hS
  obtain ⟨hx, hT, hr, hml, hown, hts, hlk, hK, hD, hA, hO⟩ := id C
  exact lv_irem hx rfl (CX.dec C h) hne (nx p l e s m args below meth c D cT ad A C H locs ls hL hP hS)
theorem p_ishl {x y : Int32} (h : M.1[k]? = some (pc, .ishl, 1)) (nx : PW M out (pc + 1) L (.int (x <<< (y &&& 31)) :: st) S) : PW M out pc L (.int y :: .int x :: st) S := by
  intro p l e s m args below meth c D cT ad A C H locs ls hL hP hS
  obtain ⟨hx, hT, hr, hml, hown, hts, hlk, hK, hD, hA, hO⟩ := id C
  exact lv_ishl hx rfl (CX.dec C h) (nx p l e s m args below meth c D cT ad A C H locs ls hL hP hS)
theorem p_ishr {x y : Int32} (h : M.1[k]? = some (pc, .ishr, 1)) (nx : PW M out (pc + 1) L (.int (x >>> (y &&& 31)) :: st) S) : PW M out pc L (.int y :: .int x :: st) S := by
  intro p l e s m args below meth c D cT ad A C H locs ls hL hP hS
  obtain ⟨hx, hT, hr, hml, hown, hts, hlk, hK, hD, hA, hO⟩ := id C
  exact lv_ishr hx rfl (CX.dec C h) (nx p l e s m args below meth c D cT ad A C H locs ls hL hP hS)
theorem p_iushr {x y : Int32} (h : M.1[k]? = some (pc, .iushr, 1)) (nx : PW M out (pc + 1) L (.int (x.toUInt32 >>> (y.toUInt32 &&& Int32.toUInt32 31)).toInt32 :: st) S) : PW M out pc L (.int y :: .int x :: st) S := by
  intro p l e s m args below meth c D cT ad A C H locs ls hL hP hS
  obtain ⟨hx, hT, hr, hml, hown, hts, hlk, hK, hD, hA, hO⟩ := id C
  exact lv_iushr hx rfl (CX.dec C h) rfl (nx p l e s m args below meth c D cT ad A C H locs ls hL hP hS)
theorem p_ineg {x : Int32} (h : M.1[k]? = some (pc, .ineg, 1)) (nx : PW M out (pc + 1) L (.int (-x) :: st) S) : PW M out pc L (.int x :: st) S := by
  intro p l e s m args below meth c D cT ad A C H locs ls hL hP hS
  obtain ⟨hx, hT, hr, hml, hown, hts, hlk, hK, hD, hA, hO⟩ := id C
  exact lv_ineg hx rfl (CX.dec C h) (nx p l e s m args below meth c D cT ad A C H locs ls hL hP hS)
theorem p_lmul {x y : Int64} (h : M.1[k]? = some (pc, .lmul, 1)) (nx : PW M out (pc + 1) L (.long (x * y) :: st) S) : PW M out pc L (.long y :: .long x :: st) S := by
  intro p l e s m args below meth c D cT ad A C H locs ls hL hP hS
  obtain ⟨hx, hT, hr, hml, hown, hts, hlk, hK, hD, hA, hO⟩ := id C
  exact lv_lmul hx rfl (CX.dec C h) (nx p l e s m args below meth c D cT ad A C H locs ls hL hP hS)
theorem p_ldiv {x y : Int64} (h : M.1[k]? = some (pc, .ldiv, 1)) (hne : ¬ y = 0) (nx : PW M out (pc + 1) L (.long (x / y) :: st) S) : PW M out pc L (.long y :: .long x :: st) S := by
  intro p l e s m args below meth c D cT ad A C H locs ls hL hP hS
  obtain ⟨hx, hT, hr, hml, hown, hts, hlk, hK, hD, hA, hO⟩ := id C
  exact lv_ldiv hx rfl (CX.dec C h) hne (nx p l e s m args below meth c D cT ad A C H locs ls hL hP hS)
theorem p_lrem {x y : Int64} (h : M.1[k]? = some (pc, .lrem, 1)) (hne : ¬ y = 0) (nx : PW M out (pc + 1) L (.long (x - x / y * y) :: st) S) : PW M out pc L (.long y :: .long x :: st) S := by
  intro p l e s m args below meth c D cT ad A C H locs ls hL hP hS
  obtain ⟨hx, hT, hr, hml, hown, hts, hlk, hK, hD, hA, hO⟩ := id C
  exact lv_lrem hx rfl (CX.dec C h) hne (nx p l e s m args below meth c D cT ad A C H locs ls hL hP hS)
theorem p_lcmp {x y : Int64} (h : M.1[k]? = some (pc, .lcmp, 1)) (nx : PW M out (pc + 1) L (.int (lg_cmp x y) :: st) S) : PW M out pc L (.long y :: .long x :: st) S := by
  intro p l e s m args below meth c D cT ad A C H locs ls hL hP hS
  obtain ⟨hx, hT, hr, hml, hown, hts, hlk, hK, hD, hA, hO⟩ := id C
  exact W.lcmp hx rfl (CX.dec C h) (nx p l e s m args below meth c D cT ad A C H locs ls hL hP hS)
theorem p_i2l {x : Int32} (h : M.1[k]? = some (pc, .i2l, 1)) (nx : PW M out (pc + 1) L (.long x.toInt64 :: st) S) : PW M out pc L (.int x :: st) S := by
  intro p l e s m args below meth c D cT ad A C H locs ls hL hP hS
  obtain ⟨hx, hT, hr, hml, hown, hts, hlk, hK, hD, hA, hO⟩ := id C
  exact lv_i2l hx rfl (CX.dec C h) rfl (nx p l e s m args below meth c D cT ad A C H locs ls hL hP hS)
theorem p_i2b {x : Int32} (h : M.1[k]? = some (pc, .i2b, 1)) (nx : PW M out (pc + 1) L (.int x.toInt8.toInt32 :: st) S) : PW M out pc L (.int x :: st) S := by
  intro p l e s m args below meth c D cT ad A C H locs ls hL hP hS
  obtain ⟨hx, hT, hr, hml, hown, hts, hlk, hK, hD, hA, hO⟩ := id C
  exact lv_i2b hx rfl (CX.dec C h) rfl (nx p l e s m args below meth c D cT ad A C H locs ls hL hP hS)
theorem p_i2s {x : Int32} (h : M.1[k]? = some (pc, .i2s, 1)) (nx : PW M out (pc + 1) L (.int x.toInt16.toInt32 :: st) S) : PW M out pc L (.int x :: st) S := by
  intro p l e s m args below meth c D cT ad A C H locs ls hL hP hS
  obtain ⟨hx, hT, hr, hml, hown, hts, hlk, hK, hD, hA, hO⟩ := id C
  exact lv_i2s hx rfl (CX.dec C h) rfl (nx p l e s m args below meth c D cT ad A C H locs ls hL hP hS)
theorem p_i2c {x : Int32} (h : M.1[k]? = some (pc, .i2c, 1)) (nx : PW M out (pc + 1) L (.int (x.toUInt32 % 65536).toInt32 :: st) S) : PW M out pc L (.int x :: st) S := by
  intro p l e s m args below meth c D cT ad A C H locs ls hL hP hS
  obtain ⟨hx, hT, hr, hml, hown, hts, hlk, hK, hD, hA, hO⟩ := id C
  exact lv_i2c hx rfl (CX.dec C h) rfl (nx p l e s m args below meth c D cT ad A C H locs ls hL hP hS)
theorem p_dup {v : Value} (h : M.1[k]? = some (pc, .dup, 1)) (hv : v.category = 1) (nx : PW M out (pc + 1) L (v :: v :: st) S) : PW M out pc L (v :: st) S := by
  intro p l e s m args below meth c D cT ad A C H locs ls hL hP hS
  obtain ⟨hx, hT, hr, hml, hown, hts, hlk, hK, hD, hA, hO⟩ := id C
  exact lv_dup hx rfl (CX.dec C h) (by rw [cv_cat]; exact hv) (nx p l e s m args below meth c D cT ad A C H locs ls hL hP hS)
theorem p_pop {v : Value} (h : M.1[k]? = some (pc, .pop, 1)) (hv : v.category = 1) (nx : PW M out (pc + 1) L st S) : PW M out pc L (v :: st) S := by
  intro p l e s m args below meth c D cT ad A C H locs ls hL hP hS
  obtain ⟨hx, hT, hr, hml, hown, hts, hlk, hK, hD, hA, hO⟩ := id C
  exact lv_pop hx rfl (CX.dec C h) (by rw [cv_cat]; exact hv) (nx p l e s m args below meth c D cT ad A C H locs ls hL hP hS)
theorem p_dup2 {v w : Value} (h : M.1[k]? = some (pc, .dup2, 1)) (hv : v.category = 1) (hw : w.category = 1) (nx : PW M out (pc + 1) L (v :: w :: v :: w :: st) S) : PW M out pc L (v :: w :: st) S := by
  intro p l e s m args below meth c D cT ad A C H locs ls hL hP hS
  obtain ⟨hx, hT, hr, hml, hown, hts, hlk, hK, hD, hA, hO⟩ := id C
  exact lv_dup2_11 hx rfl (CX.dec C h) (by rw [cv_cat]; exact hv) (by rw [cv_cat]; exact hw) (nx p l e s m args below meth c D cT ad A C H locs ls hL hP hS)
theorem p_dup_x1 {v w : Value} (h : M.1[k]? = some (pc, .dup_x1, 1)) (hv : v.category = 1) (hw : w.category = 1) (nx : PW M out (pc + 1) L (v :: w :: v :: st) S) : PW M out pc L (v :: w :: st) S := by
  intro p l e s m args below meth c D cT ad A C H locs ls hL hP hS
  obtain ⟨hx, hT, hr, hml, hown, hts, hlk, hK, hD, hA, hO⟩ := id C
  exact lv_dup_x1 hx rfl (CX.dec C h) (by rw [cv_cat]; exact hv) (by rw [cv_cat]; exact hw) (nx p l e s m args below meth c D cT ad A C H locs ls hL hP hS)
theorem p_icmp_eq {x y : Int32} {off : Int} (tgt : Nat) (h : M.1[k]? = some (pc, .if_icmp .eq off, 3)) (ht : (pc : Int) + off = (tgt : Int)) (kt : x = y → PW M out tgt L st S) (kf : ¬ x = y → PW M out (pc + 3) L st S) : PW M out pc L (.int y :: .int x :: st) S := by
  intro p l e s m args below meth c D cT ad A C H locs ls hL hP hS
  obtain ⟨hx, hT, hr, hml, hown, hts, hlk, hK, hD, hA, hO⟩ := id C
  exact lv_icmp_eq hx rfl (CX.dec C h) ht (fun q => kt q p l e s m args below meth c D cT ad A C H locs ls hL hP hS) (fun q => kf q p l e s m args below meth c D cT ad A C H locs ls hL hP hS)
theorem p_if_eq {x : Int32} {off : Int} (tgt : Nat) (h : M.1[k]? = some (pc, .ifCond .eq off, 3)) (ht : (pc : Int) + off = (tgt : Int)) (kt : x = 0 → PW M out tgt L st S) (kf : ¬ x = 0 → PW M out (pc + 3) L st S) : PW M out pc L (.int x :: st) S := by
  intro p l e s m args below meth c D cT ad A C H locs ls hL hP hS
  obtain ⟨hx, hT, hr, hml, hown, hts, hlk, hK, hD, hA, hO⟩ := id C
  exact lv_if_eq hx rfl (CX.dec C h) ht (fun q => kt q p l e s m args below meth c D cT ad A C H locs ls hL hP hS) (fun q => kf q p l e s m args below meth c D cT ad A C H locs ls hL hP hS)
theorem p_icmp_ne {x y : Int32} {off : Int} (tgt : Nat) (h : M.1[k]? = some (pc, .if_icmp .ne off, 3)) (ht : (pc : Int) + off = (tgt : Int)) (kt : ¬ x = y → PW M out tgt L st S) (kf : x = y → PW M out (pc + 3) L st S) : PW M out pc L (.int y :: .int x :: st) S := by
  intro p l e s m args below meth c D cT ad A C H locs ls hL hP hS
  obtain ⟨hx, hT, hr, hml, hown, hts, hlk, hK, hD, hA, hO⟩ := id C
  exact lv_icmp_ne hx rfl (CX.dec C h) ht (fun q => kt q p l e s m args below meth c D cT ad A C H locs ls hL hP hS) (fun q => kf q p l e s m args below meth c D cT ad A C H locs ls hL hP hS)
theorem p_if_ne {x : Int32} {off : Int} (tgt : Nat) (h : M.1[k]? = some (pc, .ifCond .ne off, 3)) (ht : (pc : Int) + off = (tgt : Int)) (kt : ¬ x = 0 → PW M out tgt L st S) (kf : x = 0 → PW M out (pc + 3) L st S) : PW M out pc L (.int x :: st) S := by
  intro p l e s m args below meth c D cT ad A C H locs ls hL hP hS
  obtain ⟨hx, hT, hr, hml, hown, hts, hlk, hK, hD, hA, hO⟩ := id C
  exact lv_if_ne hx rfl (CX.dec C h) ht (fun q => kt q p l e s m args below meth c D cT ad A C H locs ls hL hP hS) (fun q => kf q p l e s m args below meth c D cT ad A C H locs ls hL hP hS)
theorem p_icmp_lt {x y : Int32} {off : Int} (tgt : Nat) (h : M.1[k]? = some (pc, .if_icmp .lt off, 3)) (ht : (pc : Int) + off = (tgt : Int)) (kt : x < y → PW M out tgt L st S) (kf : ¬ x < y → PW M out (pc + 3) L st S) : PW M out pc L (.int y :: .int x :: st) S := by
  intro p l e s m args below meth c D cT ad A C H locs ls hL hP hS
  obtain ⟨hx, hT, hr, hml, hown, hts, hlk, hK, hD, hA, hO⟩ := id C
  exact lv_icmp_lt hx rfl (CX.dec C h) ht (fun q => kt q p l e s m args below meth c D cT ad A C H locs ls hL hP hS) (fun q => kf q p l e s m args below meth c D cT ad A C H locs ls hL hP hS)
theorem p_if_lt {x : Int32} {off : Int} (tgt : Nat) (h : M.1[k]? = some (pc, .ifCond .lt off, 3)) (ht : (pc : Int) + off = (tgt : Int)) (kt : x < 0 → PW M out tgt L st S) (kf : ¬ x < 0 → PW M out (pc + 3) L st S) : PW M out pc L (.int x :: st) S := by
  intro p l e s m args below meth c D cT ad A C H locs ls hL hP hS
  obtain ⟨hx, hT, hr, hml, hown, hts, hlk, hK, hD, hA, hO⟩ := id C
  exact lv_if_lt hx rfl (CX.dec C h) ht (fun q => kt q p l e s m args below meth c D cT ad A C H locs ls hL hP hS) (fun q => kf q p l e s m args below meth c D cT ad A C H locs ls hL hP hS)
theorem p_icmp_ge {x y : Int32} {off : Int} (tgt : Nat) (h : M.1[k]? = some (pc, .if_icmp .ge off, 3)) (ht : (pc : Int) + off = (tgt : Int)) (kt : y ≤ x → PW M out tgt L st S) (kf : ¬ y ≤ x → PW M out (pc + 3) L st S) : PW M out pc L (.int y :: .int x :: st) S := by
  intro p l e s m args below meth c D cT ad A C H locs ls hL hP hS
  obtain ⟨hx, hT, hr, hml, hown, hts, hlk, hK, hD, hA, hO⟩ := id C
  exact lv_icmp_ge hx rfl (CX.dec C h) ht (fun q => kt q p l e s m args below meth c D cT ad A C H locs ls hL hP hS) (fun q => kf q p l e s m args below meth c D cT ad A C H locs ls hL hP hS)
theorem p_if_ge {x : Int32} {off : Int} (tgt : Nat) (h : M.1[k]? = some (pc, .ifCond .ge off, 3)) (ht : (pc : Int) + off = (tgt : Int)) (kt : 0 ≤ x → PW M out tgt L st S) (kf : ¬ 0 ≤ x → PW M out (pc + 3) L st S) : PW M out pc L (.int x :: st) S := by
  intro p l e s m args below meth c D cT ad A C H locs ls hL hP hS
  obtain ⟨hx, hT, hr, hml, hown, hts, hlk, hK, hD, hA, hO⟩ := id C
  exact lv_if_ge hx rfl (CX.dec C h) ht (fun q => kt q p l e s m args below meth c D cT ad A C H locs ls hL hP hS) (fun q => kf q p l e s m args below meth c D cT ad A C H locs ls hL hP hS)
theorem p_icmp_gt {x y : Int32} {off : Int} (tgt : Nat) (h : M.1[k]? = some (pc, .if_icmp .gt off, 3)) (ht : (pc : Int) + off = (tgt : Int)) (kt : y < x → PW M out tgt L st S) (kf : ¬ y < x → PW M out (pc + 3) L st S) : PW M out pc L (.int y :: .int x :: st) S := by
  intro p l e s m args below meth c D cT ad A C H locs ls hL hP hS
  obtain ⟨hx, hT, hr, hml, hown, hts, hlk, hK, hD, hA, hO⟩ := id C
  exact lv_icmp_gt hx rfl (CX.dec C h) ht (fun q => kt q p l e s m args below meth c D cT ad A C H locs ls hL hP hS) (fun q => kf q p l e s m args below meth c D cT ad A C H locs ls hL hP hS)
theorem p_if_gt {x : Int32} {off : Int} (tgt : Nat) (h : M.1[k]? = some (pc, .ifCond .gt off, 3)) (ht : (pc : Int) + off = (tgt : Int)) (kt : 0 < x → PW M out tgt L st S) (kf : ¬ 0 < x → PW M out (pc + 3) L st S) : PW M out pc L (.int x :: st) S := by
  intro p l e s m args below meth c D cT ad A C H locs ls hL hP hS
  obtain ⟨hx, hT, hr, hml, hown, hts, hlk, hK, hD, hA, hO⟩ := id C
  exact lv_if_gt hx rfl (CX.dec C h) ht (fun q => kt q p l e s m args below meth c D cT ad A C H locs ls hL hP hS) (fun q => kf q p l e s m args below meth c D cT ad A C H locs ls hL hP hS)
theorem p_icmp_le {x y : Int32} {off : Int} (tgt : Nat) (h : M.1[k]? = some (pc, .if_icmp .le off, 3)) (ht : (pc : Int) + off = (tgt : Int)) (kt : x ≤ y → PW M out tgt L st S) (kf : ¬ x ≤ y → PW M out (pc + 3) L st S) : PW M out pc L (.int y :: .int x :: st) S := by
  intro p l e s m args below meth c D cT ad A C H locs ls hL hP hS
  obtain ⟨hx, hT, hr, hml, hown, hts, hlk, hK, hD, hA, hO⟩ := id C
  exact lv_icmp_le hx rfl (CX.dec C h) ht (fun q => kt q p l e s m args below meth c D cT ad A C H locs ls hL hP hS) (fun q => kf q p l e s m args below meth c D cT ad A C H locs ls hL hP hS)
theorem p_if_le {x : Int32} {off : Int} (tgt : Nat) (h : M.1[k]? = some (pc, .ifCond .le off, 3)) (ht : (pc : Int) + off = (tgt : Int)) (kt : x ≤ 0 → PW M out tgt L st S) (kf : ¬ x ≤ 0 → PW M out (pc + 3) L st S) : PW M out pc L (.int x :: st) S := by
  intro p l e s m args below meth c D cT ad A C H locs ls hL hP hS
  obtain ⟨hx, hT, hr, hml, hown, hts, hlk, hK, hD, hA, hO⟩ := id C
  exact lv_if_le hx rfl (CX.dec C h) ht (fun q => kt q p l e s m args below meth c D cT ad A C H locs ls hL hP hS) (fun q => kf q p l e s m args below meth c D cT ad A C H locs ls hL hP hS)
theorem p_goto {off : Int} (tgt : Nat) (h : M.1[k]? = some (pc, .goto off, 3)) (ht : (pc : Int) + off = (tgt : Int)) (nx : PW M out tgt L st S) : PW M out pc L st S := by
  intro p l e s m args below meth c D cT ad A C H locs ls hL hP hS
  obtain ⟨hx, hT, hr, hml, hown, hts, hlk, hK, hD, hA, hO⟩ := id C
  exact lv_goto hx rfl (CX.dec C h) ht (nx p l e s m args below meth c D cT ad A C H locs ls hL hP hS)
theorem p_lookup {dflt : Int} {ps : Array (Int × Int)} {len : Nat} {x : Int32} {off : Int} (tgt : Nat) (h : M.1[k]? = some (pc, .lookupswitch dflt ps, len)) (hp : (ps.toList.zip (ps.toList.drop 1)).all (fun (a, next) => a.1 < next.1) = true) (ho : Op.lookupswitch.offset ps.toList dflt x.toInt = off) (ht : (pc : Int) + off = (tgt : Int)) (nx : PW M out tgt L st S) : PW M out pc L (.int x :: st) S := by
  intro p l e s m args below meth c D cT ad A C H locs ls hL hP hS
  obtain ⟨hx, hT, hr, hml, hown, hts, hlk, hK, hD, hA, hO⟩ := id C
  exact lv_lookup hx rfl (CX.dec C h) hp ho ht (nx p l e s m args below meth c D cT ad A C H locs ls hL hP hS)
theorem p_tableOut {dflt lo hi : Int} {offs : Array Int} {len : Nat} {x : Int32} (tgt : Nat) (h : M.1[k]? = some (pc, .tableswitch dflt lo hi offs, len)) (hz : x.toInt < lo ∨ hi < x.toInt) (ht : (pc : Int) + dflt = (tgt : Int)) (nx : PW M out tgt L st S) : PW M out pc L (.int x :: st) S := by
  intro p l e s m args below meth c D cT ad A C H locs ls hL hP hS
  obtain ⟨hx, hT, hr, hml, hown, hts, hlk, hK, hD, hA, hO⟩ := id C
  exact lv_tableOut hx rfl (CX.dec C h) hz ht (nx p l e s m args below meth c D cT ad A C H locs ls hL hP hS)
theorem p_tableIn {dflt lo hi : Int} {offs : Array Int} {len : Nat} {x : Int32} {off : Int} (tgt : Nat) (h : M.1[k]? = some (pc, .tableswitch dflt lo hi offs, len)) (h1 : ¬ x.toInt < lo) (h2 : ¬ hi < x.toInt) (ho : offs[(x.toInt - lo).toNat]? = some off) (ht : (pc : Int) + off = (tgt : Int)) (nx : PW M out tgt L st S) : PW M out pc L (.int x :: st) S := by
  intro p l e s m args below meth c D cT ad A C H locs ls hL hP hS
  obtain ⟨hx, hT, hr, hml, hown, hts, hlk, hK, hD, hA, hO⟩ := id C
  exact lv_tableIn hx rfl (CX.dec C h) h1 h2 ho ht (nx p l e s m args below meth c D cT ad A C H locs ls hL hP hS)
/-- a field's link: class ci's field j, linked at idx of 'own' -/
def FL (own : String) (idx ci j : Nat) : Prop := ∃ (C : String) (T : u_T) (N : Nat), vwCl[ci]? = some (C, T, N) ∧ j < N ∧ Cond.fieldLink own idx (T j).1 (T j).2.1 (T j).2.2.1 ∈ TB ∧ ∀ w ∈ u_ws C T N, w ∈ TB
/-- what a store into class ci's field j needs more -/
def FP (ci j : Nat) (ty : FieldType) : Prop := ∃ (C : String) (T : u_T) (N : Nat) (ty0 : Nat → FieldType), vwCl[ci]? = some (C, T, N) ∧ (∀ k, k < N → parseFieldDescriptor (T k).2.2.1 = some (ty0 k)) ∧ (∀ a, a < N → ∀ b, b < N → a ≠ b → (T a).2.1 ≠ (T b).2.1) ∧ (T j).2.2.2 = false ∧ parseFieldDescriptor (T j).2.2.1 = some ty
theorem p_getr {idx ci j q q2 : Nat} {fs : List (Option Nat)} (h : M.1[k]? = some (pc, .getfield idx, 3)) (hl : lay[q]? = some (.inr (.inl (ci, fs)))) (hf : fs[j]? = some (some q2)) (hF : FL M.2.1 idx ci j) (nx : PW M out (pc + 3) L (.ref q2 :: st) S) : PW M out pc L (.ref q :: st) S := by
  intro p l e s m args below meth c D cT ad A C H locs ls hL hP hS
  obtain ⟨hx, hT, hr, hml, hown, hts, hlk, hK, hD, hA, hO⟩ := id C
  obtain ⟨C0, T, N, hc, hj, hlink, hin⟩ := hF
  refine va_get (D := D) (cl := vwCl) (ci := ci) (v := .ref (ad q2)) (C := C0) (T := T) (N := N) hx rfl hts hin hown hK hP q (wl_get hl) hc j hj (hts _ hlink) (fun _ h9 => h9) ?_ (CX.dec C h) (nx p l e s m args below meth c D cT ad A C H locs ls hL hP hS)
  exact fV_get hf
theorem p_geti {idx ci j q : Nat} {fs : List (Option Nat)} (h : M.1[k]? = some (pc, .getfield idx, 3)) (hl : lay[q]? = some (.inr (.inl (ci, fs)))) (hf : fs[j]? = some none) (hF : FL M.2.1 idx ci j) (nx : PW M out (pc + 3) L (.int (S q j) :: st) S) : PW M out pc L (.ref q :: st) S := by
  intro p l e s m args below meth c D cT ad A C H locs ls hL hP hS
  obtain ⟨hx, hT, hr, hml, hown, hts, hlk, hK, hD, hA, hO⟩ := id C
  obtain ⟨C0, T, N, hc, hj, hlink, hin⟩ := hF
  refine va_get (D := D) (cl := vwCl) (ci := ci) (v := .int (S q j)) (C := C0) (T := T) (N := N) hx rfl hts hin hown hK hP q (wl_get hl) hc j hj (hts _ hlink) (fun _ h9 => h9) ?_ (CX.dec C h) (nx p l e s m args below meth c D cT ad A C H locs ls hL hP hS)
  have := fV_get (ad := ad) (f := S q) (k := 0) hf
  rw [Nat.zero_add] at this
  exact this
theorem p_puti {idx ci j q : Nat} {fs : List (Option Nat)} {v : Int32} {ty : FieldType} (h : M.1[k]? = some (pc, .putfield idx, 3)) (hl : lay[q]? = some (.inr (.inl (ci, fs)))) (hf : fs[j]? = some none) (hF : FL M.2.1 idx ci j) (hG : FP ci j ty) (hn : narrow ty (.int v) = .int v) (hfit : fits ty (.int v) = true) (nx : PW M out (pc + 3) L st (up2 S q j v)) : PW M out pc L (.int v :: .ref q :: st) S := by
  intro p l e0 s m args below meth c D cT ad A C H locs ls hL hP hS
  obtain ⟨hx, hT, hr, hml, hown, hts, hlk, hK, hD, hA, hO⟩ := id C
  obtain ⟨C0, T, N, hc, hj, hlink, hin⟩ := hF
  obtain ⟨C1, T1, N1, ty0, hc1, hty, hnm, hfin, hty1⟩ := hG
  cases hc.symm.trans hc1
  refine va_put (D := D) (cl := vwCl) (ci := ci) (v := .int v) (ty := ty) (C := C0) (T := T) (N := N) hx rfl hts hin ty0 hty hnm hown hK hP (hD S) hS q (wl_get hl) hc j hj (hts _ hlink) (fun _ h9 => h9) hfin hty1 hn hfit ?_ (CX.dec C h) (fun H1 locs1 hP1 hD1 hS1 => ?_)
  · rw [fV_len]
    exact (List.getElem?_eq_some_iff.mp hf).1
  · have e : (wl cT ad S).set q (ad q, .inr (ci, (fV ad (S q) fs 0).set j (.int v))) = wl cT ad (up2 S q j v) := by
      have h2 := fV_set (ad := ad) (f := S q) (v := v) (k := 0) hf
      rw [Nat.zero_add] at h2
      rw [h2]
      exact wl_set (f := upd (S q) j v) hl
    have hP2 : va_P D vwCl ((wl cT ad S).set q (ad q, .inr (ci, (fV ad (S q) fs 0).set j (.int v)))) H1 := hP1
    rw [e] at hP2
    exact nx p l e0 s m args below meth c D cT ad A C H1 locs1 ls hL hP2 hS1
theorem p_iald {q n : Nat} {i : Int32} (h : M.1[k]? = some (pc, .iaload, 1)) (hl : lay[q]? = some (.inl n)) (hin : vp_in i n) (nx : PW M out (pc + 1) L (.int (S q i.toNatClampNeg) :: st) S) : PW M out pc L (.int i :: .ref q :: st) S := by
  intro p l e s m args below meth c D cT ad A C H locs ls hL hP hS
  obtain ⟨hx, hT, hr, hml, hown, hts, hlk, hK, hD, hA, hO⟩ := id C
  exact va_iald hx rfl hK hP q 0 (f := S q) (wl_get hl) rfl hin (CX.dec C h) (nx p l e s m args below meth c D cT ad A C H locs ls hL hP hS)
theorem p_iast {q n : Nat} {i x : Int32} (h : M.1[k]? = some (pc, .iastore, 1)) (hl : lay[q]? = some (.inl n)) (hin : vp_in i n) (nx : PW M out (pc + 1) L st (up2 S q i.toNatClampNeg x)) : PW M out pc L (.int x :: .int i :: .ref q :: st) S := by
  intro p l e0 s m args below meth c D cT ad A C H locs ls hL hP hS
  obtain ⟨hx, hT, hr, hml, hown, hts, hlk, hK, hD, hA, hO⟩ := id C
  refine va_iast hx rfl hK hP (hD S) hS q 0 (f := S q) (wl_get hl) rfl hin (CX.dec C h) (fun H1 locs1 hP1 hD1 hS1 => ?_)
  have e : (wl cT ad S).set q (ad q, .inl (cT 0, n, .inl (upd (S q) i.toNatClampNeg x))) = wl cT ad (up2 S q i.toNatClampNeg x) := wl_set (f := upd (S q) i.toNatClampNeg x) hl
  rw [e] at hP1
  exact nx p l e0 s m args below meth c D cT ad A C H1 locs1 ls hL hP1 hS1
theorem p_aald {q : Nat} {g : Nat → Nat} {i : Int32} (h : M.1[k]? = some (pc, .aaload, 1)) (hl : lay[q]? = some (.inr (.inr g))) (hin : vp_in i 4) (nx : PW M out (pc + 1) L (.ref (g i.toNatClampNeg) :: st) S) : PW M out pc L (.int i :: .ref q :: st) S := by
  intro p l e s m args below meth c D cT ad A C H locs ls hL hP hS
  obtain ⟨hx, hT, hr, hml, hown, hts, hlk, hK, hD, hA, hO⟩ := id C
  exact va_aldq hx rfl hK hP q 1 (wl_get hl) rfl hin (CX.dec C h) (nx p l e s m args below meth c D cT ad A C H locs ls hL hP hS)
theorem p_iret {v : Int32} {ty : FieldType} (h : M.1[k]? = some (pc, .ireturn, 1)) (hty : M.2.2.2.2 = some ty) (hn : narrow ty (.int v) = .int v) : PW M (some (.int v), S) pc L [.int v] S := by
  intro p l e s m args below meth c D cT ad A C H locs ls hL hP hS
  obtain ⟨hx, hT, hr, hml, hown, hts, hlk, hK, hD, hA, hO⟩ := id C
  exact W.zret hx rfl (hr.trans hty) hn (fun t ht hW => ⟨rfl, by rw [ht]; exact hP, hS.F ht⟩) hS.2.2 (CX.dec C h) hlk
theorem p_lret {v : Int64} (h : M.1[k]? = some (pc, .lreturn, 1)) (hty : M.2.2.2.2 = some .long) : PW M (some (.long v), S) pc L [.long v] S := by
  intro p l e s m args below meth c D cT ad A C H locs ls hL hP hS
  obtain ⟨hx, hT, hr, hml, hown, hts, hlk, hK, hD, hA, hO⟩ := id C
  exact W.lret hx rfl (hr.trans hty) (fun t ht hW => ⟨rfl, by rw [ht]; exact hP, hS.F ht⟩) hS.2.2 (CX.dec C h) hlk
theorem p_vret  (h : M.1[k]? = some (pc, .return_, 1)) (hty : M.2.2.2.2 = none) : PW M (none, S) pc L [] S := by
  intro p l e s m args below meth c D cT ad A C H locs ls hL hP hS
  obtain ⟨hx, hT, hr, hml, hown, hts, hlk, hK, hD, hA, hO⟩ := id C
  exact W.vret hx rfl (hr.trans hty) (fun t ht hW => ⟨rfl, by rw [ht]; exact hP, hS.F ht⟩) hS.2.2 (CX.dec C h) hlk
theorem p_msk (bs : List Bool) {L2 : List (Option Value)} (e : msk bs L = L2) (nx : PW M out pc L2 st S) : PW M out pc L st S := by
  subst e
  intro p l e s m args below meth c D cT ad A C H locs ls hL hP hS
  exact nx p l e s m args below meth c D cT ad A C H locs ls (hL.fewer bs) hP hS
end ROWS
