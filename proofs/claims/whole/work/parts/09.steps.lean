/-! Words of the functions that the walks are read as, and their rows. -/
def bnd {α β : Type} (a : α) (k : α → Option β) : Option β := k a
def rd {β : Type} (S : St) (q n : Nat) (i : Int32) (k : Int32 → Option β) : Option β := if i < 0 ∨ n ≤ i.toNatClampNeg then none else k (S q i.toNatClampNeg)
def wr {β : Type} (S : St) (q n : Nat) (i x : Int32) (k : St → Option β) : Option β := if i < 0 ∨ n ≤ i.toNatClampNeg then none else k (up2 S q i.toNatClampNeg x)
def ink {β : Type} (n : Nat) (i : Int32) (k : Option β) : Option β := if i < 0 ∨ n ≤ i.toNatClampNeg then none else k
def cl {α β : Type} (x : Option (α × St)) (k : α → St → Option β) : Option β := match x with
  | none => none
  | some p => k p.1 p.2
def retN (ty : FieldType) (x : Int32) (S : St) : Option (Int32 × St) := if narrow ty (.int x) = .int x then some (x, S) else none
def ac {β : Type} (S : St) (q0 q1 n0 n1 : Nat) (sp dp n : Int32) (k : St → Option β) : Option β := if sp < 0 ∨ dp < 0 ∨ n < 0 ∨ n0 < sp.toNatClampNeg + n.toNatClampNeg ∨ n1 < dp.toNatClampNeg + n.toNatClampNeg then none else k (upR S q1 (va_cpy (S q0) (S q1) sp.toNatClampNeg dp.toNatClampNeg n.toNatClampNeg))
def mnI (x y : Int32) : Int32 := if y < x then y else x
def mxI (x y : Int32) : Int32 := if x < y then y else x
/-- the bound of every loop -/
def FU : Nat := 1024
theorem bnd_ex {α β : Type} {a : α} {k : α → Option β} {o : β} (h : bnd a k = some o) : ∃ x, a = x ∧ k x = some o := ⟨a, rfl, h⟩
theorem cl_some {α β : Type} {x : Option (α × St)} {k : α → St → Option β} {o : β} (h : cl x k = some o) : ∃ r S1, x = some (r, S1) ∧ k r S1 = some o := by
  cases x with
  | none => cases h
  | some p => exact ⟨p.1, p.2, rfl, h⟩
theorem ink_some {β : Type} {n : Nat} {i : Int32} {k : Option β} {o : β} (h : ink n i k = some o) : vp_in i n ∧ k = some o := by
  unfold ink at h
  split at h
  · cases h
  · rename_i hn
    exact ⟨hn, h⟩
theorem toInt_ne {x c : Int32} {z : Int} (h : ¬ x = c) (hc : c.toInt = z) : x.toInt ≠ z := fun e => h (Int32.toInt_inj.mp (by rw [hc, e]))
section STEPS
variable {M : Mi} {out : Out} {pc k : Nat} {L : List (Option Value)} {st : List Value} {S : St} {β : Type} {o : β}
theorem s_bnd {e : Int32} {K : Int32 → Option β} (h : bnd e K = some o) (nx : ∀ x, K x = some o → PW M out pc L (.int x :: st) S) : PW M out pc L (.int e :: st) S := nx e h
theorem s_bndL {e : Int64} {K : Int64 → Option β} (h : bnd e K = some o) (nx : ∀ x, K x = some o → PW M out pc L (.long x :: st) S) : PW M out pc L (.long e :: st) S := nx e h
theorem s_bnd2 {e : Int32} {v : Value} {K : Int32 → Option β} (h : bnd e K = some o) (nx : ∀ x, K x = some o → PW M out pc L (v :: .int x :: st) S) : PW M out pc L (v :: .int e :: st) S := nx e h
theorem s_rd {q n : Nat} {i : Int32} {K : Int32 → Option β} (h : rd S q n i K = some o) (hT : M.1[k]? = some (pc, .iaload, 1)) (hl : lay[q]? = some (.inl n)) (nx : ∀ x, K x = some o → PW M out (pc + 1) L (.int x :: st) S) : PW M out pc L (.int i :: .ref q :: st) S := by
  unfold rd at h
  split at h
  · cases h
  · rename_i hn
    exact p_iald hT hl hn (nx _ h)
theorem s_wr {q n : Nat} {i x : Int32} {K : St → Option β} (h : wr S q n i x K = some o) (hT : M.1[k]? = some (pc, .iastore, 1)) (hl : lay[q]? = some (.inl n)) (nx : ∀ S1, K S1 = some o → PW M out (pc + 1) L st S1) : PW M out pc L (.int x :: .int i :: .ref q :: st) S := by
  unfold wr at h
  split at h
  · cases h
  · rename_i hn
    exact p_iast hT hl hn (nx _ h)
theorem s_put {idx ci j q : Nat} {fs : List (Option Nat)} {v : Int32} {ty : FieldType} {K : St → Option β} (h : bnd (up2 S q j v) K = some o) (hT : M.1[k]? = some (pc, .putfield idx, 3)) (hl : lay[q]? = some (.inr (.inl (ci, fs)))) (hf : fs[j]? = some none) (hF : FL M.2.1 idx ci j) (hG : FP ci j ty) (hn : narrow ty (.int v) = .int v) (hfit : fits ty (.int v) = true) (nx : ∀ S1, K S1 = some o → PW M out (pc + 3) L st S1) : PW M out pc L (.int v :: .ref q :: st) S := p_puti hT hl hf hF hG hn hfit (nx _ h)
theorem s_ac {idx q0 q1 n0 n1 : Nat} {sp dp n : Int32} {K : St → Option β} (rest : List Value) (h : ac S q0 q1 n0 n1 sp dp n K = some o) (hT : M.1[k]? = some (pc, .invokestatic idx, 3)) (hl1 : Cond.methodLink M.own idx arraycopyName ∈ TB) (hl2 : Cond.native arraycopyName ∈ TB) (hl3 : Cond.static arraycopyName ∈ TB) (hl4 : Cond.initialized "java/lang/System" ∈ TB) (hq0 : lay[q0]? = some (.inl n0)) (hq1 : lay[q1]? = some (.inl n1)) (hd : 0 < M.dep) (hw : (rest.map fun v => v.category).sum ≤ 8) (nx : ∀ S1, K S1 = some o → PW M out (pc + 3) L rest S1) : PW M out pc L (.int n :: .int dp :: .ref q1 :: .int sp :: .ref q0 :: rest) S := by
  unfold ac at h
  split at h
  · cases h
  · rename_i hn
    exact p_copy rest hT hl1 hl2 hl3 hl4 hq0 hq1 (fun z => hn (Or.inl z)) (fun z => hn (Or.inr (Or.inl z))) (fun z => hn (Or.inr (Or.inr (Or.inl z)))) (Nat.not_lt.mp (fun z => hn (Or.inr (Or.inr (Or.inr (Or.inl z)))))) (Nat.not_lt.mp (fun z => hn (Or.inr (Or.inr (Or.inr (Or.inr z)))))) hd hw (nx _ h)
theorem s_iret {v r : Int32} {S2 : St} (h : some (v, S) = some (r, S2)) (hT : M.1[k]? = some (pc, .ireturn, 1)) (hty : M.2.2.2.2 = some .int) : PW M (some (.int r), S2) pc L [.int v] S := by
  cases h
  exact p_iret hT hty rfl
theorem s_zret {v r : Int32} {S2 : St} {ty : FieldType} (h : retN ty v S = some (r, S2)) (hT : M.1[k]? = some (pc, .ireturn, 1)) (hty : M.2.2.2.2 = some ty) : PW M (some (.int r), S2) pc L [.int v] S := by
  unfold retN at h
  split at h
  · cases h
    rename_i hn
    exact p_iret hT hty hn
  · cases h
theorem s_lret {v r : Int64} {S2 : St} (h : some (v, S) = some (r, S2)) (hT : M.1[k]? = some (pc, .lreturn, 1)) (hty : M.2.2.2.2 = some .long) : PW M (some (.long r), S2) pc L [.long v] S := by
  cases h
  exact p_lret hT hty
theorem s_vret {r : Unit} {S2 : St} (h : some ((), S) = some (r, S2)) (hT : M.1[k]? = some (pc, .return_, 1)) (hty : M.2.2.2.2 = none) : PW M (none, S2) pc L [] S := by
  cases h
  exact p_vret hT hty
theorem p_mmin {idx : Nat} {x y : Int32} (hT : M.1[k]? = some (pc, .invokestatic idx, 3)) (hl1 : Cond.methodLink M.own idx Lib.Math.min.name ∈ TB) (hl2 : Cond.static Lib.Math.min.name ∈ TB) (hl3 : Cond.initialized "java/lang/Math" ∈ TB) (hl4 : Cond.code Lib.Math.min.name Lib.Math.min.code 2 (some .int) ∈ TB) (hd : 0 < M.dep) (hw : (st.map fun v => v.category).sum ≤ 8) (nx : PW M out (pc + 3) L (.int (mnI x y) :: st) S) : PW M out pc L (.int y :: .int x :: st) S := by
  intro p l e0 s m args below meth c D cT ad A C H locs ls hL hP hS
  obtain ⟨hx, hTT, hr, hml, hown, hts, hlk, hK, hD, hA, hO⟩ := id C
  have hrw : ((st.map (cv ad)).map fun v => v.category).sum ≤ 8 := by
    rw [List.map_map]
    rw [show ((fun v : Value => v.category) ∘ cv ad) = (fun v : Value => v.category) from funext (fun v => cv_cat ad v)]
    exact hw
  have hs : c.maxLocals = ls.size := hml.trans hL.1.symm
  have hfr : 1 ≤ (rmd M.dep).frames := hd
  have hlo : ((st.map (cv ad)).map fun v => v.category).sum + 13 ≤ (rmd M.dep).locals := by
    have e2 : (rmd M.dep).locals = 32 * M.dep := rfl
    rw [e2]
    have : 0 < M.dep := hd
    omega
  exact va_mmin hx rfl hs hown (hts _ hl1) (hts _ hl2) (hts _ hl3) (hts _ hl4) hfr hlo (Nat.zero_le _) (Nat.zero_le _) (C.dec hT) (nx p l e0 s m args below meth c D cT ad A C H locs ls hL hP hS)
theorem p_mmax {idx : Nat} {x y : Int32} (hT : M.1[k]? = some (pc, .invokestatic idx, 3)) (hl1 : Cond.methodLink M.own idx Lib.Math.max.name ∈ TB) (hl2 : Cond.static Lib.Math.max.name ∈ TB) (hl3 : Cond.initialized "java/lang/Math" ∈ TB) (hl4 : Cond.code Lib.Math.max.name Lib.Math.max.code 2 (some .int) ∈ TB) (hd : 0 < M.dep) (hw : (st.map fun v => v.category).sum ≤ 8) (nx : PW M out (pc + 3) L (.int (mxI x y) :: st) S) : PW M out pc L (.int y :: .int x :: st) S := by
  intro p l e0 s m args below meth c D cT ad A C H locs ls hL hP hS
  obtain ⟨hx, hTT, hr, hml, hown, hts, hlk, hK, hD, hA, hO⟩ := id C
  have hrw : ((st.map (cv ad)).map fun v => v.category).sum ≤ 8 := by
    rw [List.map_map]
    rw [show ((fun v : Value => v.category) ∘ cv ad) = (fun v : Value => v.category) from funext (fun v => cv_cat ad v)]
    exact hw
  have hs : c.maxLocals = ls.size := hml.trans hL.1.symm
  have hfr : 1 ≤ (rmd M.dep).frames := hd
  have hlo : ((st.map (cv ad)).map fun v => v.category).sum + 13 ≤ (rmd M.dep).locals := by
    have e2 : (rmd M.dep).locals = 32 * M.dep := rfl
    rw [e2]
    have : 0 < M.dep := hd
    omega
  exact va_mmax hx rfl hs hown (hts _ hl1) (hts _ hl2) (hts _ hl3) (hts _ hl4) hfr hlo (Nat.zero_le _) (Nat.zero_le _) (C.dec hT) (nx p l e0 s m args below meth c D cT ad A C H locs ls hL hP hS)
end STEPS
/-! places of the layout -/
def isC (b : Nat) : Prop := b = 1 ∨ b = 10 ∨ b = 19
def isS (b : Nat) : Prop := b = 32 ∨ b = 34 ∨ b = 36 ∨ b = 38
theorem isC_1 : isC 1 := Or.inl rfl
theorem isC_10 : isC 10 := Or.inr (Or.inl rfl)
theorem isC_19 : isC 19 := Or.inr (Or.inr rfl)
theorem isS_of {i : Int32} (h : vp_in i 4) : isS (32 + 2 * i.toNatClampNeg) := by
  have h1 : i.toNatClampNeg < 4 := Nat.not_le.mp fun q => h (Or.inr q)
  unfold isS
  omega
theorem lay_c {b : Nat} (h : isC b) : lay[b]? = some (.inr (.inl (0, [some (b + 1), some (b + 2), some (b + 3), some (b + 4), some (b + 5), some (b + 6), some (b + 7), some (b + 8), none, none, none, none, none, none]))) := by rcases h with rfl | rfl | rfl <;> rfl
theorem lay_c0 {b : Nat} (h : isC b) : lay[b + 1]? = some (.inl 12) := by rcases h with rfl | rfl | rfl <;> rfl
theorem lay_c1 {b : Nat} (h : isC b) : lay[b + 2]? = some (.inl 8) := by rcases h with rfl | rfl | rfl <;> rfl
theorem lay_c2 {b : Nat} (h : isC b) : lay[b + 3]? = some (.inl 8) := by rcases h with rfl | rfl | rfl <;> rfl
theorem lay_c3 {b : Nat} (h : isC b) : lay[b + 4]? = some (.inl 8) := by rcases h with rfl | rfl | rfl <;> rfl
theorem lay_c4 {b : Nat} (h : isC b) : lay[b + 5]? = some (.inl 8) := by rcases h with rfl | rfl | rfl <;> rfl
theorem lay_c5 {b : Nat} (h : isC b) : lay[b + 6]? = some (.inl 8) := by rcases h with rfl | rfl | rfl <;> rfl
theorem lay_c6 {b : Nat} (h : isC b) : lay[b + 7]? = some (.inl 8) := by rcases h with rfl | rfl | rfl <;> rfl
theorem lay_c7 {b : Nat} (h : isC b) : lay[b + 8]? = some (.inl 10) := by rcases h with rfl | rfl | rfl <;> rfl
theorem lay_s {b : Nat} (h : isS b) : lay[b]? = some (.inr (.inl (2, [some (b + 1), none, none]))) := by rcases h with rfl | rfl | rfl | rfl <;> rfl
theorem lay_s0 {b : Nat} (h : isS b) : lay[b + 1]? = some (.inl 40) := by rcases h with rfl | rfl | rfl | rfl <;> rfl
theorem lay_X4 : lay[0]? = some (.inr (.inl (4, [some 1, some 10, some 19, none, some 28, some 30, some 31, some 40]))) := rfl
theorem lay_X3 : lay[28]? = some (.inr (.inl (3, [some 29, none]))) := rfl
theorem lay_X1 : lay[30]? = some (.inr (.inl (1, [some 28, some 10, none, none, none, none]))) := rfl
theorem lay_31 : lay[31]? = some (.inr (.inr (fun j => 32 + 2 * j))) := rfl
theorem lay_X5 : lay[41]? = some (.inr (.inl (5, [some 42, some 43, some 44, some 45, none, some 46, some 47, none, some 48, some 49, some 50, none, none, none, none, none]))) := rfl
theorem lay_29 : lay[29]? = some (.inl 120) := rfl
theorem lay_40 : lay[40]? = some (.inl 7) := rfl
theorem lay_42 : lay[42]? = some (.inl 75) := rfl
theorem lay_43 : lay[43]? = some (.inl 75) := rfl
theorem lay_44 : lay[44]? = some (.inl 75) := rfl
theorem lay_45 : lay[45]? = some (.inl 75) := rfl
theorem lay_46 : lay[46]? = some (.inl 8) := rfl
theorem lay_47 : lay[47]? = some (.inl 120) := rfl
theorem lay_48 : lay[48]? = some (.inl 4) := rfl
theorem lay_49 : lay[49]? = some (.inl 4) := rfl
theorem lay_50 : lay[50]? = some (.inl 160) := rfl
