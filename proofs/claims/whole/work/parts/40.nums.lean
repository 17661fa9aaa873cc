/-! Plain facts: small numbers, reads and writes at a known place, bits, counts of bits. -/
theorem rd_n {β : Type} {S : St} {q n j : Nat} {K : Int32 → Option β} (hj : j < n) (hn : n < 2 ^ 31) : rd S q n (nI j) K = K (S q j) := by
  unfold rd
  rw [if_neg (nI_in hj hn), nI_clamp (by omega)]
theorem wr_n {β : Type} {S : St} {q n j : Nat} {x : Int32} {K : St → Option β} (hj : j < n) (hn : n < 2 ^ 31) : wr S q n (nI j) x K = K (up2 S q j x) := by
  unfold wr
  rw [if_neg (nI_in hj hn), nI_clamp (by omega)]
theorem ink_n {β : Type} {n j : Nat} {K : Option β} (hj : j < n) (hn : n < 2 ^ 31) : ink n (nI j) K = K := by
  unfold ink
  rw [if_neg (nI_in hj hn)]
theorem cl_s {α β : Type} {x : Option (α × St)} {r : α} {S1 : St} {K : α → St → Option β} (h : x = some (r, S1)) : cl x K = K r S1 := by
  rw [h]
  rfl
theorem cl_sm {α β : Type} {r : α} {S1 : St} {K : α → St → Option β} : cl (some (r, S1)) K = K r S1 := rfl
theorem bnd_s {α β : Type} {a : α} {K : α → Option β} : bnd a K = K a := rfl
theorem up2_qq {S : St} {q i : Nat} {x : Int32} : up2 S q i x q = upd (S q) i x := by simp [up2, upR]
theorem up2_qn {S : St} {q i a : Nat} {x : Int32} (h : a ≠ q) : up2 S q i x a = S a := by simp [up2, upR, h]
theorem upR_qq {S : St} {q : Nat} {f : Nat → Int32} : upR S q f q = f := by simp [upR]
theorem upR_qn {S : St} {q a : Nat} {f : Nat → Int32} (h : a ≠ q) : upR S q f a = S a := by simp [upR, h]
theorem upd_s {f : Nat → Int32} {k : Nat} {x : Int32} : upd f k x k = x := by simp [upd]
theorem upd_n {f : Nat → Int32} {k j : Nat} {x : Int32} (h : j ≠ k) : upd f k x j = f j := by simp [upd, h]
theorem upR_up2 {S : St} {q i : Nat} {x : Int32} : up2 S q i x = upR S q (upd (S q) i x) := rfl
theorem upR_upR {S : St} {q : Nat} {f g : Nat → Int32} : upR (upR S q f) q g = upR S q g := by
  funext a
  by_cases h : a = q <;> simp [upR, h]
theorem upR_self {S : St} {q : Nat} : upR S q (S q) = S := by
  funext a
  by_cases h : a = q
  · subst h; simp [upR]
  · simp [upR, h]
theorem retN_1 (S : St) : retN .boolean 1 S = some (1, S) := by
  unfold retN
  rw [if_pos (by decide)]
theorem retN_0 (S : St) : retN .boolean 0 S = some (0, S) := by
  unfold retN
  rw [if_pos (by decide)]
/-- a test's answer -/
def b2i (c : Prop) [Decidable c] : Int32 := if c then 1 else 0
theorem b2i_t {c : Prop} [Decidable c] (h : c) : b2i c = 1 := if_pos h
theorem b2i_f {c : Prop} [Decidable c] (h : ¬ c) : b2i c = 0 := if_neg h
theorem b2i_0 {c : Prop} [Decidable c] : b2i c = 0 ↔ ¬ c := by
  unfold b2i
  by_cases h : c <;> simp [h]
theorem one_ne : ¬ (1 : Int32) = 0 := by decide
/-! bits -/
def tb (x : Int32) (i : Nat) : Bool := x.toBitVec.getLsbD i
theorem tb_ext {x y : Int32} (h : ∀ i, i < 32 → tb x i = tb y i) : x = y := by
  apply Int32.toBitVec_inj.mp
  apply BitVec.eq_of_getLsbD_eq
  intro i hi
  exact h i hi
theorem tb_or (x y : Int32) (i : Nat) : tb (x ||| y) i = (tb x i || tb y i) := by
  unfold tb
  rw [Int32.toBitVec_or, BitVec.getLsbD_or]
theorem tb_and (x y : Int32) (i : Nat) : tb (x &&& y) i = (tb x i && tb y i) := by
  unfold tb
  rw [Int32.toBitVec_and, BitVec.getLsbD_and]
theorem tb_xor (x y : Int32) (i : Nat) : tb (x ^^^ y) i = (tb x i ^^ tb y i) := by
  unfold tb
  rw [Int32.toBitVec_xor, BitVec.getLsbD_xor]
theorem tb_0 (i : Nat) : tb 0 i = false := by
  unfold tb
  simp
theorem tb_m1 : ∀ i, i < 32 → tb (-1) i = true := by decide
theorem tb_not (x : Int32) {i : Nat} (hi : i < 32) : tb (x ^^^ (-1)) i = !(tb x i) := by
  rw [tb_xor, tb_m1 i hi, Bool.xor_true]
theorem sh_amt : ∀ n, n < 32 → ((nI n &&& 31).toBitVec.smod 32).toNat = n := by decide
theorem nI_bv (n : Nat) : (nI n).toBitVec = BitVec.ofNat 32 n := rfl
theorem tb_nI {n i : Nat} (h : n < 2 ^ 32) : tb (nI n) i = n.testBit i := by
  unfold tb
  rw [nI_bv, BitVec.getLsbD_ofNat]
  by_cases hi : i < 32
  · simp [hi]
  · rw [Nat.testBit_lt_two_pow (Nat.lt_of_lt_of_le h (Nat.pow_le_pow_right (by decide) (by omega)))]
    simp
/-- one bit -/
def b1 (g : Nat) : Int32 := (1 : Int32) <<< (nI g &&& 31)
theorem b1_nI : ∀ g, g < 31 → b1 g = nI (2 ^ g) := by decide
theorem tb_b1 {g : Nat} (hg : g < 31) (i : Nat) : tb (b1 g) i = decide (i = g) := by
  rw [b1_nI g hg, tb_nI (Nat.pow_lt_pow_right (by decide) (by omega)), Nat.testBit_two_pow]
  by_cases h : i = g
  · simp [h]
  · simp [h, Ne.symm h]
theorem shr_bit (x : Int32) {g : Nat} (hg : g < 31) : (x >>> (nI g &&& 31)) &&& 1 = if tb x g then 1 else 0 := by
  apply tb_ext
  intro i hi
  have h1 : tb (x >>> (nI g &&& 31)) 0 = tb x g := by
    unfold tb
    show ((x.toBitVec).sshiftRight (((nI g &&& 31).toBitVec).smod 32).toNat).getLsbD 0 = _
    rw [sh_amt g (by omega), BitVec.getLsbD_sshiftRight]
    simp
    omega
  have h2 : tb 1 i = decide (i = 0) := tb_b1 (g := 0) (by decide) i
  have h3 : ∀ c : Bool, tb (if c = true then (1 : Int32) else 0) i = (c && decide (i = 0)) := by
    intro c
    cases c
    · simp [tb_0]
    · simp [h2]
  rw [tb_and, h2, h3]
  by_cases h : i = 0
  · subst h
    rw [h1]
  · simp [h]
theorem shr_1 (x : Int32) {g : Nat} (hg : g < 31) : ((x >>> (nI g &&& 31)) &&& 1 = 1) ↔ tb x g = true := by
  rw [shr_bit x hg]
  cases tb x g <;> simp
theorem shr_0 (x : Int32) {g : Nat} (hg : g < 31) : ((x >>> (nI g &&& 31)) &&& 1 = 0) ↔ tb x g = false := by
  rw [shr_bit x hg]
  cases tb x g <;> simp
theorem i_or0 (x : Int32) : x ||| 0 = x := by
  apply tb_ext
  intro i hi
  rw [tb_or, tb_0, Bool.or_false]
theorem i_and_or (a b c : Int32) : (a ||| b) &&& c = (a &&& c) ||| (b &&& c) := by
  apply tb_ext
  intro i hi
  rw [tb_and, tb_or, tb_or, tb_and, tb_and, Bool.and_or_distrib_right]
theorem i_and_not (x : Int32) : x &&& (x ^^^ (-1)) = 0 := by
  apply tb_ext
  intro i hi
  rw [tb_and, tb_not _ hi, tb_0]
  cases tb x i <;> rfl
theorem fb_or16 {a b : Nat} (ha : a < 65536) (hb : b < 65536) : ∃ w, w < 65536 ∧ nI a ||| nI b = nI w := by
  refine ⟨a ||| b, Nat.or_lt_two_pow (n := 16) ha hb, ?_⟩
  apply Int32.toBitVec_inj.mp
  rw [Int32.toBitVec_or, nI_bv, nI_bv, nI_bv, BitVec.ofNat_or]
theorem and16 (a : Nat) (ha : a < 65536) (x : Int32) : ∃ w, w < 65536 ∧ nI a &&& x = nI w := by
  have hx : x = nI x.toBitVec.toNat := by
    apply Int32.toBitVec_inj.mp
    rw [nI_bv, BitVec.ofNat_toNat, BitVec.setWidth_eq]
  refine ⟨a &&& x.toBitVec.toNat, Nat.lt_of_le_of_lt Nat.and_le_left ha, ?_⟩
  apply Int32.toBitVec_inj.mp
  conv => lhs; rw [hx]
  rw [Int32.toBitVec_and, nI_bv, nI_bv, nI_bv, BitVec.ofNat_and]
theorem min_sym (a b : Int32) : (if a < b then a else b) = mnI a b := by
  unfold mnI
  rcases Int.lt_trichotomy a.toInt b.toInt with h | h | h
  · rw [if_pos (Int32.lt_iff_toInt_lt.mpr h), if_neg (fun q => by have := Int32.lt_iff_toInt_lt.mp q; omega)]
  · have : a = b := Int32.toInt_inj.mp h
    subst this
    simp
  · rw [if_neg (fun q => by have := Int32.lt_iff_toInt_lt.mp q; omega), if_pos (Int32.lt_iff_toInt_lt.mpr h)]
