/-! Counts of bits and highest bits of numbers below 65536: both ways of reckoning them. -/
theorem n_and (a b : Nat) : nI a &&& nI b = nI (a &&& b) := by
  apply Int32.toBitVec_inj.mp
  rw [Int32.toBitVec_and, nI_bv, nI_bv, nI_bv, BitVec.ofNat_and]
theorem n_xor (a b : Nat) : nI a ^^^ nI b = nI (a ^^^ b) := by
  apply Int32.toBitVec_inj.mp
  rw [Int32.toBitVec_xor, nI_bv, nI_bv, nI_bv, BitVec.ofNat_xor]
theorem n_or (a b : Nat) : nI a ||| nI b = nI (a ||| b) := by
  apply Int32.toBitVec_inj.mp
  rw [Int32.toBitVec_or, nI_bv, nI_bv, nI_bv, BitVec.ofNat_or]
theorem n_m1 : (-1 : Int32) = nI 4294967295 := by decide
theorem n_neg {a : Nat} (h : a ≤ 4294967296) : -nI a = nI (4294967296 - a) := by
  have h1 : nI a + nI (4294967296 - a) = 0 := by
    rw [nI_add, show a + (4294967296 - a) = 4294967296 by omega]
    decide
  have h2 : -nI a + (nI a + nI (4294967296 - a)) = nI (4294967296 - a) := by
    rw [← Int32.add_assoc, Int32.add_left_neg, Int32.zero_add]
  rw [← h2, h1, Int32.add_zero]
theorem n_ush {n : Nat} (hn : n < 2 ^ 32) (s : Int32) (k : Nat) (hs : ((s.toUInt32 &&& Int32.toUInt32 31).toBitVec % 32).toNat = k) : ((nI n).toUInt32 >>> (s.toUInt32 &&& Int32.toUInt32 31)).toInt32 = nI (n / 2 ^ k) := pk_ushrN hn s k hs
/-! how many bits a number has -/
def pop : Nat → Nat → Nat
  | 0, _ => 0
  | f + 1, x => x % 2 + pop f (x / 2)
theorem land2 (a b : Nat) : a &&& b = 2 * ((a / 2) &&& (b / 2)) + (a % 2) * (b % 2) := by
  have h1 : (a &&& b) / 2 = (a / 2) &&& (b / 2) := Nat.and_div_two
  have h2 : (a &&& b) % 2 = (a % 2) * (b % 2) := by
    have := @Nat.and_mod_two_eq_one a b
    rcases Nat.mod_two_eq_zero_or_one a with h | h <;> rcases Nat.mod_two_eq_zero_or_one b with h' | h' <;> rcases Nat.mod_two_eq_zero_or_one (a &&& b) with h'' | h'' <;> simp_all
  omega
theorem pop_clear : ∀ (f x : Nat), x < 2 ^ f → 0 < x → pop f (x &&& (x - 1)) + 1 = pop f x
  | 0, x, h, h0 => by simp at h; omega
  | f + 1, x, h, h0 => by
    rw [Nat.pow_succ] at h
    have e := land2 x (x - 1)
    generalize x &&& (x - 1) = y at e
    simp only [pop]
    rcases Nat.mod_two_eq_zero_or_one x with hx | hx
    · have e1 : (x - 1) / 2 = x / 2 - 1 := by omega
      rw [e1, hx, Nat.zero_mul] at e
      have ih := pop_clear f (x / 2) (by omega) (by omega)
      have e2 : y / 2 = x / 2 &&& (x / 2 - 1) := by omega
      have e3 : y % 2 = 0 := by omega
      rw [e2, e3, hx]
      omega
    · have e1 : (x - 1) / 2 = x / 2 := by omega
      have e4 : (x - 1) % 2 = 0 := by omega
      rw [e1, e4, Nat.mul_zero, Nat.and_self] at e
      have e2 : y / 2 = x / 2 := by omega
      have e3 : y % 2 = 0 := by omega
      rw [e2, e3, hx]
      omega
theorem pop_le : ∀ (f x : Nat), pop f x ≤ f
  | 0, _ => Nat.le_refl 0
  | f + 1, x => by
    have := pop_le f (x / 2)
    simp only [pop]
    omega
theorem pop_0 : ∀ f, pop f 0 = 0
  | 0 => rfl
  | f + 1 => by simp only [pop]; rw [show 0 / 2 = 0 from rfl, pop_0 f]
theorem pop_add : ∀ (m k h l : Nat), l < 2 ^ m → pop (m + k) (h * 2 ^ m + l) = pop k h + pop m l
  | 0, k, h, l, hl => by simp at hl; subst hl; simp [pop]
  | m + 1, k, h, l, hl => by
    rw [Nat.pow_succ] at hl
    rw [show m + 1 + k = (m + k) + 1 by omega]
    simp only [pop]
    have e : h * 2 ^ (m + 1) + l = 2 * (h * 2 ^ m) + l := by rw [Nat.pow_succ]; simp [Nat.mul_comm, Nat.mul_left_comm]
    have e1 : (h * 2 ^ (m + 1) + l) / 2 = h * 2 ^ m + l / 2 := by rw [e]; omega
    have e2 : (h * 2 ^ (m + 1) + l) % 2 = l % 2 := by rw [e]; omega
    rw [e1, e2, pop_add m k h (l / 2) (by omega)]
    omega
def bcN (x : Nat) : Nat := pop 16 x
def mlN : Nat → Nat → Nat → Option Nat
  | 0, _, _ => none
  | f + 1, c, x => if x = 0 then some c else mlN f (c + 1) (x &&& (x - 1))
theorem ml_pop : ∀ (f c x : Nat), x < 65536 → bcN x < f → mlN f c x = some (c + bcN x)
  | 0, c, x, h, hf => by omega
  | f + 1, c, x, h, hf => by
    unfold mlN
    by_cases h0 : x = 0
    · subst h0
      rw [if_pos rfl]
      unfold bcN
      rw [pop_0]
      rfl
    · have hc := pop_clear 16 x h (by omega)
      have hlt : x &&& (x - 1) < 65536 := Nat.lt_of_le_of_lt Nat.and_le_left h
      rw [if_neg h0, ml_pop f (c + 1) (x &&& (x - 1)) hlt (by unfold bcN at *; omega)]
      unfold bcN at *
      congr 1
      omega
theorem bc_le {x : Nat} : bcN x ≤ 16 := pop_le 16 x
theorem ml_bcx {x : Nat} (h : x < 65536) : mlN 17 0 x = some (bcN x) := by
  rw [ml_pop 17 0 x h (by have := bc_le (x := x); omega), Nat.zero_add]
/-! the folded count, byte by byte -/
theorem land_split {p q r s : Nat} (hq : q < 256) (hs : s < 256) : (p * 256 + q) &&& (r * 256 + s) = (p &&& r) * 256 + (q &&& s) := by
  apply Nat.eq_of_testBit_eq
  intro i
  have hqs : q &&& s < 2 ^ 8 := Nat.lt_of_le_of_lt Nat.and_le_left hq
  rw [Nat.testBit_and, show p * 256 = 2 ^ 8 * p by omega, show r * 256 = 2 ^ 8 * r by omega, show (p &&& r) * 256 = 2 ^ 8 * (p &&& r) by omega]
  rw [Nat.testBit_two_pow_mul_add _ (show q < 2 ^ 8 from hq), Nat.testBit_two_pow_mul_add _ (show s < 2 ^ 8 from hs), Nat.testBit_two_pow_mul_add _ hqs]
  by_cases hi : i < 8
  · simp [hi]
  · simp [hi]
def swN (x : Nat) : Nat :=
  let a := x - (x / 2 &&& 1431655765)
  let b := (a &&& 858993459) + (a / 4 &&& 858993459)
  let c := (b + b / 16) &&& 252645135
  let d := c + c / 256
  let e := d + d / 65536
  e &&& 63
def sA (l : Nat) : Nat := l - (l / 2 &&& 85)
def sB (l : Nat) : Nat := (l &&& 51) + (l / 4 &&& 51)
def sC (l : Nat) : Nat := (l + l / 16) &&& 15
theorem t1 : ∀ l, l < 256 → ∀ t, t < 2 → (t * 128 + l / 2) &&& 85 = l / 2 &&& 85 := by decide +kernel
theorem t2 : ∀ l, l < 256 → ∀ t, t < 4 → (t * 64 + l / 4) &&& 51 = l / 4 &&& 51 := by decide +kernel
theorem t3 : ∀ l, l < 256 → (l / 2 &&& 85) ≤ l ∧ sA l < 256 ∧ sB (sA l) < 69 ∧ sB (sA l) % 16 < 5 ∧ sC (sB (sA l)) = pop 8 l ∧ sC (sB (sA l)) < 9 := by decide +kernel
theorem t4 : ∀ l, l < 69 → ∀ t, t < 5 → (l + (t * 16 + l / 16)) &&& 15 = (l + l / 16) &&& 15 := by decide +kernel
theorem sw_eq {x : Nat} (hx : x < 65536) : swN x = bcN x := by
  obtain ⟨h, l, hh, hl, rfl⟩ : ∃ h l, h < 256 ∧ l < 256 ∧ x = h * 256 + l := ⟨x / 256, x % 256, by omega, by omega, by omega⟩
  obtain ⟨p1, p2, p3, p3b, p4, p5⟩ := t3 h hh
  obtain ⟨q1, q2, q3, q3b, q4, q5⟩ := t3 l hl
  unfold swN
  dsimp only
  have eA : (h * 256 + l) - ((h * 256 + l) / 2 &&& 1431655765) = sA h * 256 + sA l := by
    have e1 : (h * 256 + l) / 2 = (h / 2) * 256 + (h % 2 * 128 + l / 2) := by omega
    rw [e1, show (1431655765 : Nat) = 5592405 * 256 + 85 from rfl, land_split (by omega) (by decide), t1 l hl _ (by omega)]
    have e2 : h / 2 &&& 5592405 = h / 2 &&& 85 := by
      have := land_split (p := 0) (q := h / 2) (r := 21845) (s := 85) (by omega) (by decide)
      rw [Nat.zero_mul, Nat.zero_add, Nat.zero_and, Nat.zero_mul, Nat.zero_add] at this
      exact this
    rw [e2]
    unfold sA
    omega
  rw [eA]
  generalize sA h = ah at *
  generalize sA l = al at *
  have eB : ((ah * 256 + al) &&& 858993459) + ((ah * 256 + al) / 4 &&& 858993459) = sB ah * 256 + sB al := by
    have e1 : (ah * 256 + al) / 4 = (ah / 4) * 256 + (ah % 4 * 64 + al / 4) := by omega
    have e2 : ∀ y, y < 256 → y &&& 3355443 = y &&& 51 := by
      intro y hy
      have := land_split (p := 0) (q := y) (r := 13107) (s := 51) hy (by decide)
      rw [Nat.zero_mul, Nat.zero_add, Nat.zero_and, Nat.zero_mul, Nat.zero_add] at this
      exact this
    rw [e1, show (858993459 : Nat) = 3355443 * 256 + 51 from rfl, land_split (by omega) (by decide), land_split (by omega) (by decide), t2 al (by omega) _ (by omega), e2 ah (by omega), e2 (ah / 4) (by omega)]
    unfold sB
    omega
  rw [eB]
  generalize sB ah = bh at *
  generalize sB al = bl at *
  have eC : ((bh * 256 + bl) + (bh * 256 + bl) / 16) &&& 252645135 = sC bh * 256 + sC bl := by
    have e1 : (bh * 256 + bl) + (bh * 256 + bl) / 16 = (bh + bh / 16) * 256 + (bl + (bh % 16 * 16 + bl / 16)) := by omega
    have e2 : ∀ y, y < 256 → y &&& 986895 = y &&& 15 := by
      intro y hy
      have := land_split (p := 0) (q := y) (r := 3855) (s := 15) hy (by decide)
      rw [Nat.zero_mul, Nat.zero_add, Nat.zero_and, Nat.zero_mul, Nat.zero_add] at this
      exact this
    rw [e1, show (252645135 : Nat) = 986895 * 256 + 15 from rfl, land_split (by omega) (by decide), t4 bl q3 _ p3b, e2 _ (by omega)]
    rfl
  rw [eC, p4, q4]
  rw [p4] at p5
  rw [q4] at q5
  have e5 : (pop 8 h * 256 + pop 8 l) + (pop 8 h * 256 + pop 8 l) / 256 = pop 8 h * 256 + (pop 8 l + pop 8 h) := by omega
  rw [e5, show (pop 8 h * 256 + (pop 8 l + pop 8 h)) / 65536 = 0 by omega, Nat.add_zero, show (63 : Nat) = 2 ^ 6 - 1 from rfl, Nat.and_two_pow_sub_one_eq_mod]
  have e6 := pop_add 8 8 h l hl
  unfold bcN
  rw [show (16 : Nat) = 8 + 8 from rfl, show h * 256 = h * 2 ^ 8 from rfl, e6]
  omega
theorem many_loop (S : St) : ∀ (f c x r : Nat), x < 65536 → mlN f c x = some r → ∀ f', f ≤ f' → fX5_many_L4 f' (nI c) (nI x) S = some (nI r, S)
  | 0, c, x, r, hx, h, f', hf => by cases h
  | f + 1, c, x, r, hx, h, f' + 1, hf => by
    unfold mlN at h
    unfold fX5_many_L4
    by_cases h0 : x = 0
    · subst h0
      rw [if_pos rfl] at h
      cases h
      rw [if_pos nI_0]
    · rw [if_neg h0] at h
      rw [if_neg (nI_ne0 (by omega) (by omega)), bnd_s, bnd_s, nI_1, show (1 : Int32) = nI 1 from rfl, pk_sub (by omega), n_and]
      exact many_loop S f (c + 1) (x &&& (x - 1)) r (Nat.lt_of_le_of_lt Nat.and_le_left hx) h f' (by omega)
  | f + 1, c, x, r, hx, h, 0, hf => by omega
theorem many_eq {x : Nat} (h : x < 65536) (S : St) : fX5_many (nI x) S = some (nI (bcN x), S) := many_loop S 17 0 x _ h (ml_bcx h) FU (by decide)
theorem bitCount_eq {x : Nat} (h : x < 65536) (S : St) : fJ6_bitCount_0f7a4 (nI x) S = some (nI (bcN x), S) := by
  rw [← sw_eq h]
  unfold fJ6_bitCount_0f7a4 swN
  simp only [bnd_s]
  have e1 : (x / 2 &&& 1431655765) ≤ x := Nat.le_trans Nat.and_le_left (Nat.div_le_self _ _)
  have e5 : ∀ y : Nat, y &&& 858993459 ≤ 858993459 := fun y => Nat.and_le_right
  have e6 : ∀ y : Nat, y &&& 252645135 ≤ 252645135 := fun y => Nat.and_le_right
  rw [n_ush (by omega) 1 1 (by decide), show (1431655765 : Int32) = nI 1431655765 from rfl, n_and, pk_sub (by simpa using e1)]
  simp only [Nat.pow_one]
  generalize ha : x - (x / 2 &&& 1431655765) = a
  have ha2 : a < 65536 := by omega
  rw [n_ush (by omega) 2 2 (by decide), show (858993459 : Int32) = nI 858993459 from rfl, n_and, n_and, nI_add]
  simp only [show (2 : Nat) ^ 2 = 4 from rfl]
  have h3 := e5 a
  have h4 := e5 (a / 4)
  generalize hb : (a &&& 858993459) + (a / 4 &&& 858993459) = b
  have hb2 : b < 2000000000 := by omega
  rw [n_ush (by omega) 4 4 (by decide), show (252645135 : Int32) = nI 252645135 from rfl, nI_add, n_and]
  simp only [show (2 : Nat) ^ 4 = 16 from rfl]
  have h5 := e6 (b + b / 16)
  generalize hc : (b + b / 16) &&& 252645135 = c
  have hc2 : c ≤ 252645135 := by omega
  rw [n_ush (by omega) 8 8 (by decide), nI_add]
  simp only [show (2 : Nat) ^ 8 = 256 from rfl]
  generalize hd : c + c / 256 = d
  have hd2 : d < 300000000 := by omega
  rw [n_ush (by omega) 16 16 (by decide), nI_add, show (63 : Int32) = nI 63 from rfl, n_and]
/-! the highest bit -/
def loN (x : Nat) : Nat := x &&& (4294967296 - x)
def hlN : Nat → Nat → Nat → Option Nat
  | 0, _, _ => none
  | f + 1, b, x => if x = 0 then some b else hlN f (loN x) (x &&& (x - 1))
def hiN (x : Nat) : Nat := (hlN 17 0 x).getD 0
def woN : Nat → Nat → Nat
  | 0, x => x
  | p + 1, x => if x.testBit p then x &&& (2 ^ p ^^^ 4294967295) else woN p x
theorem top_bit {x p : Nat} (h1 : 2 ^ p ≤ x) (h2 : x < 2 ^ (p + 1)) : x.testBit p = true := by
  rw [Nat.testBit_eq_decide_div_mod_eq]
  have : x / 2 ^ p = 1 := by
    rw [Nat.pow_succ] at h2
    exact Nat.div_eq_of_lt_le (by omega) (by omega)
  rw [this]
  rfl
theorem lo_pow : ∀ p, p < 16 → loN (2 ^ p) = 2 ^ p := by decide
theorem hl_top : ∀ (f b x p : Nat), p < 16 → 2 ^ p ≤ x → x < 2 ^ (p + 1) → pop 16 x < f → hlN f b x = some (2 ^ p)
  | 0, b, x, p, hp, h1, h2, hf => by omega
  | f + 1, b, x, p, hp, h1, h2, hf => by
    have hpos : 0 < 2 ^ p := Nat.pow_pos (by decide)
    have h16 : 2 ^ (p + 1) ≤ 2 ^ 16 := Nat.pow_le_pow_right (by decide) (by omega)
    have hx : x < 2 ^ 16 := by omega
    unfold hlN
    rw [if_neg (by omega)]
    have hc := pop_clear 16 x hx (by omega)
    by_cases he : x = 2 ^ p
    · have hz : x &&& (x - 1) = 0 := by
        rw [he]
        have : ∀ p, p < 16 → 2 ^ p &&& (2 ^ p - 1) = 0 := by decide
        exact this p hp
      rw [hz, he, lo_pow p hp]
      cases f with
      | zero => omega
      | succ f =>
        unfold hlN
        rw [if_pos rfl]
    · have hb : (x &&& (x - 1)).testBit p = true := by
        rw [Nat.testBit_and, top_bit h1 h2, top_bit (p := p) (x := x - 1) (by omega) (by omega)]
        rfl
      have hge := Nat.ge_two_pow_of_testBit hb
      have hle : x &&& (x - 1) ≤ x := Nat.and_le_left
      exact hl_top f (loN x) (x &&& (x - 1)) p hp hge (by omega) (by omega)
theorem has_top {x : Nat} (h0 : 0 < x) (h : x < 65536) : ∃ p, p < 16 ∧ 2 ^ p ≤ x ∧ x < 2 ^ (p + 1) := by
  refine ⟨x.log2, (Nat.log2_lt (by omega)).mpr h, Nat.log2_self_le (by omega), Nat.lt_log2_self⟩
theorem wo_top {x p : Nat} (h1 : 2 ^ p ≤ x) (h2 : x < 2 ^ (p + 1)) : ∀ k, p < k → woN k x = x &&& (2 ^ p ^^^ 4294967295)
  | 0, hk => by omega
  | k + 1, hk => by
    unfold woN
    by_cases hkp : k = p
    · subst hkp
      rw [if_pos (top_bit h1 h2)]
    · have hlt : x < 2 ^ k := Nat.lt_of_lt_of_le h2 (Nat.pow_le_pow_right (by decide) (by omega))
      rw [Nat.testBit_lt_two_pow hlt]
      exact wo_top h1 h2 k (by omega)
theorem wo_0 : ∀ k, woN k 0 = 0
  | 0 => rfl
  | k + 1 => by
    unfold woN
    rw [Nat.zero_testBit]
    exact wo_0 k
theorem hi_wox {x : Nat} (h : x < 65536) : hlN 17 0 x = some (hiN x) ∧ (x &&& (hiN x ^^^ 4294967295)) = woN 16 x := by
  by_cases h0 : x = 0
  · subst h0
    exact ⟨rfl, by rw [Nat.zero_and, wo_0]⟩
  · obtain ⟨p, hp, h1, h2⟩ := has_top (by omega) h
    have e := hl_top 17 0 x p hp h1 h2 (by have := pop_le 16 x; omega)
    have e2 : hiN x = 2 ^ p := by
      unfold hiN
      rw [e]
      rfl
    rw [e2]
    exact ⟨e, (wo_top h1 h2 16 hp).symm⟩
theorem low_eq {x : Nat} (h : x < 65536) : nI x &&& (-nI x) = nI (loN x) := by
  rw [n_neg (by omega), n_and]
  rfl
theorem hi_loop (S : St) : ∀ (f b x r : Nat), x < 65536 → hlN f b x = some r → ∀ f', f ≤ f' → fX5_highestOf_L4 f' (nI b) (nI x) S = some (nI r, S)
  | 0, b, x, r, hx, h, f', hf => by cases h
  | f + 1, b, x, r, hx, h, f' + 1, hf => by
    unfold hlN at h
    unfold fX5_highestOf_L4
    by_cases h0 : x = 0
    · subst h0
      rw [if_pos rfl] at h
      cases h
      rw [if_pos nI_0]
    · rw [if_neg h0] at h
      rw [if_neg (nI_ne0 (by omega) (by omega))]
      unfold fX5_lowestOf
      rw [low_eq hx, cl_sm, bnd_s, show (1 : Int32) = nI 1 from rfl, pk_sub (by omega), n_and]
      exact hi_loop S f (loN x) (x &&& (x - 1)) r (Nat.lt_of_le_of_lt Nat.and_le_left hx) h f' (by omega)
  | f + 1, b, x, r, hx, h, 0, hf => by omega
theorem highest_eq {x : Nat} (h : x < 65536) (S : St) : fX5_highestOf (nI x) S = some (nI (hiN x), S) := hi_loop S 17 0 x _ h (hi_wox h).1 FU (by decide)
theorem hasBit_eq (x : Int32) {g : Nat} (hg : g < 31) (S : St) : fX4_hasBit x (nI g) S = some (b2i (tb x g = true), S) := by
  unfold fX4_hasBit fX4_hasBit_L13
  rw [shr_bit x hg, retN_0, retN_1]
  cases tb x g <;> simp [b2i]
theorem wo_loop (S : St) (x : Nat) (hx : x < 65536) : ∀ (p f : Nat), p ≤ 16 → p < f → fX0_withoutGreatest_L3 f (nI x) (nI p - 1) S = some (nI (woN p x), S)
  | 0, f + 1, hp, hf => by
    unfold fX0_withoutGreatest_L3
    rw [if_pos (by decide)]
    rfl
  | p + 1, f + 1, hp, hf => by
    unfold fX0_withoutGreatest_L3
    rw [nI_pred, if_neg (nI_pos (by omega)), cl_s (hasBit_eq _ (by omega) S), tb_nI (by omega)]
    unfold woN
    cases hb : x.testBit p
    · rw [if_pos (by decide), bnd_s, if_neg (by simp)]
      have := wo_loop S x hx p f (by omega) (by omega)
      rw [show nI p + (-1) = nI p - 1 by rw [Int32.sub_eq_add_neg]]
      exact this
    · rw [if_neg (by decide), if_pos rfl]
      have e1 : (1 : Int32) <<< (nI p &&& 31) = nI (2 ^ p) := b1_nI p (by omega)
      rw [e1, n_m1, n_xor, n_and]
  | 0, 0, hp, hf => by omega
  | p + 1, 0, hp, hf => by omega
theorem wo_eq {x : Nat} (h : x < 65536) (S : St) : fX0_withoutGreatest (nI x) S = some (nI (woN 16 x), S) := wo_loop S x h 16 FU (by omega) (by decide)
theorem wo_lt {x : Nat} (h : x < 65536) : woN 16 x < 65536 := by
  rw [← (hi_wox h).2]
  exact Nat.lt_of_le_of_lt Nat.and_le_left h
/-- what forgetting leaves -/
theorem forget_eq {x : Nat} (h : x < 65536) : nI x &&& (nI (hiN x) ^^^ (-1)) = nI (woN 16 x) := by
  rw [n_m1, n_xor, n_and, (hi_wox h).2]
theorem lo_le {x : Nat} : loN x ≤ x := Nat.and_le_left
