/-! The days until something comes: one search for both. -/
def luN (C : Row → Bool) (T : Row) : Nat → Nat → Option Nat
  | 0, _ => none
  | f + 1, i => if C (daysT T 0 i) = true then some i else luN C T f (i + 1)
def luC (S : St) : Option Nat → Option (Int32 × St)
  | none => some (-1000004, cnC 3 S)
  | some x => some (nI x, S)
theorem lu_c {C : Row → Bool} {k a b : Int32} (hC : ∀ (S : St) (T : Row), Rep 10 T 0 S → VT T → fX4_hasCome k a b S = some (b2i (C T = true), S)) {T : Row} (hV : VT T) {d : Nat} (ed : T 1 = nI d) (hd : d + 200 ≤ 99999) : ∀ (f i e : Nat) (S : St), i + f = 101 → Rep 10 (daysT T 0 i) 0 S → ∃ S', fX4_daysUntil_L14 (f + 1 + e) k a b (nI i) S = luC S' (luN C T f i) ∧ Fr 10 S S'
  | 0, i, e, S, h1, hR => by
    have c : (100 : Int32) < nI i := nI_lt (a := 100) (by omega) (by omega)
    refine ⟨S, ?_, Fr.rf⟩
    rw [show 0 + 1 + e = e + 1 by omega]
    unfold fX4_daysUntil_L14
    rw [if_pos c, cl_s (fo4 S)]
    rfl
  | f + 1, i, e, S, h1, hR => by
    have c : ¬ (100 : Int32) < nI i := nI_nlt (a := 100) (by omega) (by decide)
    obtain ⟨v1, v2, v3⟩ := days_V hV 0 ed i
    rw [show f + 1 + 1 + e = (f + 1 + e) + 1 by omega]
    unfold fX4_daysUntil_L14
    rw [if_neg c, cl_s (hC S _ hR v1)]
    by_cases q : C (daysT T 0 i) = true
    · rw [b2i_t q, if_neg one_ne, luN, if_pos q]
      exact ⟨S, rfl, Fr.rf⟩
    · obtain ⟨S1, q1, q2, q3⟩ := day_c hR v1 v3 (by omega)
      rw [b2i_f q, if_pos rfl, cl_s q1, bnd_s, nI_1, luN, if_neg q]
      obtain ⟨S2, r1, r2⟩ := lu_c hC hV ed hd f (i + 1) e S1 (by omega) q2
      exact ⟨S2, r1, q3.tr r2⟩
def luM (fin : Int32 → St → Option (Int32 × St)) (S : St) (T : Row) : Option Nat → Option (Int32 × St)
  | none => fin 101 (upR S 42 (daysT T 0 101))
  | some x => fin (nI x) (upR S 42 (daysT T 0 x))
theorem lu_m {C : Row → Bool} {L : Nat → Int32 → St → Option (Int32 × St)} {fin : Int32 → St → Option (Int32 × St)} (hL : ∀ (n i : Nat) (S : St), i < 200 → VT (S 42) → L (n + 1) (nI i) S = if (100 : Int32) < nI i then fin (nI i) S else if C (S 42) = true then fin (nI i) S else cl (fX5_dayBut 0 S) fun _ S2 => L n (nI (i + 1)) S2) {T : Row} (hV : VT T) {d : Nat} (ed : T 1 = nI d) (S : St) : ∀ (f i e : Nat), i + f = 101 → L (f + 1 + e) (nI i) (upR S 42 (daysT T 0 i)) = luM fin S T (luN C T f i)
  | 0, i, e, h1 => by
    have c : (100 : Int32) < nI i := nI_lt (a := 100) (by omega) (by omega)
    obtain ⟨v1, v2, v3⟩ := days_V hV 0 ed i
    rw [show 0 + 1 + e = e + 1 by omega, hL _ _ _ (by omega) (by rw [upR_qq]; exact v1), if_pos c, show i = 101 by omega]
    rfl
  | f + 1, i, e, h1 => by
    have c : ¬ (100 : Int32) < nI i := nI_nlt (a := 100) (by omega) (by decide)
    obtain ⟨v1, v2, v3⟩ := days_V hV 0 ed i
    rw [show f + 1 + 1 + e = (f + 1 + e) + 1 by omega, hL _ _ _ (by omega) (by rw [upR_qq]; exact v1), if_neg c, upR_qq]
    by_cases q : C (daysT T 0 i) = true
    · rw [if_pos q, luN, if_pos q]
      rfl
    · rw [if_neg q, cl_s (day_m (by rw [upR_qq]; exact v1) 0), upR_qq, upR_upR, luN, if_neg q]
      exact lu_m hL hV ed S f (i + 1) e (by omega)
theorem luN_le {C : Row → Bool} {T : Row} : ∀ (f i x : Nat), i + f = 101 → luN C T f i = some x → x ≤ 100
  | 0, i, x, h1, h => by
    rw [luN] at h
    cases h
  | f + 1, i, x, h1, h => by
    rw [luN] at h
    split at h
    · injection h with h
      omega
    · exact luN_le f (i + 1) x (by omega) h
theorem until_ok {C : Row → Bool} {k a b : Int32} {L : Nat → Int32 → St → Option (Int32 × St)} {fin : Int32 → St → Option (Int32 × St)} {F G : St → Option (Int32 × St)} {n : Nat} {S : St} (hI : Inv n S) (hn : n < 512)
    (hC : ∀ (S : St) (T : Row), Rep 10 T 0 S → VT T → fX4_hasCome k a b S = some (b2i (C T = true), S))
    (hL : ∀ (n i : Nat) (S : St), i < 200 → VT (S 42) → L (n + 1) (nI i) S = if (100 : Int32) < nI i then fin (nI i) S else if C (S 42) = true then fin (nI i) S else cl (fX5_dayBut 0 S) fun _ S2 => L n (nI (i + 1)) S2)
    (hfin : ∀ x S, fin x S = cl (fX5_copyRow 45 42 S) fun _ S1 => if 100 < x then cl (fX5_finds (-1000004) S1) fun v1 S2 => some (v1, S2) else some (x, S1))
    (hF : F S = cl (fX4_daysUntil k a b S) fun v1 S1 => some (v1, S1)) (hG : ∀ S1 : St, S1 42 = S 42 → G S1 = cl (fX5_copyRow 42 45 S1) fun _ S3 => L FU 0 S3) :
    ∃ (r : Int32) (S1 S2 : St), F S = some (r, S1) ∧ G S1 = some (r, S2) ∧ Inv (n + 1) S2 := by
  obtain ⟨d, hd, ed⟩ := hI.1.1.2.1
  obtain ⟨S1, p1, p2, p3⟩ := become_c (b := 10) hI.R (by omega)
  obtain ⟨S2, q1, q2⟩ := lu_c hC hI.V ed (by omega) 101 0 922 S1 (by omega) p2
  have l2 : Lk S S2 := (Lk.fr p3).tr (Lk.fr q2)
  have eF : F S = luC S2 (luN C (S 42) 101 0) := by
    rw [hF]
    unfold fX4_daysUntil
    rw [cl_s p1]
    have q1' : fX4_daysUntil_L14 FU k a b 0 S1 = luC S2 (luN C (S 42) 101 0) := q1
    rw [q1']
    cases luN C (S 42) 101 0 <;> rfl
  -- the model from a state that looks as S does
  have run : ∀ A : St, A 42 = S 42 → ∃ B D : St, G A = luM fin B (S 42) (luN C (S 42) 101 0) ∧ (∀ T, fX5_copyRow 45 42 (upR B 42 T) = some ((), D) → True) ∧ (∀ q, q ≠ 45 → B q = A q) ∧ EqT (S 42) (B 45) := by
    intro A eA
    obtain ⟨B, r1, r2, r3⟩ := copyRow_m (p := 42) (q := 45) (by decide) A
    have eB : B 42 = S 42 := (r2 42 (by omega)).trans eA
    refine ⟨B, B, ?_, fun _ _ => trivial, r2, by rw [eA] at r3; exact r3⟩
    rw [hG A eA, cl_s r1]
    have := lu_m hL hI.V ed B 101 0 922 (by omega)
    have e0 : upR B 42 (daysT (S 42) 0 0) = B := by
      show upR B 42 (S 42) = B
      rw [← eB]
      exact upR_self
    rw [e0] at this
    exact this
  cases hx : luN C (S 42) 101 0 with
  | none =>
    rw [hx] at eF
    have eA : cnC 3 S2 42 = S 42 := (up2_qn (by omega)).trans ((q2 42 (by omega)).trans (p3 42 (by omega)))
    obtain ⟨B, _, g1, _, g3, g4⟩ := run (cnC 3 S2) eA
    obtain ⟨D, t1, t2, t3⟩ := copyRow_m (p := 45) (q := 42) (by decide) (upR B 42 (daysT (S 42) 0 101))
    have c : (100 : Int32) < 101 := by decide
    refine ⟨-1000004, cnC 3 S2, cnM 3 D, eF, ?_, Inv.cnl (hI.lk l2) (by decide) ⟨fun q a1 a2 a3 => ?_, ?_⟩⟩
    · rw [g1, hx]
      show fin 101 _ = _
      rw [hfin, cl_s t1, if_pos c, cl_s (fq4 D)]
    · rw [t2 q a2, upR_qn a2, g3 q a3]
    · rw [upR_qn (by omega)] at t3
      rw [eA]
      exact g4.tr t3
  | some x =>
    rw [hx] at eF
    have hx100 := luN_le 101 0 x (by omega) hx
    have eA : S2 42 = S 42 := (q2 42 (by omega)).trans (p3 42 (by omega))
    obtain ⟨B, _, g1, _, g3, g4⟩ := run S2 eA
    obtain ⟨D, t1, t2, t3⟩ := copyRow_m (p := 45) (q := 42) (by decide) (upR B 42 (daysT (S 42) 0 x))
    have c : ¬ (100 : Int32) < nI x := nI_nlt (a := 100) hx100 (by decide)
    refine ⟨nI x, S2, D, eF, ?_, inv_stay _ _ ((hI.lk l2).lk ⟨fun q a1 a2 a3 => ?_, ?_⟩)⟩
    · rw [g1, hx]
      show fin (nI x) _ = _
      rw [hfin, cl_s t1, if_neg c]
    · rw [t2 q a2, upR_qn a2, g3 q a3]
    · rw [upR_qn (by omega)] at t3
      rw [eA]
      exact g4.tr t3
