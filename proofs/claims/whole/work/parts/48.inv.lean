/-! The relation that every operation keeps. -/
def DyB (n : Nat) (T : Row) : Prop := ∃ d, d ≤ 60 * n ∧ T 1 = nI d
def SpB (T : Row) : Prop := ∀ k, k < 10 → T (65 + k) = -1 ∨ ∃ g, g < nN T ∧ T (65 + k) = nI g
def RwI (n : Nat) (T : Row) : Prop := VT T ∧ DyB n T ∧ SpB T
def RowI (n : Nat) (S : St) : Prop := RwI n (S 42) ∧ Rep 1 (S 42) 0 S
def KpI (n : Nat) (S : St) : Prop := S 0 3 = S 41 4 ∧ (S 0 3 = 0 ∨ (S 0 3 = 1 ∧ RwI n (S 43) ∧ Rep 19 (S 43) 0 S))
def TpI (S : St) : Prop := ∃ t, t ≤ 120 ∧ S 28 1 = nI t ∧ S 41 7 = nI t ∧ ∀ j, j < t → S 29 j = S 47 j ∧ ∃ w, w < 256 ∧ S 29 j = nI w
def ShI (S : St) : Prop := ∀ i, i < 4 → ∃ m, m ≤ 40 ∧ S (32 + 2 * i) 2 = nI m ∧ S 49 i = nI m ∧
  ((S (32 + 2 * i) 1 = 0 ∧ S 48 i = -1) ∨ (S 48 i = S (32 + 2 * i) 1 ∧ (S (32 + 2 * i) 1 = 8 ∨ S (32 + 2 * i) 1 = 16 ∨ S (32 + 2 * i) 1 = 32))) ∧
  ∀ j, j < m → S (33 + 2 * i) j = S 50 (40 * i + j)
def FdI (S : St) : Prop := (∀ k, k < 7 → S 40 k = S 46 (k + 1)) ∧ S 46 0 = S 40 0 + S 40 1 + S 40 2 + S 40 3 + S 40 4 + S 40 5 + S 40 6
def Inv (n : Nat) (S : St) : Prop := RowI n S ∧ KpI n S ∧ TpI S ∧ ShI S ∧ FdI S
theorem RwI.up {n : Nat} {T : Row} (h : RwI n T) : RwI (n + 1) T := by
  obtain ⟨h1, ⟨d, h2, h3⟩, h4⟩ := h
  exact ⟨h1, ⟨d, by omega, h3⟩, h4⟩
theorem KpI.up {n : Nat} {S : St} (h : KpI n S) : KpI (n + 1) S := by
  obtain ⟨h1, h2⟩ := h
  refine ⟨h1, ?_⟩
  rcases h2 with h2 | ⟨a, b, c⟩
  · exact Or.inl h2
  · exact Or.inr ⟨a, b.up, c⟩
theorem inv_stay : ∀ n S, Inv n S → Inv (n + 1) S := fun n S h => ⟨⟨h.1.1.up, h.1.2⟩, h.2.1.up, h.2.2⟩
theorem Inv.V {n : Nat} {S : St} (h : Inv n S) : VT (S 42) := h.1.1.1
theorem Inv.R {n : Nat} {S : St} (h : Inv n S) : Rep 1 (S 42) 0 S := h.1.2
theorem KpI.fr {n : Nat} {S S' : St} (h : KpI n S) (e0 : S' 0 = S 0) (e : ∀ k, 19 ≤ k → k < 28 → S' k = S k) (e1 : S' 41 = S 41) (e2 : S' 43 = S 43) : KpI n S' := by
  obtain ⟨h1, h2⟩ := h
  refine ⟨by rw [e0, e1]; exact h1, ?_⟩
  rcases h2 with h2 | ⟨a, b, c⟩
  · exact Or.inl (by rw [e0]; exact h2)
  · exact Or.inr ⟨by rw [e0]; exact a, by rw [e2]; exact b, by rw [e2]; exact c.fr (fun i hi => e _ (by omega) (by omega))⟩
theorem TpI.fr {S S' : St} (h : TpI S) (e1 : S' 28 = S 28) (e2 : S' 29 = S 29) (e3 : S' 41 = S 41) (e4 : S' 47 = S 47) : TpI S' := by
  unfold TpI
  rw [e1, e2, e3, e4]
  exact h
theorem ShI.fr {S S' : St} (h : ShI S) (e : ∀ k, 32 ≤ k → k < 40 → S' k = S k) (e1 : S' 48 = S 48) (e2 : S' 49 = S 49) (e3 : S' 50 = S 50) : ShI S' := by
  intro i hi
  rw [e1, e2, e3, e (32 + 2 * i) (by omega) (by omega), e (33 + 2 * i) (by omega) (by omega)]
  exact h i hi
theorem FdI.fr {S S' : St} (h : FdI S) (e1 : S' 40 = S 40) (e2 : S' 46 = S 46) : FdI S' := by
  unfold FdI
  rw [e1, e2]
  exact h
/-- the row changed, and with it the cliff, the trial and what stands aside -/
theorem Inv.row {n m : Nat} {S S' : St} {T : Row} (h : Inv n S) (e : ∀ k, (k = 0 ∨ 19 ≤ k) → k ≠ 30 → k ≠ 42 → k ≠ 44 → k ≠ 45 → S' k = S k) (e42 : S' 42 = T) (hR : Rep 1 T 0 S') (hT : RwI m T) (hm : m ≤ n + 1) : Inv (n + 1) S' := by
  obtain ⟨a, b, c, d, f⟩ := h
  refine ⟨⟨?_, by rw [e42]; exact hR⟩, b.up.fr (e 0 (by omega) (by omega) (by omega) (by omega) (by omega)) (fun k h1 h2 => e k (by omega) (by omega) (by omega) (by omega) (by omega)) (e 41 (by omega) (by omega) (by omega) (by omega) (by omega)) (e 43 (by omega) (by omega) (by omega) (by omega) (by omega)),
    c.fr (e 28 (by omega) (by omega) (by omega) (by omega) (by omega)) (e 29 (by omega) (by omega) (by omega) (by omega) (by omega)) (e 41 (by omega) (by omega) (by omega) (by omega) (by omega)) (e 47 (by omega) (by omega) (by omega) (by omega) (by omega)),
    d.fr (fun k h1 h2 => e k (by omega) (by omega) (by omega) (by omega) (by omega)) (e 48 (by omega) (by omega) (by omega) (by omega) (by omega)) (e 49 (by omega) (by omega) (by omega) (by omega) (by omega)) (e 50 (by omega) (by omega) (by omega) (by omega) (by omega)),
    f.fr (e 40 (by omega) (by omega) (by omega) (by omega) (by omega)) (e 46 (by omega) (by omega) (by omega) (by omega) (by omega))⟩
  rw [e42]
  obtain ⟨h1, ⟨d', h2, h3⟩, h4⟩ := hT
  exact ⟨h1, ⟨d', by omega, h3⟩, h4⟩
theorem cn_e {k a : Nat} {S : St} (h1 : a ≠ 40) (h2 : a ≠ 46) : cnM k (cnC k S) a = S a := by
  unfold cnM cnC
  rw [upR_qn h2, up2_qn h1]
theorem arc (a b c : Int32) : a + b + c = a + c + b := by rw [Int32.add_assoc, Int32.add_comm b c, Int32.add_assoc]
theorem add7 (a b c d e f g : Int32) : a + b + c + d + e + f + g + 1 = a + b + c + d + e + f + (g + 1) := Int32.add_assoc _ _ _
theorem add6 (a b c d e f g : Int32) : a + b + c + d + e + f + g + 1 = a + b + c + d + e + (f + 1) + g := by
  rw [arc _ g 1, Int32.add_assoc _ f 1]
theorem add5 (a b c d e f g : Int32) : a + b + c + d + e + f + g + 1 = a + b + c + d + (e + 1) + f + g := by
  rw [arc _ g 1, arc _ f 1, Int32.add_assoc _ e 1]
theorem add4 (a b c d e f g : Int32) : a + b + c + d + e + f + g + 1 = a + b + c + (d + 1) + e + f + g := by
  rw [arc _ g 1, arc _ f 1, arc _ e 1, Int32.add_assoc _ d 1]
theorem add3 (a b c d e f g : Int32) : a + b + c + d + e + f + g + 1 = a + b + (c + 1) + d + e + f + g := by
  rw [arc _ g 1, arc _ f 1, arc _ e 1, arc _ d 1, Int32.add_assoc _ c 1]
theorem add2 (a b c d e f g : Int32) : a + b + c + d + e + f + g + 1 = a + (b + 1) + c + d + e + f + g := by
  rw [arc _ g 1, arc _ f 1, arc _ e 1, arc _ d 1, arc _ c 1, Int32.add_assoc _ b 1]
theorem add1 (a b c d e f g : Int32) : a + b + c + d + e + f + g + 1 = (a + 1) + b + c + d + e + f + g := by
  rw [arc _ g 1, arc _ f 1, arc _ e 1, arc _ d 1, arc _ c 1, arc _ b 1]
theorem FdI.cn {k : Nat} (hk : k < 7) {S : St} (h : FdI S) : FdI (cnM k (cnC k S)) := by
  obtain ⟨h1, h2⟩ := h
  have e40 : cnM k (cnC k S) 40 = upd (S 40) k (S 40 k + 1) := by
    unfold cnM cnC
    rw [upR_qn (by omega), up2_qq]
  have e46 : cnM k (cnC k S) 46 = upd (upd (S 46) 0 (S 46 0 + 1)) (k + 1) (S 46 (k + 1) + 1) := by
    unfold cnM cnC
    rw [upR_qq, up2_qn (by omega)]
  unfold FdI
  rw [e40, e46]
  constructor
  · intro j hj
    by_cases hjk : j = k
    · subst hjk
      rw [upd_s, upd_s, h1 j hj]
    · rw [upd_n hjk, upd_n (by omega), upd_n (by omega), h1 j hj]
  · rw [upd_n (by omega), upd_s, h2]
    have hk' : k = 0 ∨ k = 1 ∨ k = 2 ∨ k = 3 ∨ k = 4 ∨ k = 5 ∨ k = 6 := by omega
    rcases hk' with rfl | rfl | rfl | rfl | rfl | rfl | rfl
    · rw [upd_s, upd_n (by omega), upd_n (by omega), upd_n (by omega), upd_n (by omega), upd_n (by omega), upd_n (by omega), add1]
    · rw [upd_s, upd_n (by omega), upd_n (by omega), upd_n (by omega), upd_n (by omega), upd_n (by omega), upd_n (by omega), add2]
    · rw [upd_s, upd_n (by omega), upd_n (by omega), upd_n (by omega), upd_n (by omega), upd_n (by omega), upd_n (by omega), add3]
    · rw [upd_s, upd_n (by omega), upd_n (by omega), upd_n (by omega), upd_n (by omega), upd_n (by omega), upd_n (by omega), add4]
    · rw [upd_s, upd_n (by omega), upd_n (by omega), upd_n (by omega), upd_n (by omega), upd_n (by omega), upd_n (by omega), add5]
    · rw [upd_s, upd_n (by omega), upd_n (by omega), upd_n (by omega), upd_n (by omega), upd_n (by omega), upd_n (by omega), add6]
    · rw [upd_s, upd_n (by omega), upd_n (by omega), upd_n (by omega), upd_n (by omega), upd_n (by omega), upd_n (by omega), add7]
/-- a finding, counted on both sides -/
theorem Inv.cn {n k : Nat} {S : St} (h : Inv n S) (hk : k < 7) : Inv (n + 1) (cnM k (cnC k S)) := by
  obtain ⟨a, b, c, d, f⟩ := h
  refine ⟨⟨?_, ?_⟩, b.up.fr (cn_e (by omega) (by omega)) (fun k h1 h2 => cn_e (by omega) (by omega)) (cn_e (by omega) (by omega)) (cn_e (by omega) (by omega)), c.fr (cn_e (by omega) (by omega)) (cn_e (by omega) (by omega)) (cn_e (by omega) (by omega)) (cn_e (by omega) (by omega)), d.fr (fun k h1 h2 => cn_e (by omega) (by omega)) (cn_e (by omega) (by omega)) (cn_e (by omega) (by omega)) (cn_e (by omega) (by omega)), f.cn hk⟩
  · rw [cn_e (by omega) (by omega)]
    exact a.1.up
  · rw [cn_e (by omega) (by omega)]
    exact a.2.fr (fun i hi => cn_e (by omega) (by omega))
