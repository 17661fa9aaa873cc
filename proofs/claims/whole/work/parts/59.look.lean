/-! Looking ahead: the trial and the row set aside. -/
def Lk (S S' : St) : Prop := (∀ k, (k < 10 ∨ 19 ≤ k) → k ≠ 42 → k ≠ 45 → S' k = S k) ∧ EqT (S 42) (S' 42)
theorem EqT.tr {A B C : Row} (h1 : EqT A B) (h2 : EqT B C) : EqT A C := fun j hj => (h2 j hj).trans (h1 j hj)
theorem EqT.rf {A : Row} : EqT A A := fun _ _ => rfl
theorem RwI.eqT {n : Nat} {T T' : Row} (h : RwI n T) (e : EqT T T') : RwI n T' := by
  obtain ⟨a, ⟨d, d1, d2⟩, c⟩ := h
  refine ⟨a.eqT e, ⟨d, d1, by rw [e 1 (by omega)]; exact d2⟩, fun k hk => ?_⟩
  rw [e (65 + k) (by omega), nN_eq (e 0 (by omega))]
  exact c k hk
theorem Inv.lk {n : Nat} {S S' : St} (h : Inv n S) (l : Lk S S') : Inv n S' := by
  obtain ⟨a, b, c, d, f⟩ := h
  obtain ⟨e, e42⟩ := l
  refine ⟨⟨a.1.eqT e42, (a.2.fr (fun i hi => e _ (by omega) (by omega) (by omega))).eqT e42⟩, b.fr (e 0 (by omega) (by omega) (by omega)) (fun k h1 h2 => e k (by omega) (by omega) (by omega)) (e 41 (by omega) (by omega) (by omega)) (e 43 (by omega) (by omega) (by omega)),
    c.fr (e 28 (by omega) (by omega) (by omega)) (e 29 (by omega) (by omega) (by omega)) (e 41 (by omega) (by omega) (by omega)) (e 47 (by omega) (by omega) (by omega)),
    d.fr (fun k h1 h2 => e k (by omega) (by omega) (by omega)) (e 48 (by omega) (by omega) (by omega)) (e 49 (by omega) (by omega) (by omega)) (e 50 (by omega) (by omega) (by omega)),
    f.fr (e 40 (by omega) (by omega) (by omega)) (e 46 (by omega) (by omega) (by omega))⟩
theorem Lk.cn {k : Nat} {A B : St} (h : Lk A B) : Lk (cnM k A) (cnM k B) := by
  obtain ⟨e, e42⟩ := h
  refine ⟨fun q h1 h2 h3 => ?_, ?_⟩
  · by_cases q46 : q = 46
    · subst q46
      unfold cnM
      rw [upR_qq, upR_qq, e 46 (by omega) (by omega) (by omega)]
    · unfold cnM
      rw [upR_qn q46, upR_qn q46]
      exact e q h1 h2 h3
  · unfold cnM
    rw [upR_qn (by omega), upR_qn (by omega)]
    exact e42
/-- a finding counted by the class, then the model's look and its count -/
theorem Inv.cnl {n k : Nat} {S S' : St} (h : Inv n S) (hk : k < 7) (l : Lk (cnC k S) S') : Inv (n + 1) (cnM k S') := (h.cn hk).lk l.cn
/-- the class looked at its trial only -/
theorem Lk.fr {S S1 : St} (p : Fr 10 S S1) : Lk S S1 := ⟨fun k h1 h2 h3 => p k (by omega), by rw [p 42 (by omega)]; exact EqT.rf⟩
theorem Lk.tr {A B C : St} (h1 : Lk A B) (h2 : Lk B C) : Lk A C := ⟨fun k a b c => (h2.1 k a b c).trans (h1.1 k a b c), h1.2.tr h2.2⟩
theorem isIn100 (a : Int32) (S : St) : fX5_isIn a.toInt64 0 100 S = some (b2i (inR a 101), S) := isIn_n a 100 (by decide) rfl S
theorem within100 (a : Int32) (S : St) : fX4_isWithin a 100 S = some (b2i (inR a 101), S) := within_n a 100 (by decide) S
theorem eq_ahead : EQ3 Inv fX4_ahead fX5_ahead := by
  intro n S a1 a2 a3 hI hn
  by_cases h : inR a1 (S 42 0)
  · obtain ⟨g, hg, hgn, rfl⟩ := goatN hI h
    by_cases h2 : ¬ a2 < 1 ∧ ¬ 4 < a2
    · by_cases h3 : inR a3 101
      · obtain ⟨j, hj, rfl⟩ := inR_n (m := 101) (by decide) h3
        have h20 : ¬ a2 < 0 := fun q => h2.1 (by rw [Int32.lt_iff_toInt_lt] at q ⊢; have e0 : (0 : Int32).toInt = 0 := by decide
                                                 have e1 : (1 : Int32).toInt = 1 := by decide
                                                 omega)
        obtain ⟨w, hw, rfl⟩ := nI_of h20
        have hw6 : w < 6 := by
          have : w ≤ 4 := Nat.not_lt.mp (fun q => h2.2 (nI_lt (a := 4) q hw))
          omega
        obtain ⟨d, hd, ed⟩ := hI.1.1.2.1
        obtain ⟨v1, v2, v3⟩ := days_V hI.V 0 ed j
        obtain ⟨S1, p1, p2, p3⟩ := become_c (b := 10) hI.R (by omega)
        obtain ⟨S2, q1, q2, q3⟩ := days_c (n := j) p2 hI.V ed (by omega) (by omega)
        have l2 : Lk S S2 := (Lk.fr p3).tr (Lk.fr q3)
        have e42 : S2 42 = S 42 := (q3 42 (by omega)).trans (p3 42 (by omega))
        obtain ⟨S3, r1, r2, r3⟩ := copyRow_m (p := 42) (q := 45) (by decide) S2
        have e3 : S3 42 = S 42 := (r2 42 (by omega)).trans e42
        have hg3 := goes_m (S := S3) (n := j) (by rw [e3]; exact hI.V) (by rw [e3]; exact ed) (by omega)
        rw [e3] at hg3
        obtain ⟨S4, t1, t2, t3⟩ := copyRow_m (p := 45) (q := 42) (by decide) (upR S3 42 (daysT (S 42) 0 j))
        refine ⟨daysT (S 42) 0 j (17 + 6 * g + w), S2, S4, ?_, ?_, inv_stay _ _ ((hI.lk l2).lk ⟨fun k a b c => ?_, ?_⟩)⟩
        · unfold fX4_ahead
          rw [cl_s (goatG_c _ hI.R), b2i_t h, if_neg one_ne, if_neg h2.1, if_neg h2.2, cl_s (within100 _ S), b2i_t h3, if_neg one_ne, cl_s p1, cl_s q1, cl_s (trait_c q2 hg hw6)]
        · unfold fX5_ahead fX5_ahead_L48 fX5_then
          rw [cl_s (goatG_m _ _), e42, b2i_t h, if_neg one_ne, cl_s (isIn_l (lo := 1) (hi := 4) _ 1 4 rfl rfl _), b2i_t h2, if_neg one_ne, cl_s (isIn100 _ _), b2i_t h3, if_neg one_ne, cl_s r1, cl_s hg3, cl_s (its_n hg hw6 _), upR_qq, cl_s t1]
          rfl
        · rw [t2 k b, upR_qn b]
          exact r2 k c
        · rw [upR_qn (by omega)] at t3
          rw [e42] at r3 ⊢
          exact r3.tr t3
      · refine hI.bad ?_ ?_
        · unfold fX4_ahead fX4_ahead_L27
          rw [cl_s (goatG_c _ hI.R), b2i_t h, if_neg one_ne, if_neg h2.1, if_neg h2.2, cl_s (within100 _ S), b2i_f h3, if_pos rfl, cl_s (fo1 S)]
        · intro S1 hS1
          have e42 : S1 42 = S 42 := by rw [hS1]; exact up2_qn (by omega)
          unfold fX5_ahead fX5_ahead_L42 fX5_ahead_L48
          rw [cl_s (goatG_m _ _), e42, b2i_t h, if_neg one_ne, cl_s (isIn_l (lo := 1) (hi := 4) _ 1 4 rfl rfl _), b2i_t h2, if_neg one_ne, cl_s (isIn100 _ _), b2i_f h3, if_pos rfl, cl_s (fq1 S1)]
    · refine hI.bad ?_ ?_
      · unfold fX4_ahead fX4_ahead_L27
        rw [cl_s (goatG_c _ hI.R), b2i_t h, if_neg one_ne]
        by_cases c : a2 < 1
        · rw [if_pos c, cl_s (fo1 S)]
        · rw [if_neg c, if_pos (Decidable.byContradiction (fun q => h2 ⟨c, q⟩)), cl_s (fo1 S)]
      · intro S1 hS1
        have e42 : S1 42 = S 42 := by rw [hS1]; exact up2_qn (by omega)
        unfold fX5_ahead fX5_ahead_L42 fX5_ahead_L48
        rw [cl_s (goatG_m _ _), e42, b2i_t h, if_neg one_ne, cl_s (isIn_l (lo := 1) (hi := 4) _ 1 4 rfl rfl _), b2i_f h2, if_pos rfl, cl_s (fq1 S1)]
  · refine hI.bad ?_ ?_
    · unfold fX4_ahead fX4_ahead_L27
      rw [cl_s (goatG_c _ hI.R), b2i_f h, if_pos rfl, cl_s (fo1 S)]
    · intro S1 hS1
      have e42 : S1 42 = S 42 := by rw [hS1]; exact up2_qn (by omega)
      unfold fX5_ahead fX5_ahead_L42 fX5_ahead_L48
      rw [cl_s (goatG_m _ _), e42, b2i_f h, if_pos rfl, cl_s (fq1 S1)]
