/-! growsFor -/
def gfB (T : Row) (p n v : Nat) : Bool := tb (kaF (daysT (upd T 3 (nI v)) 0 n) 0) p
def gfO (T : Row) (p n : Nat) : Nat → Nat → Option Nat
  | 0, _ => none
  | f + 1, i => if gfB T p n i = true then some i else gfO T p n f (i + 1)
def gfC (S : St) : Option Nat → Option (Int32 × St)
  | none => some (-1000004, cnC 3 S)
  | some x => some (nI x, S)
theorem gf_c {T : Row} {m p n d : Nat} (hT : RwI m T) (hp : p < 16) (ed : T 1 = nI d) (hn : n ≤ 40) (hd : d + n ≤ 99999) : ∀ (f i e : Nat) (S : St), i + f = 21 → Rep 1 T 0 S → ∃ S', fX4_growsFor_L25 (f + 1 + e) (nI p) (nI n) (nI i) S = gfC S' (gfO T p n f i) ∧ Fr 10 S S'
  | 0, i, e, S, h, hR => by
    have c : (20 : Int32) < nI i := nI_lt (a := 20) (by omega) (by omega)
    refine ⟨S, ?_, Fr.rf⟩
    rw [show 0 + 1 + e = e + 1 by omega]
    unfold fX4_growsFor_L25
    rw [if_pos c, cl_s (fo4 S)]
    rfl
  | f + 1, i, e, S, h, hR => by
    have c : ¬ (20 : Int32) < nI i := nI_nlt (a := 20) (by omega) (by decide)
    obtain ⟨S1, p1, p2, p3⟩ := become_c (b := 10) hR (by omega)
    have q2 := p2.s_gw (v := nI i)
    have hT2 := hT.lo (k := 3) (v := nI i) (by omega) (by omega)
    have ed2 : upd T 3 (nI i) 1 = nI d := by rw [upd_n (by omega)]; exact ed
    obtain ⟨S3, r1, r2, r3⟩ := days_c (n := n) q2 hT2.1 ed2 hd (by omega)
    obtain ⟨v1, v2, v3⟩ := days_V hT2.1 0 ed2 n
    have F : Fr 10 S S3 := p3.tr (Fr.up0.tr r3)
    rw [show f + 1 + 1 + e = (f + 1 + e) + 1 by omega]
    unfold fX4_growsFor_L25
    rw [if_neg c, cl_s p1, bnd_s, cl_s r1, cl_s (prn_eq r2 v1 (by omega)), gfO]
    by_cases q : tb (kaF (daysT (upd T 3 (nI i)) 0 n) 0) p = true
    · have q' : gfB T p n i = true := q
      rw [b2i_t q, if_neg one_ne, if_pos q']
      exact ⟨S3, rfl, F⟩
    · have q' : ¬ gfB T p n i = true := q
      rw [b2i_f q, if_pos rfl, if_neg q', bnd_s, nI_1]
      obtain ⟨S4, t1, t2⟩ := gf_c hT hp ed hn hd f (i + 1) e S3 (by omega) (hR.f10 F)
      exact ⟨S4, t1, F.tr t2⟩
theorem gfO_le {T : Row} {p n : Nat} : ∀ f i x, gfO T p n f i = some x → x < i + f
  | 0, i, x, h => by
    rw [gfO] at h
    cases h
  | f + 1, i, x, h => by
    rw [gfO] at h
    split at h
    · injection h with h
      omega
    · have := gfO_le f (i + 1) x h
      omega
theorem gf_m {T : Row} {B : St} {m p n d : Nat} (hT : RwI m T) (hp : p < 16) (ed : T 1 = nI d) (hn : n ≤ 40) (h42 : B 42 = T) (h45 : ∀ j, j < 75 → B 45 j = T j) : ∀ (f i e : Nat), i + f = 21 → fX5_growsFor_L42 (f + 1 + e) (nI p) (nI n) (-1) (nI i) B = fX5_growsFor_L102 (oI (gfO T p n f i)) B
  | 0, i, e, h => by
    have c : (20 : Int32) < nI i := nI_lt (a := 20) (by omega) (by omega)
    rw [show 0 + 1 + e = e + 1 by omega]
    unfold fX5_growsFor_L42
    rw [if_pos c]
    rfl
  | f + 1, i, e, h => by
    have c : ¬ (20 : Int32) < nI i := nI_nlt (a := 20) (by omega) (by decide)
    have c0 : ¬ (0 : Int32) ≤ -1 := by decide
    have hT2 := hT.lo (k := 3) (v := nI i) (by omega) (by omega)
    have ed2 : upd T 3 (nI i) 1 = nI d := by rw [upd_n (by omega)]; exact ed
    have e5 : up2 B 42 3 (nI i) 42 = upd T 3 (nI i) := by rw [up2_qq, h42]
    obtain ⟨v1, v2, v3⟩ := days_V hT2.1 0 ed2 n
    have hgo := goes_m (S := up2 B 42 3 (nI i)) (n := n) (d := d) (by rw [e5]; exact hT2.1) (by rw [e5]; exact ed2) (by omega)
    rw [e5, upR_up2, upR_upR] at hgo
    have hb : fX5_copyRow 45 42 (upR B 42 (daysT (upd T 3 (nI i)) 0 n)) = some ((), B) := look_back h42 h45 (fun j hj => by rw [days_hi hT2.1 0 ed2 n j hj, upd_n (by omega)])
    rw [show f + 1 + 1 + e = (f + 1 + e) + 1 by omega]
    conv => lhs; unfold fX5_growsFor_L42
    unfold fX5_growsFor_L84
    simp only [bnd_s]
    rw [if_neg c, if_neg c0, wr3, upR_up2, cl_s hgo, cl_s (ka_eq (by rw [upR_qq]; exact v1)), upR_qq, cl_s hb, nI_1, gfO]
    by_cases q : tb (kaF (daysT (upd T 3 (nI i)) 0 n) 0) p = true
    · have q' : gfB T p n i = true := q
      rw [if_pos ((shr_1 _ (by omega)).mpr q), if_pos q']
      have c1 : (0 : Int32) ≤ nI i := nI_pos' (by omega)
      rw [show f + 1 + e = (f + e) + 1 by omega]
      unfold fX5_growsFor_L42
      by_cases w : (20 : Int32) < nI (i + 1)
      · rw [if_pos w]
        rfl
      · rw [if_neg w, if_pos c1]
        rfl
    · have q' : ¬ gfB T p n i = true := q
      rw [if_neg (fun r => q ((shr_1 _ (by omega)).mp r)), if_neg q', cl_s hb]
      exact gf_m hT hp ed hn h42 h45 f (i + 1) e (by omega)
theorem eq_growsFor : EQ2 Inv fX4_growsFor fX5_growsFor := by
  intro n S a1 a2 hI hn
  by_cases h : inR a1 16
  · by_cases h2 : inR a2 41
    · obtain ⟨p, hp, rfl⟩ := inR_n (m := 16) (by decide) h
      obtain ⟨j, hj, rfl⟩ := inR_n (m := 41) (by decide) h2
      obtain ⟨d, hd, ed⟩ := hI.1.1.2.1
      obtain ⟨S1, p1, p2⟩ := gf_c hI.1.1 (n := j) hp ed (by omega) (by omega) 21 0 1002 S (by omega) hI.R
      have e42 : S1 42 = S 42 := p2 42 (by omega)
      have l2 : Lk S S1 := Lk.fr p2
      have fc : fX4_growsFor (nI p) (nI j) S = gfC S1 (gfO (S 42) p j 21 0) := by
        unfold fX4_growsFor
        rw [cl_s (pageG_c _ S), b2i_t h, if_neg one_ne, cl_s (within40 _ S), b2i_t h2, if_neg one_ne]
        exact p1
      have run : ∀ A : St, A 42 = S 42 → ∃ B : St, fX5_growsFor (nI p) (nI j) A = fX5_growsFor_L102 (oI (gfO (S 42) p j 21 0)) B ∧ B 42 = S 42 ∧ ∀ q, q ≠ 45 → B q = A q := by
        intro A eA
        obtain ⟨B, b1, b2, b3, b4⟩ := look_go A
        rw [eA] at b2 b4
        refine ⟨B, ?_, b2, b3⟩
        have g := gf_m hI.1.1 (n := j) hp ed (by omega) b2 b4 21 0 1002 (by omega)
        unfold fX5_growsFor
        rw [cl_s (pageG_m _ A), b2i_t h, if_neg one_ne, cl_s (isIn40 _ A), b2i_t h2, if_neg one_ne, cl_s b1]
        exact g
      cases hx : gfO (S 42) p j 21 0 with
      | none =>
        rw [hx] at fc
        have eA : cnC 3 S1 42 = S 42 := (up2_qn (by omega)).trans e42
        obtain ⟨B, g1, g2, g3⟩ := run (cnC 3 S1) eA
        rw [hx] at g1
        refine ⟨-1000004, cnC 3 S1, cnM 3 B, fc, ?_, Inv.cnl (hI.lk l2) (by decide) ⟨fun q a1 a2 a3 => g3 q a3, ?_⟩⟩
        · rw [g1]
          unfold fX5_growsFor_L102
          rw [cl_s (orN_n B)]
        · rw [g2, eA]
          exact EqT.rf
      | some x =>
        rw [hx] at fc
        have hx21 := gfO_le 21 0 x hx
        have c1 : (0 : Int32) ≤ oI (some x) := nI_pos' (n := x) (by omega)
        obtain ⟨B, g1, g2, g3⟩ := run S1 e42
        rw [hx] at g1
        refine ⟨nI x, S1, B, fc, ?_, inv_stay _ _ ((hI.lk l2).lk ⟨fun q a1 a2 a3 => g3 q a3, ?_⟩)⟩
        · rw [g1]
          unfold fX5_growsFor_L102
          rw [cl_s (orN_s c1 B)]
          rfl
        · rw [g2, e42]
          exact EqT.rf
    · refine hI.bad ?_ ?_
      · unfold fX4_growsFor fX4_growsFor_L16
        rw [cl_s (pageG_c _ S), b2i_t h, if_neg one_ne, cl_s (within40 _ S), b2i_f h2, if_pos rfl, cl_s (fo1 S)]
      · intro S1 _
        unfold fX5_growsFor fX5_growsFor_L19
        rw [cl_s (pageG_m _ _), b2i_t h, if_neg one_ne, cl_s (isIn40 _ _), b2i_f h2, if_pos rfl, cl_s (fq1 S1)]
  · refine hI.bad ?_ ?_
    · unfold fX4_growsFor fX4_growsFor_L16
      rw [cl_s (pageG_c _ S), b2i_f h, if_pos rfl, cl_s (fo1 S)]
    · intro S1 _
      unfold fX5_growsFor fX5_growsFor_L19
      rw [cl_s (pageG_m _ _), b2i_f h, if_pos rfl, cl_s (fq1 S1)]
