/-! Learning, forgetting, age: one function of the row for both. -/
theorem knF_mask {T : Row} {s s' m : Int32} : ∀ (n : Nat), (∀ h, h < n → tb s h = tb s' h ∨ T (19 + 6 * h) &&& m = 0) → knF T s n &&& m = knF T s' n &&& m
  | 0, _ => rfl
  | n + 1, hh => by
    have ih := knF_mask n (fun h hn => hh h (by omega))
    rw [knF, knF]
    rcases hh n (by omega) with e | e
    · rw [e]
      by_cases hs : tb s' n = true
      · rw [if_pos hs, if_pos hs, i_and_or, i_and_or, ih]
      · rw [if_neg hs, if_neg hs, ih]
    · have key : ∀ c : Bool, ∀ x : Int32, (if c = true then x ||| T (19 + 6 * n) else x) &&& m = x &&& m := by
        intro c x
        cases c
        · simp
        · simp only [if_true]
          rw [i_and_or, e, i_or0]
      rw [key, key, ih]
theorem knF_lt {T : Row} {s : Int32} (h : ∀ g, g < 8 → ∃ w, w < 65536 ∧ T (19 + 6 * g) = nI w) : ∀ (n : Nat), n ≤ 8 → ∃ w, w < 65536 ∧ knF T s n = nI w
  | 0, _ => ⟨0, by decide, rfl⟩
  | n + 1, hn => by
    obtain ⟨w, hw, e⟩ := knF_lt h n (by omega)
    obtain ⟨v, hv, e2⟩ := h n (by omega)
    rw [knF]
    split
    · rw [e, e2]
      exact fb_or16 hw hv
    · exact ⟨w, hw, e⟩
theorem VT.knF {T : Row} (hV : VT T) (s : Int32) : ∃ w, w < 65536 ∧ knF T s (nN T) = nI w := knF_lt (fun g hg => ⟨_, (hV.kn hg).1, (hV.kn hg).2⟩) _ hV.n8
/-- what a goat may learn: the pages of the others here that it doesn't know -/
def lrK (T : Row) (go : Int32) (g : Nat) : Int32 := knF T (onF T go (T (18 + 6 * g)) (nN T)) (nN T) &&& (T (19 + 6 * g) ^^^ (-1))
def lowI (x : Int32) : Int32 := x &&& (-x)
def lr1 (T : Row) (go : Int32) (g : Nat) : Row := if T (21 + 6 * g) < 20 then T else upd T (19 + 6 * g) (T (19 + 6 * g) ||| lowI (lrK T go g))
def lr2 (T : Row) (g : Nat) : Row := if T (21 + 6 * g) = 0 then upd T (19 + 6 * g) (nI (woN 16 (knN T g))) else T
def lr3 (T : Row) (g : Nat) : Row := upd T (20 + 6 * g) (mnI (T (20 + 6 * g) + 1) 9999)
def lrT (T : Row) (go : Int32) (g : Nat) : Row := lr3 (lr2 (lr1 T go g) g) g
theorem lrK_m {T : Row} (hV : VT T) {go : Int32} {g : Nat} (hg : g < 8) : knF T ((onF T 0 (T (18 + 6 * g)) (nN T) &&& (b1 g ^^^ (-1))) &&& (go ^^^ (-1))) (nN T) &&& (T (19 + 6 * g) ^^^ (-1)) = lrK T go g := by
  have h8 := hV.n8
  unfold lrK
  apply knF_mask
  intro h hh
  by_cases e : h = g
  · subst e
    right
    exact i_and_not _
  · left
    rw [tb_and, tb_and, tb_not _ (by omega), tb_not _ (by omega), tb_b1 (by omega), tb_on _ (by omega), tb_on _ (by omega), tb_0]
    cases tb go h <;> simp [e, hh]
theorem lrK_lt {T : Row} (hV : VT T) (go : Int32) (g : Nat) : ∃ w, w < 65536 ∧ lrK T go g = nI w := by
  obtain ⟨w, hw, e⟩ := hV.knF (onF T go (T (18 + 6 * g)) (nN T))
  unfold lrK
  rw [e]
  exact and16 w hw _
theorem VT.kn_up {T : Row} (hV : VT T) {g w : Nat} (hw : w < 65536) : VT (upd T (19 + 6 * g) (nI w)) := by
  refine hV.to (upd_n (by omega)) (fun j hj => ⟨Or.inl (upd_n (by omega)), Or.inl (upd_n (by omega)), ?_⟩)
  by_cases e : j = g
  · subst e
    exact Or.inr ⟨w, hw, upd_s⟩
  · exact Or.inl (upd_n (by omega))
theorem VT.k1 {T : Row} (hV : VT T) (go : Int32) {g : Nat} (hg : g < 8) : VT (lr1 T go g) := by
  unfold lr1
  split
  · exact hV
  · obtain ⟨w, hw, e⟩ := lrK_lt hV go g
    obtain ⟨v, hv, e2⟩ := fb_or16 (hV.kn hg).1 (Nat.lt_of_le_of_lt (lo_le (x := w)) hw)
    rw [e, (hV.kn hg).2]
    unfold lowI
    rw [low_eq hw, e2]
    exact hV.kn_up hv
theorem VT.k2 {T : Row} (hV : VT T) {g : Nat} (hg : g < 8) : VT (lr2 T g) := by
  unfold lr2
  split
  · exact hV.kn_up (wo_lt (hV.kn hg).1)
  · exact hV
theorem VT.k3 {T : Row} (hV : VT T) (g : Nat) : VT (lr3 T g) := by
  unfold lr3
  exact hV.to (upd_n (by omega)) (fun j hj => ⟨Or.inl (upd_n (by omega)), Or.inl (upd_n (by omega)), Or.inl (upd_n (by omega))⟩)
theorem VT.kT {T : Row} (hV : VT T) (go : Int32) {g : Nat} (hg : g < 8) : VT (lrT T go g) := ((hV.k1 go hg).k2 hg).k3 g
theorem at2 (g : Nat) (S : St) : fX5_at (nI g) 2 S = some (nI (19 + 6 * g), S) := by
  have := at_n g 2 S
  rw [show 17 + 6 * g + 2 = 19 + 6 * g by omega] at this
  exact this
theorem at3 (g : Nat) (S : St) : fX5_at (nI g) 3 S = some (nI (20 + 6 * g), S) := by
  have := at_n g 3 S
  rw [show 17 + 6 * g + 3 = 20 + 6 * g by omega] at this
  exact this
theorem lr3_m {S : St} {g : Nat} (hg : g < 8) : fX5_learnsOne_L95 (nI g) S = some ((), upR S 42 (lr3 (S 42) g)) := by
  unfold fX5_learnsOne_L95
  rw [cl_s (at3 g S), cl_s (its3 hg S), cl_s (least_eq _ _ S), wr_n (by omega) (by decide), mnI_comm]
  rfl
theorem lr2_m {S : St} (hV : VT (S 42)) {g : Nat} (hg : g < 8) : fX5_learnsOne_L62 (nI g) S = some ((), upR S 42 (lr3 (lr2 (S 42) g) g)) := by
  obtain ⟨hk, ek⟩ := hV.kn hg
  unfold fX5_learnsOne_L62
  rw [cl_s (its4 hg S), cl_s (at2 g S), rd_n (by omega) (by decide), cl_s (its2 hg S), ek, cl_s (highest_eq hk S), wr_n (by omega) (by decide), forget_eq hk]
  by_cases h : S 42 (21 + 6 * g) = 0
  · rw [if_pos h, lr3_m hg, up2_qq]
    unfold lr2
    rw [if_pos h, upR_up2, upR_upR]
  · rw [if_neg h, lr3_m hg]
    unfold lr2
    rw [if_neg h]
theorem learns_m {S : St} (hV : VT (S 42)) (go : Int32) {g : Nat} (hg : g < 8) : fX5_learnsOne (nI g) go S = some ((), upR S 42 (lrT (S 42) go g)) := by
  unfold fX5_learnsOne
  rw [cl_s (its1 hg S), cl_s (there_eq _ hV), bnd_s, cl_s (its4 hg S), cl_s (at2 g S), rd_n (by omega) (by decide), cl_s (known_eq _ hV), cl_s (its2 hg S)]
  rw [show (1 : Int32) <<< (nI g &&& 31) = b1 g from rfl, lrK_m hV hg]
  unfold fX5_lowestOf
  rw [cl_sm, wr_n (by omega) (by decide)]
  by_cases h : S 42 (21 + 6 * g) < 20
  · rw [if_pos h, lr2_m hV hg]
    unfold lrT
    have e : lr1 (S 42) go g = S 42 := if_pos h
    rw [e]
  · rw [if_neg h]
    have e : lr1 (S 42) go g = upd (S 42) (19 + 6 * g) (S 42 (19 + 6 * g) ||| lowI (lrK (S 42) go g)) := if_neg h
    have hV1 := hV.k1 go hg
    have e2 : up2 S 42 (19 + 6 * g) (S 42 (19 + 6 * g) ||| (lrK (S 42) go g &&& (-lrK (S 42) go g))) = upR S 42 (lr1 (S 42) go g) := by
      rw [e]
      rfl
    rw [e2, lr2_m (by rw [upR_qq]; exact hV1) hg, upR_qq, upR_upR]
    rfl
theorem lr2_c {b : Nat} {T : Row} {go : Int32} {S : St} (hR : Rep b T go S) (hV : VT T) {g : Nat} (hg : g < 8) : ∃ S', fX0_learnOrForget_L42 b (nI g) S = some ((), S') ∧ Rep b (lr2 T g) go S' ∧ Fr b S S' := by
  obtain ⟨hk, ek⟩ := hV.kn hg
  unfold fX0_learnOrForget_L42 fX0_learnOrForget_L66
  rw [rd_n hg (by decide), hR.fe hg, rd_n hg (by decide), hR.kn hg, ek, cl_s (wo_eq hk S), wr_n hg (by decide)]
  by_cases h : T (21 + 6 * g) = 0
  · rw [if_pos h]
    have e : lr2 T g = upd T (19 + 6 * g) (nI (woN 16 (knN T g))) := if_pos h
    rw [e]
    exact ⟨_, rfl, hR.s_kn hg, Fr.up (by omega)⟩
  · rw [if_neg h]
    have e : lr2 T g = T := if_neg h
    rw [e]
    exact ⟨_, rfl, hR, Fr.rf⟩
theorem learns_c {b : Nat} {T : Row} {go : Int32} {S : St} (hR : Rep b T go S) (hV : VT T) {g : Nat} (hg : g < 8) : ∃ S', fX0_learnOrForget b (nI g) S = some ((), S') ∧ Rep b (lr2 (lr1 T go g) g) go S' ∧ Fr b S S' := by
  unfold fX0_learnOrForget
  rw [rd_n hg (by decide), hR.fe hg, rd_n hg (by decide), rd_n hg (by decide), hR.kn hg, hR.ld hg, cl_s (pon_eq _ hR hV), rd_n hg (by decide), hR.kn hg]
  rw [show knF T (onF T go (T (18 + 6 * g)) (nN T)) (nN T) &&& (T (19 + 6 * g) ^^^ (-1)) = lrK T go g from rfl]
  unfold fX4_leastBit
  rw [cl_sm, wr_n hg (by decide)]
  by_cases h : T (21 + 6 * g) < 20
  · rw [if_pos h]
    have e : lr1 T go g = T := if_pos h
    rw [e]
    exact lr2_c hR hV hg
  · rw [if_neg h]
    have e : lr1 T go g = upd T (19 + 6 * g) (T (19 + 6 * g) ||| lowI (lrK T go g)) := if_neg h
    have hV1 := hV.k1 go hg
    have hR1 : Rep b (lr1 T go g) go (up2 S (b + 4) g (T (19 + 6 * g) ||| (lrK T go g &&& (-lrK T go g)))) := by
      rw [e]
      exact hR.s_kn hg
    obtain ⟨S', h1, h2, h3⟩ := lr2_c hR1 hV1 hg
    exact ⟨S', h1, h2, (Fr.up (by omega)).tr h3⟩
