/-! The model's row T (75 numbers), what is true of it always, and a cliff that holds it. -/
abbrev Row : Type := Nat → Int32
def nN (T : Row) : Nat := (T 0).toNatClampNeg
def ldN (T : Row) (g : Nat) : Nat := (T (18 + 6 * g)).toNatClampNeg
def knN (T : Row) (g : Nat) : Nat := (T (19 + 6 * g)).toNatClampNeg
def kdN (T : Row) (g : Nat) : Nat := (T (17 + 6 * g)).toNatClampNeg
def VT (T : Row) : Prop := nN T ≤ 8 ∧ T 0 = nI (nN T) ∧ ∀ g, g < 8 → (kdN T g < 7 ∧ T (17 + 6 * g) = nI (kdN T g)) ∧ (ldN T g < 12 ∧ T (18 + 6 * g) = nI (ldN T g)) ∧ (knN T g < 65536 ∧ T (19 + 6 * g) = nI (knN T g))
theorem VT.n8 {T : Row} (h : VT T) : nN T ≤ 8 := h.1
theorem VT.n {T : Row} (h : VT T) : T 0 = nI (nN T) := h.2.1
theorem VT.kd {T : Row} (h : VT T) {g : Nat} (hg : g < 8) : kdN T g < 7 ∧ T (17 + 6 * g) = nI (kdN T g) := (h.2.2 g hg).1
theorem VT.ld {T : Row} (h : VT T) {g : Nat} (hg : g < 8) : ldN T g < 12 ∧ T (18 + 6 * g) = nI (ldN T g) := (h.2.2 g hg).2.1
theorem VT.kn {T : Row} (h : VT T) {g : Nat} (hg : g < 8) : knN T g < 65536 ∧ T (19 + 6 * g) = nI (knN T g) := (h.2.2 g hg).2.2
theorem VT.of {T : Row} (h0 : ∃ n, n ≤ 8 ∧ T 0 = nI n) (h : ∀ g, g < 8 → (∃ k, k < 7 ∧ T (17 + 6 * g) = nI k) ∧ (∃ l, l < 12 ∧ T (18 + 6 * g) = nI l) ∧ ∃ w, w < 65536 ∧ T (19 + 6 * g) = nI w) : VT T := by
  obtain ⟨n, hn, en⟩ := h0
  have e0 : nN T = n := by unfold nN; rw [en, nI_clamp (by omega)]
  refine ⟨by omega, by rw [e0]; exact en, fun g hg => ?_⟩
  obtain ⟨⟨k, hk, ek⟩, ⟨l, hl, el⟩, ⟨w, hw, ew⟩⟩ := h g hg
  have e1 : kdN T g = k := by unfold kdN; rw [ek, nI_clamp (by omega)]
  have e2 : ldN T g = l := by unfold ldN; rw [el, nI_clamp (by omega)]
  have e3 : knN T g = w := by unfold knN; rw [ew, nI_clamp (by omega)]
  rw [e1, e2, e3]
  exact ⟨⟨hk, ek⟩, ⟨hl, el⟩, hw, ew⟩
theorem VT.to {T T' : Row} (h : VT T) (e0 : T' 0 = T 0) (e : ∀ g, g < 8 → (T' (17 + 6 * g) = T (17 + 6 * g) ∨ ∃ k, k < 7 ∧ T' (17 + 6 * g) = nI k) ∧ (T' (18 + 6 * g) = T (18 + 6 * g) ∨ ∃ l, l < 12 ∧ T' (18 + 6 * g) = nI l) ∧ (T' (19 + 6 * g) = T (19 + 6 * g) ∨ ∃ w, w < 65536 ∧ T' (19 + 6 * g) = nI w)) : VT T' := by
  refine VT.of ⟨nN T, h.n8, by rw [e0]; exact h.n⟩ (fun g hg => ?_)
  obtain ⟨h1, h2, h3⟩ := e g hg
  refine ⟨?_, ?_, ?_⟩
  · rcases h1 with h1 | h1
    · exact ⟨_, (h.kd hg).1, by rw [h1]; exact (h.kd hg).2⟩
    · exact h1
  · rcases h2 with h2 | h2
    · exact ⟨_, (h.ld hg).1, by rw [h2]; exact (h.ld hg).2⟩
    · exact h2
  · rcases h3 with h3 | h3
    · exact ⟨_, (h.kn hg).1, by rw [h3]; exact (h.kn hg).2⟩
    · exact h3
/-- the cliff at b holds the row T, with the goats of 'go' away -/
def Rep (b : Nat) (T : Row) (go : Int32) (S : St) : Prop :=
  (∀ j, j < 12 → S (b + 1) j = T (5 + j)) ∧ (∀ g, g < 8 → S (b + 2) g = T (17 + 6 * g)) ∧ (∀ g, g < 8 → S (b + 3) g = T (18 + 6 * g)) ∧ (∀ g, g < 8 → S (b + 4) g = T (19 + 6 * g)) ∧ (∀ g, g < 8 → S (b + 5) g = T (20 + 6 * g)) ∧ (∀ g, g < 8 → S (b + 6) g = T (21 + 6 * g)) ∧ (∀ g, g < 8 → S (b + 7) g = T (22 + 6 * g)) ∧ (∀ k, k < 10 → S (b + 8) k = T (65 + k)) ∧
  S b 8 = T 0 ∧ S b 9 = go ∧ S b 10 = T 3 ∧ S b 11 = T 4 ∧ S b 12 = T 1 ∧ S b 13 = T 2
/-- nothing but the cliff at b differs -/
def Fr (b : Nat) (S S1 : St) : Prop := ∀ k, (k < b ∨ b + 9 ≤ k) → S1 k = S k
theorem Fr.rf {b : Nat} {S : St} : Fr b S S := fun _ _ => rfl
theorem Fr.tr {b : Nat} {S S1 S2 : St} (h1 : Fr b S S1) (h2 : Fr b S1 S2) : Fr b S S2 := fun k hk => (h2 k hk).trans (h1 k hk)
theorem Fr.up {b i k : Nat} {S : St} {x : Int32} (hi : i < 9) : Fr b S (up2 S (b + i) k x) := fun q hq => up2_qn (by omega)
theorem Fr.up0 {b k : Nat} {S : St} {x : Int32} : Fr b S (up2 S b k x) := fun q hq => up2_qn (by omega)
theorem Rep.gr {b : Nat} {T : Row} {go : Int32} {S : St} (h : Rep b T go S) {j : Nat} (hj : j < 12) : S (b + 1) j = T (5 + j) := h.1 j hj
theorem Rep.kd {b : Nat} {T : Row} {go : Int32} {S : St} (h : Rep b T go S) {j : Nat} (hj : j < 8) : S (b + 2) j = T (17 + 6 * j) := h.2.1 j hj
theorem Rep.ld {b : Nat} {T : Row} {go : Int32} {S : St} (h : Rep b T go S) {j : Nat} (hj : j < 8) : S (b + 3) j = T (18 + 6 * j) := h.2.2.1 j hj
theorem Rep.kn {b : Nat} {T : Row} {go : Int32} {S : St} (h : Rep b T go S) {j : Nat} (hj : j < 8) : S (b + 4) j = T (19 + 6 * j) := h.2.2.2.1 j hj
theorem Rep.ag {b : Nat} {T : Row} {go : Int32} {S : St} (h : Rep b T go S) {j : Nat} (hj : j < 8) : S (b + 5) j = T (20 + 6 * j) := h.2.2.2.2.1 j hj
theorem Rep.fe {b : Nat} {T : Row} {go : Int32} {S : St} (h : Rep b T go S) {j : Nat} (hj : j < 8) : S (b + 6) j = T (21 + 6 * j) := h.2.2.2.2.2.1 j hj
theorem Rep.aq {b : Nat} {T : Row} {go : Int32} {S : St} (h : Rep b T go S) {j : Nat} (hj : j < 8) : S (b + 7) j = T (22 + 6 * j) := h.2.2.2.2.2.2.1 j hj
theorem Rep.sp {b : Nat} {T : Row} {go : Int32} {S : St} (h : Rep b T go S) {j : Nat} (hj : j < 10) : S (b + 8) j = T (65 + j) := h.2.2.2.2.2.2.2.1 j hj
theorem Rep.n {b : Nat} {T : Row} {go : Int32} {S : St} (h : Rep b T go S) : S b 8 = T 0 := h.2.2.2.2.2.2.2.2.1
theorem Rep.go {b : Nat} {T : Row} {go : Int32} {S : St} (h : Rep b T go S) : S b 9 = go := h.2.2.2.2.2.2.2.2.2.1
theorem Rep.gw {b : Nat} {T : Row} {go : Int32} {S : St} (h : Rep b T go S) : S b 10 = T 3 := h.2.2.2.2.2.2.2.2.2.2.1
theorem Rep.sa {b : Nat} {T : Row} {go : Int32} {S : St} (h : Rep b T go S) : S b 11 = T 4 := h.2.2.2.2.2.2.2.2.2.2.2.1
theorem Rep.dy {b : Nat} {T : Row} {go : Int32} {S : St} (h : Rep b T go S) : S b 12 = T 1 := h.2.2.2.2.2.2.2.2.2.2.2.2.1
theorem Rep.zz {b : Nat} {T : Row} {go : Int32} {S : St} (h : Rep b T go S) : S b 13 = T 2 := h.2.2.2.2.2.2.2.2.2.2.2.2.2
theorem Rep.s_gr {b : Nat} {T : Row} {go v : Int32} {S : St} (h : Rep b T go S) {k : Nat} (hk : k < 12) : Rep b (upd T (5 + k) v) go (up2 S (b + 1) k v) :=
  ⟨fun j hj => by
    rw [up2_qq]
    by_cases e : j = k
    · subst e; rw [upd_s, upd_s]
    · rw [upd_n e, upd_n (by omega)]; exact h.gr hj,
   fun j hj => by rw [up2_qn (by omega), upd_n (by omega)]; exact h.kd hj,
   fun j hj => by rw [up2_qn (by omega), upd_n (by omega)]; exact h.ld hj,
   fun j hj => by rw [up2_qn (by omega), upd_n (by omega)]; exact h.kn hj,
   fun j hj => by rw [up2_qn (by omega), upd_n (by omega)]; exact h.ag hj,
   fun j hj => by rw [up2_qn (by omega), upd_n (by omega)]; exact h.fe hj,
   fun j hj => by rw [up2_qn (by omega), upd_n (by omega)]; exact h.aq hj,
   fun j hj => by rw [up2_qn (by omega), upd_n (by omega)]; exact h.sp hj,
   by rw [up2_qn (by omega), upd_n (by omega)]; exact h.n,
   by rw [up2_qn (by omega)]; exact h.go,
   by rw [up2_qn (by omega), upd_n (by omega)]; exact h.gw,
   by rw [up2_qn (by omega), upd_n (by omega)]; exact h.sa,
   by rw [up2_qn (by omega), upd_n (by omega)]; exact h.dy,
   by rw [up2_qn (by omega), upd_n (by omega)]; exact h.zz⟩
theorem Rep.s_kd {b : Nat} {T : Row} {go v : Int32} {S : St} (h : Rep b T go S) {k : Nat} (hk : k < 8) : Rep b (upd T (17 + 6 * k) v) go (up2 S (b + 2) k v) :=
  ⟨fun j hj => by rw [up2_qn (by omega), upd_n (by omega)]; exact h.gr hj,
   fun j hj => by
    rw [up2_qq]
    by_cases e : j = k
    · subst e; rw [upd_s, upd_s]
    · rw [upd_n e, upd_n (by omega)]; exact h.kd hj,
   fun j hj => by rw [up2_qn (by omega), upd_n (by omega)]; exact h.ld hj,
   fun j hj => by rw [up2_qn (by omega), upd_n (by omega)]; exact h.kn hj,
   fun j hj => by rw [up2_qn (by omega), upd_n (by omega)]; exact h.ag hj,
   fun j hj => by rw [up2_qn (by omega), upd_n (by omega)]; exact h.fe hj,
   fun j hj => by rw [up2_qn (by omega), upd_n (by omega)]; exact h.aq hj,
   fun j hj => by rw [up2_qn (by omega), upd_n (by omega)]; exact h.sp hj,
   by rw [up2_qn (by omega), upd_n (by omega)]; exact h.n,
   by rw [up2_qn (by omega)]; exact h.go,
   by rw [up2_qn (by omega), upd_n (by omega)]; exact h.gw,
   by rw [up2_qn (by omega), upd_n (by omega)]; exact h.sa,
   by rw [up2_qn (by omega), upd_n (by omega)]; exact h.dy,
   by rw [up2_qn (by omega), upd_n (by omega)]; exact h.zz⟩
theorem Rep.s_ld {b : Nat} {T : Row} {go v : Int32} {S : St} (h : Rep b T go S) {k : Nat} (hk : k < 8) : Rep b (upd T (18 + 6 * k) v) go (up2 S (b + 3) k v) :=
  ⟨fun j hj => by rw [up2_qn (by omega), upd_n (by omega)]; exact h.gr hj,
   fun j hj => by rw [up2_qn (by omega), upd_n (by omega)]; exact h.kd hj,
   fun j hj => by
    rw [up2_qq]
    by_cases e : j = k
    · subst e; rw [upd_s, upd_s]
    · rw [upd_n e, upd_n (by omega)]; exact h.ld hj,
   fun j hj => by rw [up2_qn (by omega), upd_n (by omega)]; exact h.kn hj,
   fun j hj => by rw [up2_qn (by omega), upd_n (by omega)]; exact h.ag hj,
   fun j hj => by rw [up2_qn (by omega), upd_n (by omega)]; exact h.fe hj,
   fun j hj => by rw [up2_qn (by omega), upd_n (by omega)]; exact h.aq hj,
   fun j hj => by rw [up2_qn (by omega), upd_n (by omega)]; exact h.sp hj,
   by rw [up2_qn (by omega), upd_n (by omega)]; exact h.n,
   by rw [up2_qn (by omega)]; exact h.go,
   by rw [up2_qn (by omega), upd_n (by omega)]; exact h.gw,
   by rw [up2_qn (by omega), upd_n (by omega)]; exact h.sa,
   by rw [up2_qn (by omega), upd_n (by omega)]; exact h.dy,
   by rw [up2_qn (by omega), upd_n (by omega)]; exact h.zz⟩
theorem Rep.s_kn {b : Nat} {T : Row} {go v : Int32} {S : St} (h : Rep b T go S) {k : Nat} (hk : k < 8) : Rep b (upd T (19 + 6 * k) v) go (up2 S (b + 4) k v) :=
  ⟨fun j hj => by rw [up2_qn (by omega), upd_n (by omega)]; exact h.gr hj,
   fun j hj => by rw [up2_qn (by omega), upd_n (by omega)]; exact h.kd hj,
   fun j hj => by rw [up2_qn (by omega), upd_n (by omega)]; exact h.ld hj,
   fun j hj => by
    rw [up2_qq]
    by_cases e : j = k
    · subst e; rw [upd_s, upd_s]
    · rw [upd_n e, upd_n (by omega)]; exact h.kn hj,
   fun j hj => by rw [up2_qn (by omega), upd_n (by omega)]; exact h.ag hj,
   fun j hj => by rw [up2_qn (by omega), upd_n (by omega)]; exact h.fe hj,
   fun j hj => by rw [up2_qn (by omega), upd_n (by omega)]; exact h.aq hj,
   fun j hj => by rw [up2_qn (by omega), upd_n (by omega)]; exact h.sp hj,
   by rw [up2_qn (by omega), upd_n (by omega)]; exact h.n,
   by rw [up2_qn (by omega)]; exact h.go,
   by rw [up2_qn (by omega), upd_n (by omega)]; exact h.gw,
   by rw [up2_qn (by omega), upd_n (by omega)]; exact h.sa,
   by rw [up2_qn (by omega), upd_n (by omega)]; exact h.dy,
   by rw [up2_qn (by omega), upd_n (by omega)]; exact h.zz⟩
theorem Rep.s_ag {b : Nat} {T : Row} {go v : Int32} {S : St} (h : Rep b T go S) {k : Nat} (hk : k < 8) : Rep b (upd T (20 + 6 * k) v) go (up2 S (b + 5) k v) :=
  ⟨fun j hj => by rw [up2_qn (by omega), upd_n (by omega)]; exact h.gr hj,
   fun j hj => by rw [up2_qn (by omega), upd_n (by omega)]; exact h.kd hj,
   fun j hj => by rw [up2_qn (by omega), upd_n (by omega)]; exact h.ld hj,
   fun j hj => by rw [up2_qn (by omega), upd_n (by omega)]; exact h.kn hj,
   fun j hj => by
    rw [up2_qq]
    by_cases e : j = k
    · subst e; rw [upd_s, upd_s]
    · rw [upd_n e, upd_n (by omega)]; exact h.ag hj,
   fun j hj => by rw [up2_qn (by omega), upd_n (by omega)]; exact h.fe hj,
   fun j hj => by rw [up2_qn (by omega), upd_n (by omega)]; exact h.aq hj,
   fun j hj => by rw [up2_qn (by omega), upd_n (by omega)]; exact h.sp hj,
   by rw [up2_qn (by omega), upd_n (by omega)]; exact h.n,
   by rw [up2_qn (by omega)]; exact h.go,
   by rw [up2_qn (by omega), upd_n (by omega)]; exact h.gw,
   by rw [up2_qn (by omega), upd_n (by omega)]; exact h.sa,
   by rw [up2_qn (by omega), upd_n (by omega)]; exact h.dy,
   by rw [up2_qn (by omega), upd_n (by omega)]; exact h.zz⟩
theorem Rep.s_fe {b : Nat} {T : Row} {go v : Int32} {S : St} (h : Rep b T go S) {k : Nat} (hk : k < 8) : Rep b (upd T (21 + 6 * k) v) go (up2 S (b + 6) k v) :=
  ⟨fun j hj => by rw [up2_qn (by omega), upd_n (by omega)]; exact h.gr hj,
   fun j hj => by rw [up2_qn (by omega), upd_n (by omega)]; exact h.kd hj,
   fun j hj => by rw [up2_qn (by omega), upd_n (by omega)]; exact h.ld hj,
   fun j hj => by rw [up2_qn (by omega), upd_n (by omega)]; exact h.kn hj,
   fun j hj => by rw [up2_qn (by omega), upd_n (by omega)]; exact h.ag hj,
   fun j hj => by
    rw [up2_qq]
    by_cases e : j = k
    · subst e; rw [upd_s, upd_s]
    · rw [upd_n e, upd_n (by omega)]; exact h.fe hj,
   fun j hj => by rw [up2_qn (by omega), upd_n (by omega)]; exact h.aq hj,
   fun j hj => by rw [up2_qn (by omega), upd_n (by omega)]; exact h.sp hj,
   by rw [up2_qn (by omega), upd_n (by omega)]; exact h.n,
   by rw [up2_qn (by omega)]; exact h.go,
   by rw [up2_qn (by omega), upd_n (by omega)]; exact h.gw,
   by rw [up2_qn (by omega), upd_n (by omega)]; exact h.sa,
   by rw [up2_qn (by omega), upd_n (by omega)]; exact h.dy,
   by rw [up2_qn (by omega), upd_n (by omega)]; exact h.zz⟩
theorem Rep.s_aq {b : Nat} {T : Row} {go v : Int32} {S : St} (h : Rep b T go S) {k : Nat} (hk : k < 8) : Rep b (upd T (22 + 6 * k) v) go (up2 S (b + 7) k v) :=
  ⟨fun j hj => by rw [up2_qn (by omega), upd_n (by omega)]; exact h.gr hj,
   fun j hj => by rw [up2_qn (by omega), upd_n (by omega)]; exact h.kd hj,
   fun j hj => by rw [up2_qn (by omega), upd_n (by omega)]; exact h.ld hj,
   fun j hj => by rw [up2_qn (by omega), upd_n (by omega)]; exact h.kn hj,
   fun j hj => by rw [up2_qn (by omega), upd_n (by omega)]; exact h.ag hj,
   fun j hj => by rw [up2_qn (by omega), upd_n (by omega)]; exact h.fe hj,
   fun j hj => by
    rw [up2_qq]
    by_cases e : j = k
    · subst e; rw [upd_s, upd_s]
    · rw [upd_n e, upd_n (by omega)]; exact h.aq hj,
   fun j hj => by rw [up2_qn (by omega), upd_n (by omega)]; exact h.sp hj,
   by rw [up2_qn (by omega), upd_n (by omega)]; exact h.n,
   by rw [up2_qn (by omega)]; exact h.go,
   by rw [up2_qn (by omega), upd_n (by omega)]; exact h.gw,
   by rw [up2_qn (by omega), upd_n (by omega)]; exact h.sa,
   by rw [up2_qn (by omega), upd_n (by omega)]; exact h.dy,
   by rw [up2_qn (by omega), upd_n (by omega)]; exact h.zz⟩
theorem Rep.s_sp {b : Nat} {T : Row} {go v : Int32} {S : St} (h : Rep b T go S) {k : Nat} (hk : k < 10) : Rep b (upd T (65 + k) v) go (up2 S (b + 8) k v) :=
  ⟨fun j hj => by rw [up2_qn (by omega), upd_n (by omega)]; exact h.gr hj,
   fun j hj => by rw [up2_qn (by omega), upd_n (by omega)]; exact h.kd hj,
   fun j hj => by rw [up2_qn (by omega), upd_n (by omega)]; exact h.ld hj,
   fun j hj => by rw [up2_qn (by omega), upd_n (by omega)]; exact h.kn hj,
   fun j hj => by rw [up2_qn (by omega), upd_n (by omega)]; exact h.ag hj,
   fun j hj => by rw [up2_qn (by omega), upd_n (by omega)]; exact h.fe hj,
   fun j hj => by rw [up2_qn (by omega), upd_n (by omega)]; exact h.aq hj,
   fun j hj => by
    rw [up2_qq]
    by_cases e : j = k
    · subst e; rw [upd_s, upd_s]
    · rw [upd_n e, upd_n (by omega)]; exact h.sp hj,
   by rw [up2_qn (by omega), upd_n (by omega)]; exact h.n,
   by rw [up2_qn (by omega)]; exact h.go,
   by rw [up2_qn (by omega), upd_n (by omega)]; exact h.gw,
   by rw [up2_qn (by omega), upd_n (by omega)]; exact h.sa,
   by rw [up2_qn (by omega), upd_n (by omega)]; exact h.dy,
   by rw [up2_qn (by omega), upd_n (by omega)]; exact h.zz⟩
theorem Rep.s_n {b : Nat} {T : Row} {go v : Int32} {S : St} (h : Rep b T go S) : Rep b (upd T 0 v) go (up2 S b 8 v) :=
  ⟨fun j hj => by rw [up2_qn (by omega), upd_n (by omega)]; exact h.gr hj,
   fun j hj => by rw [up2_qn (by omega), upd_n (by omega)]; exact h.kd hj,
   fun j hj => by rw [up2_qn (by omega), upd_n (by omega)]; exact h.ld hj,
   fun j hj => by rw [up2_qn (by omega), upd_n (by omega)]; exact h.kn hj,
   fun j hj => by rw [up2_qn (by omega), upd_n (by omega)]; exact h.ag hj,
   fun j hj => by rw [up2_qn (by omega), upd_n (by omega)]; exact h.fe hj,
   fun j hj => by rw [up2_qn (by omega), upd_n (by omega)]; exact h.aq hj,
   fun j hj => by rw [up2_qn (by omega), upd_n (by omega)]; exact h.sp hj,
   by rw [up2_qq, upd_s]; rw [upd_s],
   by rw [up2_qq, upd_n (by omega)]; exact h.go,
   by rw [up2_qq, upd_n (by omega), upd_n (by omega)]; exact h.gw,
   by rw [up2_qq, upd_n (by omega), upd_n (by omega)]; exact h.sa,
   by rw [up2_qq, upd_n (by omega), upd_n (by omega)]; exact h.dy,
   by rw [up2_qq, upd_n (by omega), upd_n (by omega)]; exact h.zz⟩
theorem Rep.s_go {b : Nat} {T : Row} {go v : Int32} {S : St} (h : Rep b T go S) : Rep b T v (up2 S b 9 v) :=
  ⟨fun j hj => by rw [up2_qn (by omega)]; exact h.gr hj,
   fun j hj => by rw [up2_qn (by omega)]; exact h.kd hj,
   fun j hj => by rw [up2_qn (by omega)]; exact h.ld hj,
   fun j hj => by rw [up2_qn (by omega)]; exact h.kn hj,
   fun j hj => by rw [up2_qn (by omega)]; exact h.ag hj,
   fun j hj => by rw [up2_qn (by omega)]; exact h.fe hj,
   fun j hj => by rw [up2_qn (by omega)]; exact h.aq hj,
   fun j hj => by rw [up2_qn (by omega)]; exact h.sp hj,
   by rw [up2_qq, upd_n (by omega)]; exact h.n,
   by rw [up2_qq, upd_s],
   by rw [up2_qq, upd_n (by omega)]; exact h.gw,
   by rw [up2_qq, upd_n (by omega)]; exact h.sa,
   by rw [up2_qq, upd_n (by omega)]; exact h.dy,
   by rw [up2_qq, upd_n (by omega)]; exact h.zz⟩
theorem Rep.s_gw {b : Nat} {T : Row} {go v : Int32} {S : St} (h : Rep b T go S) : Rep b (upd T 3 v) go (up2 S b 10 v) :=
  ⟨fun j hj => by rw [up2_qn (by omega), upd_n (by omega)]; exact h.gr hj,
   fun j hj => by rw [up2_qn (by omega), upd_n (by omega)]; exact h.kd hj,
   fun j hj => by rw [up2_qn (by omega), upd_n (by omega)]; exact h.ld hj,
   fun j hj => by rw [up2_qn (by omega), upd_n (by omega)]; exact h.kn hj,
   fun j hj => by rw [up2_qn (by omega), upd_n (by omega)]; exact h.ag hj,
   fun j hj => by rw [up2_qn (by omega), upd_n (by omega)]; exact h.fe hj,
   fun j hj => by rw [up2_qn (by omega), upd_n (by omega)]; exact h.aq hj,
   fun j hj => by rw [up2_qn (by omega), upd_n (by omega)]; exact h.sp hj,
   by rw [up2_qq, upd_n (by omega), upd_n (by omega)]; exact h.n,
   by rw [up2_qq, upd_n (by omega)]; exact h.go,
   by rw [up2_qq, upd_s]; rw [upd_s],
   by rw [up2_qq, upd_n (by omega), upd_n (by omega)]; exact h.sa,
   by rw [up2_qq, upd_n (by omega), upd_n (by omega)]; exact h.dy,
   by rw [up2_qq, upd_n (by omega), upd_n (by omega)]; exact h.zz⟩
theorem Rep.s_sa {b : Nat} {T : Row} {go v : Int32} {S : St} (h : Rep b T go S) : Rep b (upd T 4 v) go (up2 S b 11 v) :=
  ⟨fun j hj => by rw [up2_qn (by omega), upd_n (by omega)]; exact h.gr hj,
   fun j hj => by rw [up2_qn (by omega), upd_n (by omega)]; exact h.kd hj,
   fun j hj => by rw [up2_qn (by omega), upd_n (by omega)]; exact h.ld hj,
   fun j hj => by rw [up2_qn (by omega), upd_n (by omega)]; exact h.kn hj,
   fun j hj => by rw [up2_qn (by omega), upd_n (by omega)]; exact h.ag hj,
   fun j hj => by rw [up2_qn (by omega), upd_n (by omega)]; exact h.fe hj,
   fun j hj => by rw [up2_qn (by omega), upd_n (by omega)]; exact h.aq hj,
   fun j hj => by rw [up2_qn (by omega), upd_n (by omega)]; exact h.sp hj,
   by rw [up2_qq, upd_n (by omega), upd_n (by omega)]; exact h.n,
   by rw [up2_qq, upd_n (by omega)]; exact h.go,
   by rw [up2_qq, upd_n (by omega), upd_n (by omega)]; exact h.gw,
   by rw [up2_qq, upd_s]; rw [upd_s],
   by rw [up2_qq, upd_n (by omega), upd_n (by omega)]; exact h.dy,
   by rw [up2_qq, upd_n (by omega), upd_n (by omega)]; exact h.zz⟩
theorem Rep.s_dy {b : Nat} {T : Row} {go v : Int32} {S : St} (h : Rep b T go S) : Rep b (upd T 1 v) go (up2 S b 12 v) :=
  ⟨fun j hj => by rw [up2_qn (by omega), upd_n (by omega)]; exact h.gr hj,
   fun j hj => by rw [up2_qn (by omega), upd_n (by omega)]; exact h.kd hj,
   fun j hj => by rw [up2_qn (by omega), upd_n (by omega)]; exact h.ld hj,
   fun j hj => by rw [up2_qn (by omega), upd_n (by omega)]; exact h.kn hj,
   fun j hj => by rw [up2_qn (by omega), upd_n (by omega)]; exact h.ag hj,
   fun j hj => by rw [up2_qn (by omega), upd_n (by omega)]; exact h.fe hj,
   fun j hj => by rw [up2_qn (by omega), upd_n (by omega)]; exact h.aq hj,
   fun j hj => by rw [up2_qn (by omega), upd_n (by omega)]; exact h.sp hj,
   by rw [up2_qq, upd_n (by omega), upd_n (by omega)]; exact h.n,
   by rw [up2_qq, upd_n (by omega)]; exact h.go,
   by rw [up2_qq, upd_n (by omega), upd_n (by omega)]; exact h.gw,
   by rw [up2_qq, upd_n (by omega), upd_n (by omega)]; exact h.sa,
   by rw [up2_qq, upd_s]; rw [upd_s],
   by rw [up2_qq, upd_n (by omega), upd_n (by omega)]; exact h.zz⟩
theorem Rep.s_zz {b : Nat} {T : Row} {go v : Int32} {S : St} (h : Rep b T go S) : Rep b (upd T 2 v) go (up2 S b 13 v) :=
  ⟨fun j hj => by rw [up2_qn (by omega), upd_n (by omega)]; exact h.gr hj,
   fun j hj => by rw [up2_qn (by omega), upd_n (by omega)]; exact h.kd hj,
   fun j hj => by rw [up2_qn (by omega), upd_n (by omega)]; exact h.ld hj,
   fun j hj => by rw [up2_qn (by omega), upd_n (by omega)]; exact h.kn hj,
   fun j hj => by rw [up2_qn (by omega), upd_n (by omega)]; exact h.ag hj,
   fun j hj => by rw [up2_qn (by omega), upd_n (by omega)]; exact h.fe hj,
   fun j hj => by rw [up2_qn (by omega), upd_n (by omega)]; exact h.aq hj,
   fun j hj => by rw [up2_qn (by omega), upd_n (by omega)]; exact h.sp hj,
   by rw [up2_qq, upd_n (by omega), upd_n (by omega)]; exact h.n,
   by rw [up2_qq, upd_n (by omega)]; exact h.go,
   by rw [up2_qq, upd_n (by omega), upd_n (by omega)]; exact h.gw,
   by rw [up2_qq, upd_n (by omega), upd_n (by omega)]; exact h.sa,
   by rw [up2_qq, upd_n (by omega), upd_n (by omega)]; exact h.dy,
   by rw [up2_qq, upd_s]; rw [upd_s]⟩
/-- only the cliff's own cells matter -/
theorem Rep.fr {b : Nat} {T : Row} {go : Int32} {S S1 : St} (h : Rep b T go S) (e : ∀ i, i < 9 → S1 (b + i) = S (b + i)) : Rep b T go S1 := by
  have e0 : S1 b = S b := e 0 (by omega)
  exact ⟨fun j hj => by rw [e 1 (by omega)]; exact h.gr hj, fun j hj => by rw [e 2 (by omega)]; exact h.kd hj, fun j hj => by rw [e 3 (by omega)]; exact h.ld hj, fun j hj => by rw [e 4 (by omega)]; exact h.kn hj, fun j hj => by rw [e 5 (by omega)]; exact h.ag hj, fun j hj => by rw [e 6 (by omega)]; exact h.fe hj, fun j hj => by rw [e 7 (by omega)]; exact h.aq hj, fun j hj => by rw [e 8 (by omega)]; exact h.sp hj, by rw [e0]; exact h.n, by rw [e0]; exact h.go, by rw [e0]; exact h.gw, by rw [e0]; exact h.sa, by rw [e0]; exact h.dy, by rw [e0]; exact h.zz⟩
/-- the same in its 75 places -/
def EqT (T T' : Row) : Prop := ∀ j, j < 75 → T' j = T j
theorem Rep.eqT {b : Nat} {T T' : Row} {go : Int32} {S : St} (h : Rep b T go S) (e : EqT T T') : Rep b T' go S :=
  ⟨fun j hj => by rw [e _ (by omega)]; exact h.gr hj, fun j hj => by rw [e _ (by omega)]; exact h.kd hj, fun j hj => by rw [e _ (by omega)]; exact h.ld hj, fun j hj => by rw [e _ (by omega)]; exact h.kn hj, fun j hj => by rw [e _ (by omega)]; exact h.ag hj, fun j hj => by rw [e _ (by omega)]; exact h.fe hj, fun j hj => by rw [e _ (by omega)]; exact h.aq hj, fun j hj => by rw [e _ (by omega)]; exact h.sp hj, by rw [e _ (by omega)]; exact h.n, h.go, by rw [e _ (by omega)]; exact h.gw, by rw [e _ (by omega)]; exact h.sa, by rw [e _ (by omega)]; exact h.dy, by rw [e _ (by omega)]; exact h.zz⟩
theorem VT.eqT {T T' : Row} (h : VT T) (e : EqT T T') : VT T' := h.to (e 0 (by omega)) (fun g hg => ⟨Or.inl (e _ (by omega)), Or.inl (e _ (by omega)), Or.inl (e _ (by omega))⟩)
