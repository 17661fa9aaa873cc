/-! The whole heap of class and reference as ONE fixed layout: place k of 'lay' is an array of numbers or an object; all references in it are fixed; what changes is S : place -> index -> number. PW: 'the walk from here comes to an end with this outcome', over any machine that fits. -/
abbrev St : Type := Nat → Nat → Int32
def upR (S : St) (q : Nat) (r : Nat → Int32) : St := fun a => if a = q then r else S a
def up2 (S : St) (q i : Nat) (x : Int32) : St := upR S q (upd (S q) i x)
/-- an array of n numbers; an object: class, fields (a fixed place, or a number); the array of sheets -/
abbrev Sh : Type := Nat ⊕ ((Nat × List (Option Nat)) ⊕ (Nat → Nat))
def cliffSh (b : Nat) : Sh := .inr (.inl (0, [some (b + 1), some (b + 2), some (b + 3), some (b + 4), some (b + 5), some (b + 6), some (b + 7), some (b + 8), none, none, none, none, none, none]))
def cliffAt (b : Nat) : List Sh := [cliffSh b, .inl 12, .inl 8, .inl 8, .inl 8, .inl 8, .inl 8, .inl 8, .inl 10]
def sheetAt (b : Nat) : List Sh := [.inr (.inl (2, [some (b + 1), none, none])), .inl 40]
/-- 0 GoatShelves; 1, 10, 19 its cliffs; 28 tape, 29 its bytes; 30 reader; 31 the array of sheets; 32 .. 39 sheets; 40 findings; 41 GoatShelvesModel; 42 .. 50 its rows -/
def lay : List Sh := [.inr (.inl (4, [some 1, some 10, some 19, none, some 28, some 30, some 31, some 40]))] ++ (cliffAt 1 ++ (cliffAt 10 ++ (cliffAt 19 ++ ([.inr (.inl (3, [some 29, none])), .inl 120, .inr (.inl (1, [some 28, some 10, none, none, none, none])), .inr (.inr (fun j => 32 + 2 * j))] ++ (sheetAt 32 ++ (sheetAt 34 ++ (sheetAt 36 ++ (sheetAt 38 ++ [.inl 7, .inr (.inl (5, [some 42, some 43, some 44, some 45, none, some 46, some 47, none, some 48, some 49, some 50, none, none, none, none, none])), .inl 75, .inl 75, .inl 75, .inl 75, .inl 8, .inl 120, .inl 4, .inl 4, .inl 160])))))))) 
def fV (ad : Nat → Nat) (f : Nat → Int32) : List (Option Nat) → Nat → List Value
  | [], _ => []
  | none :: r, k => .int (f k) :: fV ad f r (k + 1)
  | some q :: r, k => .ref (ad q) :: fV ad f r (k + 1)
def cE (cT : Nat → ClassId) (ad : Nat → Nat) (f : Nat → Int32) : Sh → va_E
  | .inl n => .inl (cT 0, n, .inl f)
  | .inr (.inl x) => .inr (x.1, fV ad f x.2 0)
  | .inr (.inr g) => .inl (cT 1, 4, .inr (.inr (.inr (.inr (fun j => some (ad (g j)))))))
def wlF (cT : Nat → ClassId) (ad : Nat → Nat) (S : St) : List Sh → Nat → va_W
  | [], _ => []
  | sh :: r, k => (ad k, cE cT ad (S k) sh) :: wlF cT ad S r (k + 1)
def wl (cT : Nat → ClassId) (ad : Nat → Nat) (S : St) : va_W := wlF cT ad S lay 0
theorem wlF_get {cT : Nat → ClassId} {ad : Nat → Nat} {S : St} : ∀ {l : List Sh} {k q : Nat} {sh : Sh}, l[q]? = some sh → (wlF cT ad S l k)[q]? = some (ad (k + q), cE cT ad (S (k + q)) sh)
  | [], k, q, sh, h => by simp at h
  | s0 :: r, k, 0, sh, h => by
    rw [List.getElem?_cons_zero] at h
    cases h
    rfl
  | s0 :: r, k, q + 1, sh, h => by
    rw [List.getElem?_cons_succ] at h
    have := wlF_get (cT := cT) (ad := ad) (S := S) (k := k + 1) h
    rw [show k + 1 + q = k + (q + 1) by omega] at this
    exact this
theorem wl_get {cT : Nat → ClassId} {ad : Nat → Nat} {S : St} {q : Nat} {sh : Sh} (h : lay[q]? = some sh) : (wl cT ad S)[q]? = some (ad q, cE cT ad (S q) sh) := by
  have := wlF_get (cT := cT) (ad := ad) (S := S) (k := 0) h
  rw [Nat.zero_add] at this
  exact this
theorem wlF_same {cT : Nat → ClassId} {ad : Nat → Nat} {S S' : St} : ∀ {l : List Sh} {k : Nat}, (∀ j, j < l.length → S' (k + j) = S (k + j)) → wlF cT ad S' l k = wlF cT ad S l k
  | [], k, _ => rfl
  | s0 :: r, k, h => by
    have h0 := h 0 (by simp)
    rw [Nat.add_zero] at h0
    simp only [wlF]
    rw [h0, wlF_same (S := S) (S' := S') (l := r) (k := k + 1) (fun j hj => by rw [show k + 1 + j = k + (j + 1) by omega]; exact h (j + 1) (by simp only [List.length_cons]; omega))]
theorem wlF_set {cT : Nat → ClassId} {ad : Nat → Nat} {S : St} {f : Nat → Int32} : ∀ {l : List Sh} {k q : Nat} {sh : Sh}, l[q]? = some sh → (wlF cT ad S l k).set q (ad (k + q), cE cT ad f sh) = wlF cT ad (upR S (k + q) f) l k
  | [], k, q, sh, h => by simp at h
  | s0 :: r, k, 0, sh, h => by
    rw [List.getElem?_cons_zero] at h
    cases h
    simp only [wlF, List.set_cons_zero, Nat.add_zero]
    rw [show upR S k f k = f by simp [upR], wlF_same (S' := upR S k f) (S := S) (fun j hj => by show (if k + 1 + j = k then f else S (k + 1 + j)) = _; rw [if_neg (by omega)])]
  | s0 :: r, k, q + 1, sh, h => by
    rw [List.getElem?_cons_succ] at h
    have := wlF_set (cT := cT) (ad := ad) (S := S) (f := f) (k := k + 1) h
    rw [show k + 1 + q = k + (q + 1) by omega] at this
    simp only [wlF, List.set_cons_succ]
    rw [this, show upR S (k + (q + 1)) f k = S k by show (if k = k + (q + 1) then f else S k) = _; rw [if_neg (by omega)]]
theorem wl_set {cT : Nat → ClassId} {ad : Nat → Nat} {S : St} {f : Nat → Int32} {q : Nat} {sh : Sh} (h : lay[q]? = some sh) : (wl cT ad S).set q (ad q, cE cT ad f sh) = wl cT ad (upR S q f) := by
  have := wlF_set (cT := cT) (ad := ad) (S := S) (f := f) (k := 0) h
  rw [Nat.zero_add] at this
  exact this
theorem wlF_addr {cT : Nat → ClassId} {ad : Nat → Nat} {S S' : St} : ∀ {l : List Sh} {k i : Nat} {q : Nat × va_E}, (wlF cT ad S l k)[i]? = some q → ∃ e, (wlF cT ad S' l k)[i]? = some (q.1, e)
  | [], k, i, q, h => by simp [wlF] at h
  | s0 :: r, k, 0, q, h => by
    simp only [wlF, List.getElem?_cons_zero] at h
    cases h
    exact ⟨_, rfl⟩
  | s0 :: r, k, i + 1, q, h => by
    simp only [wlF, List.getElem?_cons_succ] at h
    exact wlF_addr (k := k + 1) h
theorem wl_addr {cT : Nat → ClassId} {ad : Nat → Nat} {S : St} (S' : St) {i : Nat} {q : Nat × va_E} (h : (wl cT ad S)[i]? = some q) : ∃ e, (wl cT ad S')[i]? = some (q.1, e) := wlF_addr h
theorem wl_D {cT : Nat → ClassId} {ad : Nat → Nat} {S : St} (S' : St) {A : Nat → Prop} (h : va_D A (wl cT ad S)) : va_D A (wl cT ad S') := by
  refine ⟨fun i j p q hi hj e => ?_, fun k q hk => ?_⟩
  · obtain ⟨e1, h1⟩ := wl_addr S hi
    obtain ⟨e2, h2⟩ := wl_addr S hj
    exact h.1 i j _ _ h1 h2 e
  · obtain ⟨e1, h1⟩ := wl_addr S hk
    exact h.2 k (q.1, e1) h1
theorem wl_A {cT : Nat → ClassId} {ad : Nat → Nat} {S : St} (S' : St) {n m q : Nat} (hm : n ≤ m) (h : va_A (wl cT ad S) m q) : va_A (wl cT ad S') n q := by
  rcases h with ⟨k, e, h⟩ | h
  · obtain ⟨e', h'⟩ := wl_addr S' h
    exact Or.inl ⟨k, e', h'⟩
  · exact Or.inr (by omega)
theorem fV_get {ad : Nat → Nat} {f : Nat → Int32} : ∀ {l : List (Option Nat)} {k j : Nat} {x : Option Nat}, l[j]? = some x → (fV ad f l k)[j]? = some (match x with | none => .int (f (k + j)) | some q => .ref (ad q))
  | [], k, j, x, h => by simp at h
  | none :: r, k, 0, x, h => by rw [List.getElem?_cons_zero] at h; cases h; rfl
  | some q :: r, k, 0, x, h => by rw [List.getElem?_cons_zero] at h; cases h; rfl
  | none :: r, k, j + 1, x, h => by
    rw [List.getElem?_cons_succ] at h
    have := fV_get (ad := ad) (f := f) (k := k + 1) h
    rw [show k + 1 + j = k + (j + 1) by omega] at this
    exact this
  | some q :: r, k, j + 1, x, h => by
    rw [List.getElem?_cons_succ] at h
    have := fV_get (ad := ad) (f := f) (k := k + 1) h
    rw [show k + 1 + j = k + (j + 1) by omega] at this
    exact this
theorem fV_same {ad : Nat → Nat} {f g : Nat → Int32} : ∀ {l : List (Option Nat)} {k : Nat}, (∀ j, k ≤ j → g j = f j) → fV ad g l k = fV ad f l k
  | [], k, _ => rfl
  | none :: r, k, h => by simp only [fV]; rw [h k (Nat.le_refl k), fV_same (fun j hj => h j (by omega))]
  | some q :: r, k, h => by simp only [fV]; rw [fV_same (fun j hj => h j (by omega))]
theorem fV_set {ad : Nat → Nat} {f : Nat → Int32} {v : Int32} : ∀ {l : List (Option Nat)} {k j : Nat}, l[j]? = some none → (fV ad f l k).set j (.int v) = fV ad (upd f (k + j) v) l k
  | [], k, j, h => by simp at h
  | none :: r, k, 0, h => by
    simp only [fV, List.set_cons_zero, Nat.add_zero]
    rw [show upd f k v k = v by simp [upd], fV_same (g := upd f k v) (f := f) (fun j hj => by show (if j = k then v else f j) = _; rw [if_neg (by omega)])]
  | some q :: r, k, 0, h => by simp at h
  | none :: r, k, j + 1, h => by
    rw [List.getElem?_cons_succ] at h
    have := fV_set (ad := ad) (f := f) (v := v) (k := k + 1) h
    rw [show k + 1 + j = k + (j + 1) by omega] at this
    simp only [fV, List.set_cons_succ]
    rw [this, show upd f (k + (j + 1)) v k = f k by show (if k = k + (j + 1) then v else f k) = _; rw [if_neg (by omega)]]
  | some q :: r, k, j + 1, h => by
    rw [List.getElem?_cons_succ] at h
    have := fV_set (ad := ad) (f := f) (v := v) (k := k + 1) h
    rw [show k + 1 + j = k + (j + 1) by omega] at this
    simp only [fV, List.set_cons_succ]
    rw [this]
theorem fV_len {ad : Nat → Nat} {f : Nat → Int32} : ∀ {l : List (Option Nat)} {k : Nat}, (fV ad f l k).length = l.length
  | [], _ => rfl
  | none :: r, k => by simp only [fV, List.length_cons]; rw [fV_len]
  | some q :: r, k => by simp only [fV, List.length_cons]; rw [fV_len]
/-- values by places: a reference is a place of the layout; 100 .. the literals, 200 .. their bytes, 300 what checkIndex is handed -/
def cv (ad : Nat → Nat) : Value → Value
  | .ref a => .ref (ad a)
  | v => v
theorem cv_cat (ad : Nat → Nat) (v : Value) : (cv ad v).category = v.category := by cases v <;> rfl
/-- the locals that are known -/
def LR (ad : Nat → Nat) (ls : Array Slot) (nL : Nat) (L : List (Option Value)) : Prop := ls.size = nL ∧ lv_wf ls ∧ ∀ (i : Nat) (v : Value), L[i]? = some (some v) → ls[i]? = some (.val (cv ad v))
def asc (ad : Nat → Nat) (L : List (Option Value)) : List (Nat × Value) := (List.range L.length).filterMap (fun i => match L[i]? with | some (some v) => some (i, cv ad v) | _ => none)
theorem asc_mem {ad : Nat → Nat} {L : List (Option Value)} {q : Nat × Value} : q ∈ asc ad L ↔ ∃ v, L[q.1]? = some (some v) ∧ q.2 = cv ad v := by
  obtain ⟨i, w⟩ := q
  constructor
  · intro h
    obtain ⟨j, -, hj⟩ := List.mem_filterMap.mp h
    split at hj
    · rename_i v hv
      cases hj
      exact ⟨v, hv, rfl⟩
    · cases hj
  · rintro ⟨v, hv, hw⟩
    refine List.mem_filterMap.mpr ⟨i, List.mem_range.mpr (List.getElem?_eq_some_iff.mp hv).1, ?_⟩
    dsimp only at hv hw
    rw [hv, hw]
theorem LR.has {ad : Nat → Nat} {ls : Array Slot} {nL : Nat} {L : List (Option Value)} (h : LR ad ls nL L) : lv_has ls nL (asc ad L) := by
  refine ⟨h.1, h.2.1, fun q hq => ?_⟩
  obtain ⟨v, h1, h2⟩ := asc_mem.mp hq
  rw [h2]
  exact h.2.2 _ _ h1
/-- does a long stand just below? -/
def lg2 (L : List (Option Value)) : Nat → Bool
  | 0 => false
  | i + 1 => match L[i]? with
    | some (some v) => v.category == 2
    | _ => false
theorem LR.set1 {ad : Nat → Nat} {ls' : Array Slot} {nL i : Nat} {L : List (Option Value)} {v : Value} (hg : lg2 L i = false)
    (h : lv_has ls' nL ((i, cv ad v) :: (asc ad L).filter (fun q => !(q.1 == i) && !(q.1 + 1 == i && q.2.category == 2)))) : LR ad ls' nL (L.set i (some v)) := by
  refine ⟨h.1, h.2.1, fun j w hj => ?_⟩
  by_cases hji : j = i
  · subst hji
    by_cases hl : j < L.length
    · rw [List.getElem?_set_self hl] at hj
      cases hj
      exact h.2.2 _ List.mem_cons_self
    · rw [List.getElem?_eq_none (by simp; omega)] at hj
      cases hj
  · rw [List.getElem?_set_ne (Ne.symm hji)] at hj
    refine h.2.2 (j, cv ad w) (List.mem_cons_of_mem _ (List.mem_filter.mpr ⟨asc_mem.mpr ⟨w, hj, rfl⟩, ?_⟩))
    have e1 : (j == i) = false := by simp [hji]
    have e2 : (j + 1 == i && (cv ad w).category == 2) = false := by
      by_cases hj1 : j + 1 = i
      · subst hj1
        simp only [lg2, hj] at hg
        rw [cv_cat]
        simp [hg]
      · simp [hj1]
    simp [e1, e2]
theorem LR.set2 {ad : Nat → Nat} {ls' : Array Slot} {nL i : Nat} {L : List (Option Value)} {v : Value} (hg : lg2 L i = false)
    (h : lv_has ls' nL ((i, cv ad v) :: (asc ad L).filter (fun q => !(q.1 == i) && (!(q.1 == i + 1) && !(q.1 + 1 == i && q.2.category == 2))))) : LR ad ls' nL ((L.set i (some v)).set (i + 1) none) := by
  refine ⟨h.1, h.2.1, fun j w hj => ?_⟩
  by_cases hj1 : j = i + 1
  · subst hj1
    by_cases hl : i + 1 < (L.set i (some v)).length
    · rw [List.getElem?_set_self hl] at hj
      cases hj
    · rw [List.getElem?_eq_none (by simp at hl; simp; omega)] at hj
      cases hj
  · rw [List.getElem?_set_ne (Ne.symm hj1)] at hj
    by_cases hji : j = i
    · subst hji
      by_cases hl : j < L.length
      · rw [List.getElem?_set_self hl] at hj
        cases hj
        exact h.2.2 _ List.mem_cons_self
      · rw [List.getElem?_eq_none (by simp; omega)] at hj
        cases hj
    · rw [List.getElem?_set_ne (Ne.symm hji)] at hj
      refine h.2.2 (j, cv ad w) (List.mem_cons_of_mem _ (List.mem_filter.mpr ⟨asc_mem.mpr ⟨w, hj, rfl⟩, ?_⟩))
      have e1 : (j == i) = false := by simp [hji]
      have e3 : (j == i + 1) = false := by simp [hj1]
      have e2 : (j + 1 == i && (cv ad w).category == 2) = false := by
        by_cases hj2 : j + 1 = i
        · subst hj2
          simp only [lg2, hj] at hg
          rw [cv_cat]
          simp [hg]
        · simp [hj2]
      simp [e1, e2, e3]
/-- fewer locals -/
def msk : List Bool → List (Option Value) → List (Option Value)
  | [], _ => []
  | _, [] => []
  | true :: r, x :: l => x :: msk r l
  | false :: r, _ :: l => none :: msk r l
theorem msk_get : ∀ {bs : List Bool} {L : List (Option Value)} {i : Nat} {v : Value}, (msk bs L)[i]? = some (some v) → L[i]? = some (some v)
  | [], L, i, v, h => by simp [msk] at h
  | b :: r, [], i, v, h => by simp [msk] at h
  | true :: r, x :: l, 0, v, h => by simpa [msk] using h
  | false :: r, x :: l, 0, v, h => by simp [msk] at h
  | true :: r, x :: l, i + 1, v, h => by
    simp only [msk, List.getElem?_cons_succ] at h ⊢
    exact msk_get h
  | false :: r, x :: l, i + 1, v, h => by
    simp only [msk, List.getElem?_cons_succ] at h ⊢
    exact msk_get h
theorem LR.fewer {ad : Nat → Nat} {ls : Array Slot} {nL : Nat} {L : List (Option Value)} (bs : List Bool) (h : LR ad ls nL L) : LR ad ls nL (msk bs L) := ⟨h.1, h.2.1, fun i v hi => h.2.2 i v (msk_get hi)⟩
