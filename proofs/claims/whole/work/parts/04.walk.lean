/-! what lies in the heap beside the world: links between nest mates, the literals, two statics of the JDK's -/
def nestW : List Cond := [.methodLinkNest RX0 115 yX4_hasBit RX4, .methodLinkNest RX0 109 yX4_leastBit RX4]
def sTab : List (Nat × String × List Int32) := [(65, "goat", [103, 111, 97, 116]), (69, "nanny", [110, 97, 110, 110, 121]), (71, "billy", [98, 105, 108, 108, 121]), (73, "grey", [103, 114, 101, 121]), (75, "old", [111, 108, 100]), (77, "white", [119, 104, 105, 116, 101]), (79, "kid", [107, 105, 100]), (88, "on", [111, 110]), (94, "knows", [107, 110, 111, 119, 115]), (97, "fed", [102, 101, 100]), (46, "grass", [103, 114, 97, 115, 115]), (55, "grows", [103, 114, 111, 119, 115]), (60, "salt", [115, 97, 108, 116])]
def sIdx (i : Nat) : Nat := (sTab.getD i (0, "", [])).1
def sTxt (i : Nat) : String := (sTab.getD i (0, "", [])).2.1
def sLen : List Nat := sTab.map (fun q => q.2.2.length)
def sByt : List (List Int32) := sTab.map (fun q => q.2.2)
def OL (ad : Nat → Nat) (A : Nat → Prop) (U : State) (H : Heap) : Prop :=
  (∀ w ∈ nestW, va_Nw w U) ∧ vk_S 13 sLen sByt (fun i => ad (100 + i)) (fun i => ad (200 + i)) A U H ∧ va_Z RJ0 "COMPACT_STRINGS" "Z" (.int 1) A U H ∧ (va_Z RJ3 "SIOOBE_FORMATTER" "Ljava/util/function/BiFunction;" .null A U H ∨ va_Z RJ3 "SIOOBE_FORMATTER" "Ljava/util/function/BiFunction;" (.ref (ad 300)) A U H) ∧ ∀ i : Nat, i < 13 → vk_R RX1 (sIdx i) (sTxt i) (ad (100 + i)) U
theorem OL.kept {ad : Nat → Nat} {A : Nat → Prop} {U : State} {H H1 : Heap} (h : OL ad A U H) (hq : ∀ a : Nat, a < H.size → ¬ A a → H1[a]? = H[a]?) : OL ad A U H1 :=
  ⟨h.1, vk_S.kept h.2.1 hq, va_Z.kept h.2.2.1 hq, h.2.2.2.1.imp (fun z => va_Z.kept z hq) (fun z => va_Z.kept z hq), h.2.2.2.2⟩
theorem OL.narrow {ad : Nat → Nat} {A B : Nat → Prop} {U : State} {H : Heap} (h : OL ad A U H) (hAB : ∀ q, B q → A q) : OL ad B U H :=
  ⟨h.1, vk_S.narrow h.2.1 hAB, va_Z.narrow h.2.2.1 hAB, h.2.2.2.1.imp (fun z => va_Z.narrow z hAB) (fun z => va_Z.narrow z hAB), h.2.2.2.2⟩
theorem OL.warm {ad : Nat → Nat} {A : Nat → Prop} {s U : State} {H : Heap} (hW : s.WarmedH U.vm) (h : OL ad A s H) : OL ad A U H := by
  refine ⟨fun w hw => ?_, vk_S.moved hW.alike h.2.1, va_Z.moved hW.alike h.2.2.1, h.2.2.2.1.imp (fun z => va_Z.moved hW.alike z) (fun z => va_Z.moved hW.alike z), fun i hi => vk_R.warm hW (h.2.2.2.2 i hi)⟩
  have h1 := h.1 w hw
  simp only [nestW, List.mem_cons, List.not_mem_nil, or_false] at hw
  rcases hw with rfl | rfl
  · exact va_Nw.warmM hW h1
  · exact va_Nw.warmM hW h1
theorem OL.blind {ad : Nat → Nat} {A : Nat → Prop} {U : State} {H : Heap} (g : JFrame) (mk : MethodId) (a : Array Value) (h : OL ad A U H) : OL ad A (U.calling g mk a) H := by
  refine ⟨fun w hw => ?_, vk_S.moved (u := U) (U := U.calling g mk a) (Vm.Alike.refl U.vm) h.2.1, va_Z.moved (u := U) (U := U.calling g mk a) (Vm.Alike.refl U.vm) h.2.2.1, h.2.2.2.1.imp (fun z => va_Z.moved (u := U) (U := U.calling g mk a) (Vm.Alike.refl U.vm) z) (fun z => va_Z.moved (u := U) (U := U.calling g mk a) (Vm.Alike.refl U.vm) z), fun i hi => vk_R.same (u := U) (U := U.calling g mk a) rfl (h.2.2.2.2 i hi)⟩
  have h1 := h.1 w hw
  simp only [nestW, List.mem_cons, List.not_mem_nil, or_false] at hw
  rcases hw with rfl | rfl
  · exact va_Nw.same rfl (u := U) (U := U.calling g mk a) rfl h1
  · exact va_Nw.same rfl (u := U) (U := U.calling g mk a) rfl h1
/-! the walk's picture -/
/-- a method: its decoded rows, its class, the depth of its calls, its locals, its answer's type -/
abbrev Mi : Type := List (Nat × Instr × Nat) × String × Nat × Nat × Option FieldType
def rmd (d : Nat) : Room := { frames := d, cells := 0, slots := 0, locals := 32 * d }
def tyl (cT : Nat → ClassId) : List (ClassId × FieldType) := [(cT 0, .int), (cT 1, .object RX2)]
abbrev Out : Type := Option Value × St
def QO (D : va_G) (cT : Nat → ClassId) (ad : Nat → Nat) (A : Nat → Prop) (out : Out) : Array Value → State → Outcome → State → Prop := fun _ st oc t => oc = .returned (out.1.map (cv ad)) ∧ va_P D vwCl (wl cT ad out.2) t.heap ∧ va_F A st t
def CX (M : Mi) (p : Program) (e : Env) (s : State) (m : MethodId) (args : Array Value) (meth : Method) (c : Code) (D : va_G) (cT : Nat → ClassId) (ad : Nat → Nat) (A : Nat → Prop) : Prop :=
  p.tables.exec = Jvm.exec ∧ (∀ q ∈ M.1, decode c.code q.1 = .ok q.2) ∧ meth.sig.returnType = M.2.2.2.2 ∧ c.maxLocals = M.2.2.2.1 ∧ s.vm.findClass M.2.1 = some m.cls ∧ (∀ w ∈ TB, w.before args s = true) ∧ meth.locks = false ∧ va_K D vwCl (tyl cT) s ∧ (∀ S : St, va_D A (wl cT ad S)) ∧ (∀ q, s.heap.size ≤ q → A q) ∧ OL ad A s s.heap
def PW (M : Mi) (out : Out) (pc : Nat) (L : List (Option Value)) (st : List Value) (S : St) : Prop :=
  ∀ (p : Program) (l : Launch) (e : Env) (s : State) (m : MethodId) (args : Array Value) (below : List Frame) (meth : Method) (c : Code) (D : va_G) (cT : Nat → ClassId) (ad : Nat → Nat) (A : Nat → Prop), CX M p e s m args meth c D cT ad A →
  ∀ (H : Heap) (locs : List Loc) (ls : Array Slot), LR ad ls M.2.2.2.1 L → va_P D vwCl (wl cT ad S) H → va_S A s.heap H locs →
  W p l e (rmd M.2.2.1) s m args below meth c H locs 0 0 (MQ below (QO D cT ad A out) args s 0 0 A) (F0 m pc ls (st.map (cv ad)))

