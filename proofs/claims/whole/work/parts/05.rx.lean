/-! a lighter judgement over the one world: from pc with locals L and stack S the method returns R.1 and leaves the state R.2 -/
/-- the tables' words that every call keeps -/
def xtb : List Cond := lw_tbl.filter goodWord
theorem x_in {w : Cond} (i : Nat) (hi : lw_tbl[i]? = some w) (hg : goodWord w = true) : w ∈ xtb := List.mem_filter.mpr ⟨List.mem_of_getElem? hi, hg⟩
/-- a method: its bytes, its locals, what it returns, its class -/
abbrev xM : Type := ByteArray × Nat × Option FieldType × String
abbrev xR (h : Nat) : Room := { frames := h, cells := 0, slots := 0, locals := 40 * h }
def xsIx : List Nat := [81, 103, 108, 114, 116, 118, 120, 122, 124, 130]
def xsTx : List String := ["not", "sum", "pins", "has", "runs", "in", "turns", "and", "or", "of"]
def xsByt : List (List Int32) := [[110, 111, 116], [115, 117, 109], [112, 105, 110, 115], [104, 97, 115], [114, 117, 110, 115], [105, 110], [116, 117, 114, 110, 115], [97, 110, 100], [111, 114], [111, 102]]
def xsLen : List Nat := [3, 3, 4, 3, 4, 2, 5, 3, 2, 2]
/-- the String constants, and the JDK's statics that they ask -/
def xStr (g : xG) (A : Nat → Prop) (U : State) (H : Heap) : Prop := vk_S 10 xsLen xsByt (xk g) g.2.2.2.1 A U H ∧ (∀ i, i < 10 → vk_R RX5 (xsIx.getD i 0) (xsTx.getD i "") (xk g i) U) ∧ va_Z "java/lang/String" "COMPACT_STRINGS" "Z" (.int 1) A U H ∧ va_Zq "jdk/internal/util/Preconditions" "SIOOBE_FORMATTER" "Ljava/util/function/BiFunction;" A U H
theorem xStr.go {g : xG} {A B : Nat → Prop} {u U : State} {H H1 : Heap} (h : xStr g A u H) (hW : u.WarmedH U.vm) (hq : ∀ a : Nat, a < H.size → ¬ A a → H1[a]? = H[a]?) (hAB : ∀ q, B q → A q) : xStr g B U H1 :=
  ⟨((h.1.moved hW.alike).kept hq).narrow hAB, fun i hi => vk_R.warm hW (h.2.1 i hi), ((h.2.2.1.moved hW.alike).kept hq).narrow hAB, ((h.2.2.2.moved hW.alike).kept hq).narrow hAB⟩
theorem xStr.same {g : xG} {A : Nat → Prop} {u U : State} {H : Heap} (h : xStr g A u H) (hv : U.vm = u.vm) : xStr g A U H :=
  have ha : u.vm.Alike U.vm := hv ▸ Vm.Alike.refl u.vm
  ⟨h.1.moved ha, fun i hi => vk_R.same hv (h.2.1 i hi), h.2.2.1.moved ha, h.2.2.2.moved ha⟩
def xQ (g : xG) (A : Nat → Prop) (R : Option Value × xS) : Array Value → State → Outcome → State → Prop := fun _ st oc t => (oc = .returned R.1 ∧ va_P (xD g) vwCl (xw g R.2) t.heap) ∧ va_F A st t
def xlv (ls : Array Slot) (nL : Nat) (L : List (Option Value)) : Prop := ls.size = nL ∧ lv_wf ls ∧ ∀ (i : Nat) (v : Value), L[i]? = some (some v) → ls[i]? = some (.val v)
def xC (p : Program) (g : xG) (M : xM) (u : State) (m : MethodId) (args : Array Value) (meth : Method) (c : Code) : Prop :=
  p.tables.exec = Jvm.exec ∧ c.code = M.1 ∧ c.maxLocals = M.2.1 ∧ meth.sig.returnType = M.2.2.1 ∧ u.vm.findClass M.2.2.2 = some m.cls ∧ (∀ w ∈ xtb, w.before args u = true) ∧ meth.locks = false ∧ va_K (xD g) vwCl (xtys g) u ∧ xStr g (xA g u.heap.size) u u.heap
def Rx (l : Launch) (g : xG) (h : Nat) (M : xM) (pc : Nat) (L : List (Option Value)) (S : List Value) (s : xS) (R : Option Value × xS) : Prop :=
  ∀ (p : Program) (e : Env) (u : State) (m : MethodId) (args : Array Value) (below : List Frame) (meth : Method) (c : Code) (H : Heap) (locs : List Loc) (ls : Array Slot),
    xC p g M u m args meth c → va_P (xD g) vwCl (xw g s) H → va_D (xA g u.heap.size) (xw g s) → va_S (xA g u.heap.size) u.heap H locs → xlv ls M.2.1 L →
    W p l e (xR h) u m args below meth c H locs 0 0 (MQ below (xQ g (xA g u.heap.size) R) args u 0 0 (xA g u.heap.size)) (F0 m pc ls S)
/-! locals -/
def xl (L : List (Option Value)) : List (Nat × Value) := (List.range L.length).filterMap (fun i => match L[i]? with | some (some v) => some (i, v) | _ => none)
theorem xl_mem {L : List (Option Value)} {i : Nat} {v : Value} (h : L[i]? = some (some v)) : (i, v) ∈ xl L := by
  refine List.mem_filterMap.mpr ⟨i, List.mem_range.mpr (List.getElem?_eq_some_iff.mp h).1, ?_⟩
  rw [h]
theorem xl_of {L : List (Option Value)} {q : Nat × Value} (h : q ∈ xl L) : L[q.1]? = some (some q.2) := by
  obtain ⟨i, -, hi⟩ := List.mem_filterMap.mp h
  split at hi
  · rename_i v hv
    cases hi
    exact hv
  · cases hi
theorem xlv_has {ls : Array Slot} {nL : Nat} {L : List (Option Value)} (h : xlv ls nL L) : lv_has ls nL (xl L) := ⟨h.1, h.2.1, fun q hq => h.2.2 _ _ (xl_of hq)⟩
/-- no long stands just ahead of place i -/
def xk1 (L : List (Option Value)) (i : Nat) : Bool := match i with
  | 0 => true
  | j + 1 => match L[j]? with
    | some (some w) => w.category == 1
    | _ => true
theorem xk1_at {L : List (Option Value)} {i j : Nat} {w : Value} (h : xk1 L i = true) (hj : j + 1 = i) (hw : L[j]? = some (some w)) : ¬ w.category = 2 := by
  subst hj
  simp only [xk1, hw, beq_iff_eq] at h
  omega
theorem xlv_set1 {ls : Array Slot} {nL i : Nat} {L : List (Option Value)} {v : Value} (hk : xk1 L i = true) (h : lv_has ls nL ((i, v) :: (xl L).filter (fun q => !(q.1 == i) && !(q.1 + 1 == i && q.2.category == 2)))) : xlv ls nL (L.set i (some v)) := by
  refine ⟨h.1, h.2.1, fun j w hj => ?_⟩
  by_cases e : j = i
  · subst e
    have hl : j < L.length := by
      have := (List.getElem?_eq_some_iff.mp hj).1
      simpa using this
    rw [List.getElem?_set_self hl] at hj
    cases hj
    exact h.2.2 (j, v) List.mem_cons_self
  · rw [List.getElem?_set_ne (Ne.symm e)] at hj
    refine h.2.2 (j, w) (List.mem_cons_of_mem _ (List.mem_filter.mpr ⟨xl_mem hj, ?_⟩))
    have h2 : ¬ (j + 1 = i ∧ w.category = 2) := fun q => xk1_at hk q.1 hj q.2
    simp only [Bool.and_eq_true, Bool.not_eq_true', beq_eq_false_iff_ne, ne_eq, Bool.and_eq_false_iff]
    refine ⟨e, ?_⟩
    by_cases e2 : j + 1 = i
    · exact Or.inr (fun q => h2 ⟨e2, q⟩)
    · exact Or.inl e2
theorem xlv_set2 {ls : Array Slot} {nL i : Nat} {L : List (Option Value)} {v : Value} (hk : xk1 L i = true) (h : lv_has ls nL ((i, v) :: (xl L).filter (fun q => !(q.1 == i) && (!(q.1 == i + 1) && !(q.1 + 1 == i && q.2.category == 2))))) : xlv ls nL ((L.set i (some v)).set (i + 1) none) := by
  refine ⟨h.1, h.2.1, fun j w hj => ?_⟩
  by_cases e3 : j = i + 1
  · subst e3
    have hl : i + 1 < (L.set i (some v)).length := by
      have := (List.getElem?_eq_some_iff.mp hj).1
      simpa using this
    rw [List.getElem?_set_self hl] at hj
    cases hj
  rw [List.getElem?_set_ne (Ne.symm e3)] at hj
  by_cases e : j = i
  · subst e
    have hl : j < L.length := by
      have := (List.getElem?_eq_some_iff.mp hj).1
      simpa using this
    rw [List.getElem?_set_self hl] at hj
    cases hj
    exact h.2.2 (j, v) List.mem_cons_self
  · rw [List.getElem?_set_ne (Ne.symm e)] at hj
    refine h.2.2 (j, w) (List.mem_cons_of_mem _ (List.mem_filter.mpr ⟨xl_mem hj, ?_⟩))
    have h2 : ¬ (j + 1 = i ∧ w.category = 2) := fun q => xk1_at hk q.1 hj q.2
    simp only [Bool.and_eq_true, Bool.not_eq_true', beq_eq_false_iff_ne, ne_eq, Bool.and_eq_false_iff]
    refine ⟨e, e3, ?_⟩
    by_cases e2 : j + 1 = i
    · exact Or.inr (fun q => h2 ⟨e2, q⟩)
    · exact Or.inl e2
/-- fewer locals -/
def xmask : List Bool → List (Option Value) → List (Option Value)
  | b :: bs, o :: L => (if b then o else none) :: xmask bs L
  | _, _ => []
theorem xmask_at : ∀ (bs : List Bool) (L : List (Option Value)) (i : Nat) (v : Value), (xmask bs L)[i]? = some (some v) → L[i]? = some (some v)
  | [], _, i, v, h => by simp [xmask] at h
  | _ :: _, [], i, v, h => by simp [xmask] at h
  | b :: bs, o :: L, 0, v, h => by
    simp only [xmask, List.getElem?_cons_zero, Option.some.injEq] at h ⊢
    cases b
    · simp at h
    · simpa using h
  | b :: bs, o :: L, i + 1, v, h => by
    simp only [xmask, List.getElem?_cons_succ] at h ⊢
    exact xmask_at bs L i v h
/-- the instruction at pc, and its length -/
def xd (M : xM) (pc : Nat) (i : Instr) (n : Nat) : Prop := decode M.1 pc = .ok (i, n)
def xushr (x y : Int32) : Int32 := (x.toUInt32 >>> (y.toUInt32 &&& Int32.toUInt32 31)).toInt32
def xlushr (x : Int64) (y : Int32) : Int64 := (x.toUInt64 >>> (y.toInt64.toUInt64 &&& Int64.toUInt64 63)).toInt64
section RX
variable {l : Launch} {g : xG} {h : Nat} {M : xM} {pc : Nat} {L L' : List (Option Value)} {S : List Value} {s s' : xS} {R : Option Value × xS}
theorem r_mask (bs : List Bool) (e : xmask bs L = L') (k : Rx l g h M pc L' S s R) : Rx l g h M pc L S s R := by
  intro p e1 u m args below meth c H locs ls hC hP hD hS hl
  exact k p e1 u m args below meth c H locs ls hC hP hD hS ⟨hl.1, hl.2.1, fun i v hv => hl.2.2 i v (xmask_at bs L i v (by rw [e]; exact hv))⟩
theorem r_iconst {n : Int} (d : xd M pc (.iconst n) 1) {v : Int32} (hv : Int32.ofInt n = v) (k : Rx l g h M (pc + 1) L (.int v :: S) s R) : Rx l g h M pc L S s R := by
  intro p e u m args below meth c H locs ls hC hP hD hS hl
  exact lv_iconst hC.1 hC.2.1 d hv (k p e u m args below meth c H locs ls hC hP hD hS hl)
theorem r_bipush {n : Int} (d : xd M pc (.bipush n) 2) {v : Int32} (hv : (Int8.ofInt n).toInt32 = v) (k : Rx l g h M (pc + 2) L (.int v :: S) s R) : Rx l g h M pc L S s R := by
  intro p e u m args below meth c H locs ls hC hP hD hS hl
  exact lv_bipush hC.1 hC.2.1 d hv (k p e u m args below meth c H locs ls hC hP hD hS hl)
theorem r_sipush {n : Int} (d : xd M pc (.sipush n) 3) {v : Int32} (hv : (Int16.ofInt n).toInt32 = v) (k : Rx l g h M (pc + 3) L (.int v :: S) s R) : Rx l g h M pc L S s R := by
  intro p e u m args below meth c H locs ls hC hP hD hS hl
  exact lv_sipush hC.1 hC.2.1 d hv (k p e u m args below meth c H locs ls hC hP hD hS hl)
theorem r_lconst {n : Fin 2} (d : xd M pc (.lconst n) 1) {v : Int64} (hv : Int64.ofNat (n : Nat) = v) (k : Rx l g h M (pc + 1) L (.long v :: S) s R) : Rx l g h M pc L S s R := by
  intro p e u m args below meth c H locs ls hC hP hD hS hl
  exact lv_lconst hC.1 hC.2.1 d hv (k p e u m args below meth c H locs ls hC hP hD hS hl)
theorem r_ldc2 {index : Nat} (d : xd M pc (.ldc2_w index) 3) {v : Int64} (hw : Cond.constantLong M.2.2.2 index v ∈ xtb) (k : Rx l g h M (pc + 3) L (.long v :: S) s R) : Rx l g h M pc L S s R := by
  intro p e u m args below meth c H locs ls hC hP hD hS hl
  exact lv_ldc2 hC.1 hC.2.1 hC.2.2.2.2.1 (hC.2.2.2.2.2.1 _ hw) d (k p e u m args below meth c H locs ls hC hP hD hS hl)
theorem r_ldc {index : Nat} (d : xd M pc (.ldc index) 2) {v : Int32} (hw : Cond.constant M.2.2.2 index v ∈ xtb) (k : Rx l g h M (pc + 2) L (.int v :: S) s R) : Rx l g h M pc L S s R := by
  intro p e u m args below meth c H locs ls hC hP hD hS hl
  exact lv_ldc hC.1 hC.2.1 hC.2.2.2.2.1 (hC.2.2.2.2.2.1 _ hw) d (k p e u m args below meth c H locs ls hC hP hD hS hl)
theorem r_ldcw {index : Nat} (d : xd M pc (.ldc_w index) 3) {v : Int32} (hw : Cond.constant M.2.2.2 index v ∈ xtb) (k : Rx l g h M (pc + 3) L (.int v :: S) s R) : Rx l g h M pc L S s R := by
  intro p e u m args below meth c H locs ls hC hP hD hS hl
  exact lv_ldcw hC.1 hC.2.1 hC.2.2.2.2.1 (hC.2.2.2.2.2.1 _ hw) d (k p e u m args below meth c H locs ls hC hP hD hS hl)
theorem r_iload_n {n : Fin 4} (d : xd M pc (.iload_n n) 1) {i : Nat} {x : Int32} (hi : (n : Nat) = i) (hv : L[i]? = some (some (.int x))) (k : Rx l g h M (pc + 1) L (.int x :: S) s R) : Rx l g h M pc L S s R := by
  intro p e u m args below meth c H locs ls hC hP hD hS hl
  exact lv_iload_n hC.1 hC.2.1 d hi (hl.2.2 _ _ hv) (k p e u m args below meth c H locs ls hC hP hD hS hl)
theorem r_iload {i : Nat} (d : xd M pc (.iload i) 2) {x : Int32} (hv : L[i]? = some (some (.int x))) (k : Rx l g h M (pc + 2) L (.int x :: S) s R) : Rx l g h M pc L S s R := by
  intro p e u m args below meth c H locs ls hC hP hD hS hl
  exact lv_iload hC.1 hC.2.1 d (hl.2.2 _ _ hv) (k p e u m args below meth c H locs ls hC hP hD hS hl)
theorem r_lload_n {n : Fin 4} (d : xd M pc (.lload_n n) 1) {i : Nat} {x : Int64} (hi : (n : Nat) = i) (hv : L[i]? = some (some (.long x))) (k : Rx l g h M (pc + 1) L (.long x :: S) s R) : Rx l g h M pc L S s R := by
  intro p e u m args below meth c H locs ls hC hP hD hS hl
  exact lv_lload_n hC.1 hC.2.1 d hi (hl.2.2 _ _ hv) (k p e u m args below meth c H locs ls hC hP hD hS hl)
theorem r_lload {i : Nat} (d : xd M pc (.lload i) 2) {x : Int64} (hv : L[i]? = some (some (.long x))) (k : Rx l g h M (pc + 2) L (.long x :: S) s R) : Rx l g h M pc L S s R := by
  intro p e u m args below meth c H locs ls hC hP hD hS hl
  exact lv_lload hC.1 hC.2.1 d (hl.2.2 _ _ hv) (k p e u m args below meth c H locs ls hC hP hD hS hl)
theorem r_aload_n {n : Fin 4} (d : xd M pc (.aload_n n) 1) {i : Nat} {x : Nat} (hi : (n : Nat) = i) (hv : L[i]? = some (some (.ref x))) (k : Rx l g h M (pc + 1) L (.ref x :: S) s R) : Rx l g h M pc L S s R := by
  intro p e u m args below meth c H locs ls hC hP hD hS hl
  exact lv_aload_n hC.1 hC.2.1 d hi (hl.2.2 _ _ hv) (k p e u m args below meth c H locs ls hC hP hD hS hl)
theorem r_aload {i : Nat} (d : xd M pc (.aload i) 2) {x : Nat} (hv : L[i]? = some (some (.ref x))) (k : Rx l g h M (pc + 2) L (.ref x :: S) s R) : Rx l g h M pc L S s R := by
  intro p e u m args below meth c H locs ls hC hP hD hS hl
  exact lv_aload hC.1 hC.2.1 d (hl.2.2 _ _ hv) (k p e u m args below meth c H locs ls hC hP hD hS hl)
theorem r_istore_n {n : Fin 4} (d : xd M pc (.istore_n n) 1) {i : Nat} {x : Int32} (hi : (n : Nat) = i) (hn : i < M.2.1) (hk : xk1 L i = true) (hL : L.set i (some (.int x)) = L') (k : Rx l g h M (pc + 1) L' S s R) : Rx l g h M pc L (.int x :: S) s R := by
  intro p e u m args below meth c H locs ls hC hP hD hS hl
  exact lv_istore_n hC.1 hC.2.1 d hi (xlv_has hl) hn rfl (fun ls' hl' => k p e u m args below meth c H locs ls' hC hP hD hS (hL ▸ xlv_set1 hk hl'))
theorem r_istore {i : Nat} (d : xd M pc (.istore i) 2) {x : Int32} (hn : i < M.2.1) (hk : xk1 L i = true) (hL : L.set i (some (.int x)) = L') (k : Rx l g h M (pc + 2) L' S s R) : Rx l g h M pc L (.int x :: S) s R := by
  intro p e u m args below meth c H locs ls hC hP hD hS hl
  exact lv_istore hC.1 hC.2.1 d (xlv_has hl) hn rfl (fun ls' hl' => k p e u m args below meth c H locs ls' hC hP hD hS (hL ▸ xlv_set1 hk hl'))
theorem r_astore_n {n : Fin 4} (d : xd M pc (.astore_n n) 1) {i : Nat} {x : Nat} (hi : (n : Nat) = i) (hn : i < M.2.1) (hk : xk1 L i = true) (hL : L.set i (some (.ref x)) = L') (k : Rx l g h M (pc + 1) L' S s R) : Rx l g h M pc L (.ref x :: S) s R := by
  intro p e u m args below meth c H locs ls hC hP hD hS hl
  exact lv_astore_n hC.1 hC.2.1 d hi (xlv_has hl) hn rfl (fun ls' hl' => k p e u m args below meth c H locs ls' hC hP hD hS (hL ▸ xlv_set1 hk hl'))
theorem r_astore {i : Nat} (d : xd M pc (.astore i) 2) {x : Nat} (hn : i < M.2.1) (hk : xk1 L i = true) (hL : L.set i (some (.ref x)) = L') (k : Rx l g h M (pc + 2) L' S s R) : Rx l g h M pc L (.ref x :: S) s R := by
  intro p e u m args below meth c H locs ls hC hP hD hS hl
  exact lv_astore hC.1 hC.2.1 d (xlv_has hl) hn rfl (fun ls' hl' => k p e u m args below meth c H locs ls' hC hP hD hS (hL ▸ xlv_set1 hk hl'))
theorem r_lstore_n {n : Fin 4} (d : xd M pc (.lstore_n n) 1) {i : Nat} {x : Int64} (hi : (n : Nat) = i) (hn : i + 1 < M.2.1) (hk : xk1 L i = true) (hL : (L.set i (some (.long x))).set (i + 1) none = L') (k : Rx l g h M (pc + 1) L' S s R) : Rx l g h M pc L (.long x :: S) s R := by
  intro p e u m args below meth c H locs ls hC hP hD hS hl
  exact lv_lstore_n hC.1 hC.2.1 d hi (xlv_has hl) hn rfl (fun ls' hl' => k p e u m args below meth c H locs ls' hC hP hD hS (hL ▸ xlv_set2 hk hl'))
theorem r_lstore {i : Nat} (d : xd M pc (.lstore i) 2) {x : Int64} (hn : i + 1 < M.2.1) (hk : xk1 L i = true) (hL : (L.set i (some (.long x))).set (i + 1) none = L') (k : Rx l g h M (pc + 2) L' S s R) : Rx l g h M pc L (.long x :: S) s R := by
  intro p e u m args below meth c H locs ls hC hP hD hS hl
  exact lv_lstore hC.1 hC.2.1 d (xlv_has hl) hn rfl (fun ls' hl' => k p e u m args below meth c H locs ls' hC hP hD hS (hL ▸ xlv_set2 hk hl'))
theorem r_iinc {i : Nat} {n : Int} (d : xd M pc (.iinc i n) 3) {x v : Int32} (hx : L[i]? = some (some (.int x))) (hv : x + Int32.ofInt n = v) (hn : i < M.2.1) (hk : xk1 L i = true) (hL : L.set i (some (.int v)) = L') (k : Rx l g h M (pc + 3) L' S s R) : Rx l g h M pc L S s R := by
  intro p e u m args below meth c H locs ls hC hP hD hS hl
  obtain ⟨q, hq⟩ := List.getElem?_of_mem (xl_mem hx)
  exact lv_iinc hC.1 hC.2.1 d (xlv_has hl) hq hv hn rfl (fun ls' hl' => k p e u m args below meth c H locs ls' hC hP hD hS (hL ▸ xlv_set1 hk hl'))
theorem r_iadd (d : xd M pc (.iadd) 1) {x y : Int32} (k : Rx l g h M (pc + 1) L (.int (x + y) :: S) s R) : Rx l g h M pc L (.int y :: .int x :: S) s R := by
  intro p e u m args below meth c H locs ls hC hP hD hS hl
  exact lv_iadd hC.1 hC.2.1 d (k p e u m args below meth c H locs ls hC hP hD hS hl)
theorem r_isub (d : xd M pc (.isub) 1) {x y : Int32} (k : Rx l g h M (pc + 1) L (.int (x - y) :: S) s R) : Rx l g h M pc L (.int y :: .int x :: S) s R := by
  intro p e u m args below meth c H locs ls hC hP hD hS hl
  exact lv_isub hC.1 hC.2.1 d (k p e u m args below meth c H locs ls hC hP hD hS hl)
theorem r_imul (d : xd M pc (.imul) 1) {x y : Int32} (k : Rx l g h M (pc + 1) L (.int (x * y) :: S) s R) : Rx l g h M pc L (.int y :: .int x :: S) s R := by
  intro p e u m args below meth c H locs ls hC hP hD hS hl
  exact lv_imul hC.1 hC.2.1 d (k p e u m args below meth c H locs ls hC hP hD hS hl)
theorem r_iand (d : xd M pc (.iand) 1) {x y : Int32} (k : Rx l g h M (pc + 1) L (.int (x &&& y) :: S) s R) : Rx l g h M pc L (.int y :: .int x :: S) s R := by
  intro p e u m args below meth c H locs ls hC hP hD hS hl
  exact lv_iand hC.1 hC.2.1 d (k p e u m args below meth c H locs ls hC hP hD hS hl)
theorem r_ior (d : xd M pc (.ior) 1) {x y : Int32} (k : Rx l g h M (pc + 1) L (.int (x ||| y) :: S) s R) : Rx l g h M pc L (.int y :: .int x :: S) s R := by
  intro p e u m args below meth c H locs ls hC hP hD hS hl
  exact lv_ior hC.1 hC.2.1 d (k p e u m args below meth c H locs ls hC hP hD hS hl)
theorem r_ixor (d : xd M pc (.ixor) 1) {x y : Int32} (k : Rx l g h M (pc + 1) L (.int (x ^^^ y) :: S) s R) : Rx l g h M pc L (.int y :: .int x :: S) s R := by
  intro p e u m args below meth c H locs ls hC hP hD hS hl
  exact lv_ixor hC.1 hC.2.1 d (k p e u m args below meth c H locs ls hC hP hD hS hl)
theorem r_ishl (d : xd M pc (.ishl) 1) {x y : Int32} (k : Rx l g h M (pc + 1) L (.int (x <<< (y &&& 31)) :: S) s R) : Rx l g h M pc L (.int y :: .int x :: S) s R := by
  intro p e u m args below meth c H locs ls hC hP hD hS hl
  exact lv_ishl hC.1 hC.2.1 d (k p e u m args below meth c H locs ls hC hP hD hS hl)
theorem r_ishr (d : xd M pc (.ishr) 1) {x y : Int32} (k : Rx l g h M (pc + 1) L (.int (x >>> (y &&& 31)) :: S) s R) : Rx l g h M pc L (.int y :: .int x :: S) s R := by
  intro p e u m args below meth c H locs ls hC hP hD hS hl
  exact lv_ishr hC.1 hC.2.1 d (k p e u m args below meth c H locs ls hC hP hD hS hl)
theorem r_iushr (d : xd M pc (.iushr) 1) {x y : Int32} (k : Rx l g h M (pc + 1) L (.int (xushr x y) :: S) s R) : Rx l g h M pc L (.int y :: .int x :: S) s R := by
  intro p e u m args below meth c H locs ls hC hP hD hS hl
  exact lv_iushr hC.1 hC.2.1 d rfl (k p e u m args below meth c H locs ls hC hP hD hS hl)
theorem r_ladd (d : xd M pc (.ladd) 1) {x y : Int64} (k : Rx l g h M (pc + 1) L (.long (x + y) :: S) s R) : Rx l g h M pc L (.long y :: .long x :: S) s R := by
  intro p e u m args below meth c H locs ls hC hP hD hS hl
  exact lv_ladd hC.1 hC.2.1 d (k p e u m args below meth c H locs ls hC hP hD hS hl)
theorem r_lsub (d : xd M pc (.lsub) 1) {x y : Int64} (k : Rx l g h M (pc + 1) L (.long (x - y) :: S) s R) : Rx l g h M pc L (.long y :: .long x :: S) s R := by
  intro p e u m args below meth c H locs ls hC hP hD hS hl
  exact lv_lsub hC.1 hC.2.1 d (k p e u m args below meth c H locs ls hC hP hD hS hl)
theorem r_lmul (d : xd M pc (.lmul) 1) {x y : Int64} (k : Rx l g h M (pc + 1) L (.long (x * y) :: S) s R) : Rx l g h M pc L (.long y :: .long x :: S) s R := by
  intro p e u m args below meth c H locs ls hC hP hD hS hl
  exact lv_lmul hC.1 hC.2.1 d (k p e u m args below meth c H locs ls hC hP hD hS hl)
theorem r_land (d : xd M pc (.land) 1) {x y : Int64} (k : Rx l g h M (pc + 1) L (.long (x &&& y) :: S) s R) : Rx l g h M pc L (.long y :: .long x :: S) s R := by
  intro p e u m args below meth c H locs ls hC hP hD hS hl
  exact lv_land hC.1 hC.2.1 d (k p e u m args below meth c H locs ls hC hP hD hS hl)
theorem r_lor (d : xd M pc (.lor) 1) {x y : Int64} (k : Rx l g h M (pc + 1) L (.long (x ||| y) :: S) s R) : Rx l g h M pc L (.long y :: .long x :: S) s R := by
  intro p e u m args below meth c H locs ls hC hP hD hS hl
  exact lv_lor hC.1 hC.2.1 d (k p e u m args below meth c H locs ls hC hP hD hS hl)
theorem r_lxor (d : xd M pc (.lxor) 1) {x y : Int64} (k : Rx l g h M (pc + 1) L (.long (x ^^^ y) :: S) s R) : Rx l g h M pc L (.long y :: .long x :: S) s R := by
  intro p e u m args below meth c H locs ls hC hP hD hS hl
  exact lv_lxor hC.1 hC.2.1 d (k p e u m args below meth c H locs ls hC hP hD hS hl)
theorem r_lshl (d : xd M pc (.lshl) 1) {x : Int64} {y : Int32} (k : Rx l g h M (pc + 1) L (.long (x <<< (y.toInt64 &&& 63)) :: S) s R) : Rx l g h M pc L (.int y :: .long x :: S) s R := by
  intro p e u m args below meth c H locs ls hC hP hD hS hl
  exact lv_lshl hC.1 hC.2.1 d rfl (k p e u m args below meth c H locs ls hC hP hD hS hl)
theorem r_lshr (d : xd M pc (.lshr) 1) {x : Int64} {y : Int32} (k : Rx l g h M (pc + 1) L (.long (x >>> (y.toInt64 &&& 63)) :: S) s R) : Rx l g h M pc L (.int y :: .long x :: S) s R := by
  intro p e u m args below meth c H locs ls hC hP hD hS hl
  exact lv_lshr hC.1 hC.2.1 d rfl (k p e u m args below meth c H locs ls hC hP hD hS hl)
theorem r_lushr (d : xd M pc (.lushr) 1) {x : Int64} {y : Int32} (k : Rx l g h M (pc + 1) L (.long (xlushr x y) :: S) s R) : Rx l g h M pc L (.int y :: .long x :: S) s R := by
  intro p e u m args below meth c H locs ls hC hP hD hS hl
  exact lv_lushr hC.1 hC.2.1 d rfl (k p e u m args below meth c H locs ls hC hP hD hS hl)
theorem r_idiv (d : xd M pc (.idiv) 1) {x y : Int32} (hy : ¬ y = 0) (k : Rx l g h M (pc + 1) L (.int (x / y) :: S) s R) : Rx l g h M pc L (.int y :: .int x :: S) s R := by
  intro p e u m args below meth c H locs ls hC hP hD hS hl
  exact lv_idiv hC.1 hC.2.1 d hy (k p e u m args below meth c H locs ls hC hP hD hS hl)
theorem r_irem (d : xd M pc (.irem) 1) {x y : Int32} (hy : ¬ y = 0) (k : Rx l g h M (pc + 1) L (.int (x - x / y * y) :: S) s R) : Rx l g h M pc L (.int y :: .int x :: S) s R := by
  intro p e u m args below meth c H locs ls hC hP hD hS hl
  exact lv_irem hC.1 hC.2.1 d hy (k p e u m args below meth c H locs ls hC hP hD hS hl)
theorem r_i2l (d : xd M pc (.i2l) 1) {x : Int32} (k : Rx l g h M (pc + 1) L (.long x.toInt64 :: S) s R) : Rx l g h M pc L (.int x :: S) s R := by
  intro p e u m args below meth c H locs ls hC hP hD hS hl
  exact lv_i2l hC.1 hC.2.1 d rfl (k p e u m args below meth c H locs ls hC hP hD hS hl)
theorem r_l2i (d : xd M pc (.l2i) 1) {x : Int64} (k : Rx l g h M (pc + 1) L (.int x.toInt32 :: S) s R) : Rx l g h M pc L (.long x :: S) s R := by
  intro p e u m args below meth c H locs ls hC hP hD hS hl
  exact lv_l2i hC.1 hC.2.1 d rfl (k p e u m args below meth c H locs ls hC hP hD hS hl)
theorem r_i2c (d : xd M pc (.i2c) 1) {x : Int32} (k : Rx l g h M (pc + 1) L (.int (x.toUInt32 % 65536).toInt32 :: S) s R) : Rx l g h M pc L (.int x :: S) s R := by
  intro p e u m args below meth c H locs ls hC hP hD hS hl
  exact lv_i2c hC.1 hC.2.1 d rfl (k p e u m args below meth c H locs ls hC hP hD hS hl)
theorem r_dup (d : xd M pc (.dup) 1) {v : Value} (hv : v.category = 1) (k : Rx l g h M (pc + 1) L (v :: v :: S) s R) : Rx l g h M pc L (v :: S) s R := by
  intro p e u m args below meth c H locs ls hC hP hD hS hl
  exact lv_dup hC.1 hC.2.1 d hv (k p e u m args below meth c H locs ls hC hP hD hS hl)
theorem r_pop (d : xd M pc (.pop) 1) {v : Value} (hv : v.category = 1) (k : Rx l g h M (pc + 1) L S s R) : Rx l g h M pc L (v :: S) s R := by
  intro p e u m args below meth c H locs ls hC hP hD hS hl
  exact lv_pop hC.1 hC.2.1 d hv (k p e u m args below meth c H locs ls hC hP hD hS hl)
theorem r_dup2 (d : xd M pc (.dup2) 1) {v w : Value} (hv : v.category = 1) (hw : w.category = 1) (k : Rx l g h M (pc + 1) L (v :: w :: v :: w :: S) s R) : Rx l g h M pc L (v :: w :: S) s R := by
  intro p e u m args below meth c H locs ls hC hP hD hS hl
  exact lv_dup2_11 hC.1 hC.2.1 d hv hw (k p e u m args below meth c H locs ls hC hP hD hS hl)
theorem r_goto {off : Int} (d : xd M pc (.goto off) 3) {tgt : Nat} (ht : (pc : Int) + off = (tgt : Int)) (k : Rx l g h M tgt L S s R) : Rx l g h M pc L S s R := by
  intro p e u m args below meth c H locs ls hC hP hD hS hl
  exact lv_goto hC.1 hC.2.1 d ht (k p e u m args below meth c H locs ls hC hP hD hS hl)
theorem r_icmp_eq {off : Int} (d : xd M pc (.if_icmp .eq off) 3) {x y : Int32} {tgt : Nat} (ht : (pc : Int) + off = (tgt : Int)) (kt : x = y → Rx l g h M tgt L S s R) (kf : ¬ (x = y) → Rx l g h M (pc + 3) L S s R) : Rx l g h M pc L (.int y :: .int x :: S) s R := by
  intro p e u m args below meth c H locs ls hC hP hD hS hl
  exact lv_icmp_eq hC.1 hC.2.1 d ht (fun q => kt q p e u m args below meth c H locs ls hC hP hD hS hl) (fun q => kf q p e u m args below meth c H locs ls hC hP hD hS hl)
theorem r_if_eq {off : Int} (d : xd M pc (.ifCond .eq off) 3) {x : Int32} {tgt : Nat} (ht : (pc : Int) + off = (tgt : Int)) (kt : x = 0 → Rx l g h M tgt L S s R) (kf : ¬ (x = 0) → Rx l g h M (pc + 3) L S s R) : Rx l g h M pc L (.int x :: S) s R := by
  intro p e u m args below meth c H locs ls hC hP hD hS hl
  exact lv_if_eq hC.1 hC.2.1 d ht (fun q => kt q p e u m args below meth c H locs ls hC hP hD hS hl) (fun q => kf q p e u m args below meth c H locs ls hC hP hD hS hl)
theorem r_icmp_ne {off : Int} (d : xd M pc (.if_icmp .ne off) 3) {x y : Int32} {tgt : Nat} (ht : (pc : Int) + off = (tgt : Int)) (kt : ¬ x = y → Rx l g h M tgt L S s R) (kf : x = y → Rx l g h M (pc + 3) L S s R) : Rx l g h M pc L (.int y :: .int x :: S) s R := by
  intro p e u m args below meth c H locs ls hC hP hD hS hl
  exact lv_icmp_ne hC.1 hC.2.1 d ht (fun q => kt q p e u m args below meth c H locs ls hC hP hD hS hl) (fun q => kf q p e u m args below meth c H locs ls hC hP hD hS hl)
theorem r_if_ne {off : Int} (d : xd M pc (.ifCond .ne off) 3) {x : Int32} {tgt : Nat} (ht : (pc : Int) + off = (tgt : Int)) (kt : ¬ x = 0 → Rx l g h M tgt L S s R) (kf : x = 0 → Rx l g h M (pc + 3) L S s R) : Rx l g h M pc L (.int x :: S) s R := by
  intro p e u m args below meth c H locs ls hC hP hD hS hl
  exact lv_if_ne hC.1 hC.2.1 d ht (fun q => kt q p e u m args below meth c H locs ls hC hP hD hS hl) (fun q => kf q p e u m args below meth c H locs ls hC hP hD hS hl)
theorem r_icmp_lt {off : Int} (d : xd M pc (.if_icmp .lt off) 3) {x y : Int32} {tgt : Nat} (ht : (pc : Int) + off = (tgt : Int)) (kt : x < y → Rx l g h M tgt L S s R) (kf : ¬ (x < y) → Rx l g h M (pc + 3) L S s R) : Rx l g h M pc L (.int y :: .int x :: S) s R := by
  intro p e u m args below meth c H locs ls hC hP hD hS hl
  exact lv_icmp_lt hC.1 hC.2.1 d ht (fun q => kt q p e u m args below meth c H locs ls hC hP hD hS hl) (fun q => kf q p e u m args below meth c H locs ls hC hP hD hS hl)
theorem r_if_lt {off : Int} (d : xd M pc (.ifCond .lt off) 3) {x : Int32} {tgt : Nat} (ht : (pc : Int) + off = (tgt : Int)) (kt : x < 0 → Rx l g h M tgt L S s R) (kf : ¬ (x < 0) → Rx l g h M (pc + 3) L S s R) : Rx l g h M pc L (.int x :: S) s R := by
  intro p e u m args below meth c H locs ls hC hP hD hS hl
  exact lv_if_lt hC.1 hC.2.1 d ht (fun q => kt q p e u m args below meth c H locs ls hC hP hD hS hl) (fun q => kf q p e u m args below meth c H locs ls hC hP hD hS hl)
theorem r_icmp_ge {off : Int} (d : xd M pc (.if_icmp .ge off) 3) {x y : Int32} {tgt : Nat} (ht : (pc : Int) + off = (tgt : Int)) (kt : y ≤ x → Rx l g h M tgt L S s R) (kf : ¬ (y ≤ x) → Rx l g h M (pc + 3) L S s R) : Rx l g h M pc L (.int y :: .int x :: S) s R := by
  intro p e u m args below meth c H locs ls hC hP hD hS hl
  exact lv_icmp_ge hC.1 hC.2.1 d ht (fun q => kt q p e u m args below meth c H locs ls hC hP hD hS hl) (fun q => kf q p e u m args below meth c H locs ls hC hP hD hS hl)
theorem r_if_ge {off : Int} (d : xd M pc (.ifCond .ge off) 3) {x : Int32} {tgt : Nat} (ht : (pc : Int) + off = (tgt : Int)) (kt : 0 ≤ x → Rx l g h M tgt L S s R) (kf : ¬ (0 ≤ x) → Rx l g h M (pc + 3) L S s R) : Rx l g h M pc L (.int x :: S) s R := by
  intro p e u m args below meth c H locs ls hC hP hD hS hl
  exact lv_if_ge hC.1 hC.2.1 d ht (fun q => kt q p e u m args below meth c H locs ls hC hP hD hS hl) (fun q => kf q p e u m args below meth c H locs ls hC hP hD hS hl)
theorem r_icmp_gt {off : Int} (d : xd M pc (.if_icmp .gt off) 3) {x y : Int32} {tgt : Nat} (ht : (pc : Int) + off = (tgt : Int)) (kt : y < x → Rx l g h M tgt L S s R) (kf : ¬ (y < x) → Rx l g h M (pc + 3) L S s R) : Rx l g h M pc L (.int y :: .int x :: S) s R := by
  intro p e u m args below meth c H locs ls hC hP hD hS hl
  exact lv_icmp_gt hC.1 hC.2.1 d ht (fun q => kt q p e u m args below meth c H locs ls hC hP hD hS hl) (fun q => kf q p e u m args below meth c H locs ls hC hP hD hS hl)
theorem r_if_gt {off : Int} (d : xd M pc (.ifCond .gt off) 3) {x : Int32} {tgt : Nat} (ht : (pc : Int) + off = (tgt : Int)) (kt : 0 < x → Rx l g h M tgt L S s R) (kf : ¬ (0 < x) → Rx l g h M (pc + 3) L S s R) : Rx l g h M pc L (.int x :: S) s R := by
  intro p e u m args below meth c H locs ls hC hP hD hS hl
  exact lv_if_gt hC.1 hC.2.1 d ht (fun q => kt q p e u m args below meth c H locs ls hC hP hD hS hl) (fun q => kf q p e u m args below meth c H locs ls hC hP hD hS hl)
theorem r_icmp_le {off : Int} (d : xd M pc (.if_icmp .le off) 3) {x y : Int32} {tgt : Nat} (ht : (pc : Int) + off = (tgt : Int)) (kt : x ≤ y → Rx l g h M tgt L S s R) (kf : ¬ (x ≤ y) → Rx l g h M (pc + 3) L S s R) : Rx l g h M pc L (.int y :: .int x :: S) s R := by
  intro p e u m args below meth c H locs ls hC hP hD hS hl
  exact lv_icmp_le hC.1 hC.2.1 d ht (fun q => kt q p e u m args below meth c H locs ls hC hP hD hS hl) (fun q => kf q p e u m args below meth c H locs ls hC hP hD hS hl)
theorem r_if_le {off : Int} (d : xd M pc (.ifCond .le off) 3) {x : Int32} {tgt : Nat} (ht : (pc : Int) + off = (tgt : Int)) (kt : x ≤ 0 → Rx l g h M tgt L S s R) (kf : ¬ (x ≤ 0) → Rx l g h M (pc + 3) L S s R) : Rx l g h M pc L (.int x :: S) s R := by
  intro p e u m args below meth c H locs ls hC hP hD hS hl
  exact lv_if_le hC.1 hC.2.1 d ht (fun q => kt q p e u m args below meth c H locs ls hC hP hD hS hl) (fun q => kf q p e u m args below meth c H locs ls hC hP hD hS hl)
theorem r_lcmp_eq {off : Int} (d : xd M pc (.lcmp) 1) (d2 : xd M (pc + 1) (.ifCond .eq off) 3) {x y : Int64} {tgt : Nat} (ht : ((pc + 1 : Nat) : Int) + off = (tgt : Int)) (kt : x = y → Rx l g h M tgt L S s R) (kf : ¬ (x = y) → Rx l g h M (pc + 4) L S s R) : Rx l g h M pc L (.long y :: .long x :: S) s R := by
  intro p e u m args below meth c H locs ls hC hP hD hS hl
  exact W.lcmp hC.1 hC.2.1 d (lv_if_eq hC.1 hC.2.1 d2 ht (fun q => kt ((lg_cmp_eq x y).mp q) p e u m args below meth c H locs ls hC hP hD hS hl) (fun q => kf (fun z => q ((lg_cmp_eq x y).mpr z)) p e u m args below meth c H locs ls hC hP hD hS hl))
theorem r_lcmp_ne {off : Int} (d : xd M pc (.lcmp) 1) (d2 : xd M (pc + 1) (.ifCond .ne off) 3) {x y : Int64} {tgt : Nat} (ht : ((pc + 1 : Nat) : Int) + off = (tgt : Int)) (kt : ¬ x = y → Rx l g h M tgt L S s R) (kf : x = y → Rx l g h M (pc + 4) L S s R) : Rx l g h M pc L (.long y :: .long x :: S) s R := by
  intro p e u m args below meth c H locs ls hC hP hD hS hl
  exact W.lcmp hC.1 hC.2.1 d (lv_if_ne hC.1 hC.2.1 d2 ht (fun q => kt (fun z => q ((lg_cmp_eq x y).mpr z)) p e u m args below meth c H locs ls hC hP hD hS hl) (fun q => kf ((lg_cmp_eq x y).mp q) p e u m args below meth c H locs ls hC hP hD hS hl))
theorem r_lcmp_lt {off : Int} (d : xd M pc (.lcmp) 1) (d2 : xd M (pc + 1) (.ifCond .lt off) 3) {x y : Int64} {tgt : Nat} (ht : ((pc + 1 : Nat) : Int) + off = (tgt : Int)) (kt : x < y → Rx l g h M tgt L S s R) (kf : ¬ (x < y) → Rx l g h M (pc + 4) L S s R) : Rx l g h M pc L (.long y :: .long x :: S) s R := by
  intro p e u m args below meth c H locs ls hC hP hD hS hl
  exact W.lcmp hC.1 hC.2.1 d (lv_if_lt hC.1 hC.2.1 d2 ht (fun q => kt ((lg_cmp_lt x y).mp q) p e u m args below meth c H locs ls hC hP hD hS hl) (fun q => kf (fun z => q ((lg_cmp_lt x y).mpr z)) p e u m args below meth c H locs ls hC hP hD hS hl))
theorem r_lcmp_ge {off : Int} (d : xd M pc (.lcmp) 1) (d2 : xd M (pc + 1) (.ifCond .ge off) 3) {x y : Int64} {tgt : Nat} (ht : ((pc + 1 : Nat) : Int) + off = (tgt : Int)) (kt : y ≤ x → Rx l g h M tgt L S s R) (kf : ¬ (y ≤ x) → Rx l g h M (pc + 4) L S s R) : Rx l g h M pc L (.long y :: .long x :: S) s R := by
  intro p e u m args below meth c H locs ls hC hP hD hS hl
  exact W.lcmp hC.1 hC.2.1 d (lv_if_ge hC.1 hC.2.1 d2 ht (fun q => kt ((lg_cmp_ge x y).mp q) p e u m args below meth c H locs ls hC hP hD hS hl) (fun q => kf (fun z => q ((lg_cmp_ge x y).mpr z)) p e u m args below meth c H locs ls hC hP hD hS hl))
theorem r_lcmp_gt {off : Int} (d : xd M pc (.lcmp) 1) (d2 : xd M (pc + 1) (.ifCond .gt off) 3) {x y : Int64} {tgt : Nat} (ht : ((pc + 1 : Nat) : Int) + off = (tgt : Int)) (kt : y < x → Rx l g h M tgt L S s R) (kf : ¬ (y < x) → Rx l g h M (pc + 4) L S s R) : Rx l g h M pc L (.long y :: .long x :: S) s R := by
  intro p e u m args below meth c H locs ls hC hP hD hS hl
  exact W.lcmp hC.1 hC.2.1 d (lv_if_gt hC.1 hC.2.1 d2 ht (fun q => kt ((lg_cmp_gt x y).mp q) p e u m args below meth c H locs ls hC hP hD hS hl) (fun q => kf (fun z => q ((lg_cmp_gt x y).mpr z)) p e u m args below meth c H locs ls hC hP hD hS hl))
theorem r_lcmp_le {off : Int} (d : xd M pc (.lcmp) 1) (d2 : xd M (pc + 1) (.ifCond .le off) 3) {x y : Int64} {tgt : Nat} (ht : ((pc + 1 : Nat) : Int) + off = (tgt : Int)) (kt : x ≤ y → Rx l g h M tgt L S s R) (kf : ¬ (x ≤ y) → Rx l g h M (pc + 4) L S s R) : Rx l g h M pc L (.long y :: .long x :: S) s R := by
  intro p e u m args below meth c H locs ls hC hP hD hS hl
  exact W.lcmp hC.1 hC.2.1 d (lv_if_le hC.1 hC.2.1 d2 ht (fun q => kt ((lg_cmp_le x y).mp q) p e u m args below meth c H locs ls hC hP hD hS hl) (fun q => kf (fun z => q ((lg_cmp_le x y).mpr z)) p e u m args below meth c H locs ls hC hP hD hS hl))
/-- field k of class ci is what the entry index of the class own links -/
def xF (own : String) (index ci k : Nat) : Prop := ∃ (C : String) (T : u_T) (N : Nat) (ty0 : Nat → FieldType), vwCl[ci]? = some (C, T, N) ∧ k < N ∧ Cond.fieldLink own index (T k).1 (T k).2.1 (T k).2.2.1 ∈ xtb ∧ (∀ w ∈ u_ws C T N, w ∈ xtb) ∧ (∀ k, k < N → parseFieldDescriptor (T k).2.2.1 = some (ty0 k)) ∧ (∀ a, a < N → ∀ b, b < N → a ≠ b → (T a).2.1 ≠ (T b).2.1)
def xFp (ci k : Nat) (ty : FieldType) : Prop := ∀ (C : String) (T : u_T) (N : Nat), vwCl[ci]? = some (C, T, N) → (T k).2.2.2 = false ∧ parseFieldDescriptor (T k).2.2.1 = some ty
theorem r_get {index ci k q0 : Nat} {fs : List Value} {v : Value} {a : Nat} (d : xd M pc (.getfield index) 3) (hf : xF M.2.2.2 index ci k) (he : (xw g s)[q0]? = some (a, .inr (ci, fs))) (hv : fs[k]? = some v) (kk : Rx l g h M (pc + 3) L (v :: S) s R) : Rx l g h M pc L (.ref a :: S) s R := by
  intro p e u m args below meth c H locs ls hC hP hD hS hl
  obtain ⟨C, T, N, ty0, h1, h2, h3, h4, -⟩ := hf
  exact va_get (C := C) (T := T) (N := N) hC.1 hC.2.1 hC.2.2.2.2.2.1 h4 hC.2.2.2.2.1 hC.2.2.2.2.2.2.2.1 hP q0 he h1 k h2 (hC.2.2.2.2.2.1 _ h3) (fun _ q => q) hv d (kk p e u m args below meth c H locs ls hC hP hD hS hl)
theorem r_put {index ci k q0 : Nat} {fs : List Value} {v : Value} {a : Nat} {ty : FieldType} (d : xd M pc (.putfield index) 3) (hf : xF M.2.2.2 index ci k) (hp : xFp ci k ty) (he : (xw g s)[q0]? = some (a, .inr (ci, fs))) (hn : narrow ty v = v) (hfit : fits ty v = true) (hl0 : k < fs.length) (hs : (xw g s).set q0 (a, .inr (ci, fs.set k v)) = xw g s') (kk : Rx l g h M (pc + 3) L S s' R) : Rx l g h M pc L (v :: .ref a :: S) s R := by
  intro p e u m args below meth c H locs ls hC hP hD hS hl
  obtain ⟨C, T, N, ty0, h1, h2, h3, h4, h5, h6⟩ := hf
  exact va_put (C := C) (T := T) (N := N) hC.1 hC.2.1 hC.2.2.2.2.2.1 h4 ty0 h5 h6 hC.2.2.2.2.1 hC.2.2.2.2.2.2.2.1 hP hD hS q0 he h1 k h2 (hC.2.2.2.2.2.1 _ h3) (fun _ q => q) (hp C T N h1).1 (hp C T N h1).2 hn hfit hl0 d (fun H1 locs1 hP1 hD1 hS1 => kk p e u m args below meth c H1 locs1 ls hC (hs ▸ hP1) (hs ▸ hD1) hS1 hl)
theorem r_iald {q0 n a : Nat} {cA : ClassId} {f : Nat → Int32} {i : Int32} (d : xd M pc (.iaload) 1) (ha : (xw g s)[q0]? = some (a, .inl (cA, n, .inl f))) (ht : (xtys g)[0]? = some (cA, .int)) (hin : vp_in i n) (kk : Rx l g h M (pc + 1) L (.int (f i.toNatClampNeg) :: S) s R) : Rx l g h M pc L (.int i :: .ref a :: S) s R := by
  intro p e u m args below meth c H locs ls hC hP hD hS hl
  exact va_iald hC.1 hC.2.1 hC.2.2.2.2.2.2.2.1 hP q0 0 ha ht hin d (kk p e u m args below meth c H locs ls hC hP hD hS hl)
theorem r_zald {q0 n a : Nat} {cA : ClassId} {f : Nat → Int32} {i : Int32} (d : xd M pc (.baload) 1) (ha : (xw g s)[q0]? = some (a, .inl (cA, n, .inl f))) (ht : (xtys g)[2]? = some (cA, .boolean)) (hin : vp_in i n) (kk : Rx l g h M (pc + 1) L (.int (f i.toNatClampNeg) :: S) s R) : Rx l g h M pc L (.int i :: .ref a :: S) s R := by
  intro p e u m args below meth c H locs ls hC hP hD hS hl
  exact va_zald hC.1 hC.2.1 hC.2.2.2.2.2.2.2.1 hP q0 2 ha ht hin d (kk p e u m args below meth c H locs ls hC hP hD hS hl)
theorem r_lald {q0 n a : Nat} {cA : ClassId} {f : Nat → Int64} {i : Int32} (d : xd M pc (.laload) 1) (ha : (xw g s)[q0]? = some (a, .inl (cA, n, .inr (.inl f)))) (ht : (xtys g)[1]? = some (cA, .long)) (hin : vp_in i n) (kk : Rx l g h M (pc + 1) L (.long (f i.toNatClampNeg) :: S) s R) : Rx l g h M pc L (.int i :: .ref a :: S) s R := by
  intro p e u m args below meth c H locs ls hC hP hD hS hl
  exact va_lald hC.1 hC.2.1 hC.2.2.2.2.2.2.2.1 hP q0 1 ha ht hin d (kk p e u m args below meth c H locs ls hC hP hD hS hl)
theorem r_iast {q0 n a : Nat} {cA : ClassId} {f : Nat → Int32} {i : Int32} {x : Int32} (d : xd M pc (.iastore) 1) (ha : (xw g s)[q0]? = some (a, .inl (cA, n, .inl f))) (ht : (xtys g)[0]? = some (cA, .int)) (hin : vp_in i n) (hs : (xw g s).set q0 (a, .inl (cA, n, .inl (upd f i.toNatClampNeg x))) = xw g s') (kk : Rx l g h M (pc + 1) L S s' R) : Rx l g h M pc L (.int x :: .int i :: .ref a :: S) s R := by
  intro p e u m args below meth c H locs ls hC hP hD hS hl
  exact va_iast hC.1 hC.2.1 hC.2.2.2.2.2.2.2.1 hP hD hS q0 0 ha ht hin d (fun H1 locs1 hP1 hD1 hS1 => kk p e u m args below meth c H1 locs1 ls hC (hs ▸ hP1) (hs ▸ hD1) hS1 hl)
theorem r_zast {q0 n a : Nat} {cA : ClassId} {f : Nat → Int32} {i : Int32} {x : Int32} (d : xd M pc (.bastore) 1) (ha : (xw g s)[q0]? = some (a, .inl (cA, n, .inl f))) (ht : (xtys g)[2]? = some (cA, .boolean)) (hin : vp_in i n) (hs : (xw g s).set q0 (a, .inl (cA, n, .inl (upd f i.toNatClampNeg (vp_nar .boolean x)))) = xw g s') (kk : Rx l g h M (pc + 1) L S s' R) : Rx l g h M pc L (.int x :: .int i :: .ref a :: S) s R := by
  intro p e u m args below meth c H locs ls hC hP hD hS hl
  exact va_zast hC.1 hC.2.1 hC.2.2.2.2.2.2.2.1 hP hD hS q0 2 ha ht hin d (fun H1 locs1 hP1 hD1 hS1 => kk p e u m args below meth c H1 locs1 ls hC (hs ▸ hP1) (hs ▸ hD1) hS1 hl)
theorem r_last {q0 n a : Nat} {cA : ClassId} {f : Nat → Int64} {i : Int32} {x : Int64} (d : xd M pc (.lastore) 1) (ha : (xw g s)[q0]? = some (a, .inl (cA, n, .inr (.inl f)))) (ht : (xtys g)[1]? = some (cA, .long)) (hin : vp_in i n) (hs : (xw g s).set q0 (a, .inl (cA, n, .inr (.inl (vp_updL f i.toNatClampNeg x)))) = xw g s') (kk : Rx l g h M (pc + 1) L S s' R) : Rx l g h M pc L (.long x :: .int i :: .ref a :: S) s R := by
  intro p e u m args below meth c H locs ls hC hP hD hS hl
  exact va_last hC.1 hC.2.1 hC.2.2.2.2.2.2.2.1 hP hD hS q0 1 ha ht hin d (fun H1 locs1 hP1 hD1 hS1 => kk p e u m args below meth c H1 locs1 ls hC (hs ▸ hP1) (hs ▸ hD1) hS1 hl)
theorem r_aald {q0 n a b : Nat} {cA : ClassId} {f : Nat → Option Nat} {i : Int32} (d : xd M pc (.aaload) 1) (ha : (xw g s)[q0]? = some (a, .inl (cA, n, .inr (.inr (.inr (.inr f)))))) (ht : (xtys g)[3]? = some (cA, .object RX3)) (hin : vp_in i n) (hb : f i.toNatClampNeg = some b) (kk : Rx l g h M (pc + 1) L (.ref b :: S) s R) : Rx l g h M pc L (.int i :: .ref a :: S) s R := by
  intro p e u m args below meth c H locs ls hC hP hD hS hl
  exact va_aldq hC.1 hC.2.1 hC.2.2.2.2.2.2.2.1 hP q0 3 ha ht hin d (by rw [hb]; exact kk p e u m args below meth c H locs ls hC hP hD hS hl)
theorem r_alen {q0 a t0 : Nat} {cA : ClassId} {x : vp_A} {ty : FieldType} {v : Int32} (d : xd M pc (.arraylength) 1) (ha : (xw g s)[q0]? = some (a, .inl (cA, x))) (ht : (xtys g)[t0]? = some (cA, ty)) (hv : Int32.ofNat x.1 = v) (kk : Rx l g h M (pc + 1) L (.int v :: S) s R) : Rx l g h M pc L (.ref a :: S) s R := by
  intro p e u m args below meth c H locs ls hC hP hD hS hl
  exact va_alen hC.1 hC.2.1 hC.2.2.2.2.2.2.2.1 hP q0 t0 ha ht hv d (kk p e u m args below meth c H locs ls hC hP hD hS hl)
theorem r_iret {v : Int32} (d : xd M pc (.ireturn) 1) (hr : M.2.2.1 = some .int) (hR : (some (.int v), s) = R) : Rx l g h M pc L [.int v] s R := by
  intro p e u m args below meth c H locs ls hC hP hD hS hl
  subst hR
  exact W.iret hC.1 hC.2.1 (hC.2.2.2.1.trans hr) (fun t ht _ => ⟨⟨rfl, by rw [ht]; exact hP⟩, hS.F ht⟩) hS.2.2 d hC.2.2.2.2.2.2.1
theorem r_zret {v : Int32} {ty : FieldType} (d : xd M pc (.ireturn) 1) (hr : M.2.2.1 = some ty) (hn : narrow ty (.int v) = .int v) (hR : (some (.int v), s) = R) : Rx l g h M pc L [.int v] s R := by
  intro p e u m args below meth c H locs ls hC hP hD hS hl
  subst hR
  exact W.zret hC.1 hC.2.1 (hC.2.2.2.1.trans hr) hn (fun t ht _ => ⟨⟨rfl, by rw [ht]; exact hP⟩, hS.F ht⟩) hS.2.2 d hC.2.2.2.2.2.2.1
theorem r_lret {v : Int64} (d : xd M pc (.lreturn) 1) (hr : M.2.2.1 = some .long) (hR : (some (.long v), s) = R) : Rx l g h M pc L [.long v] s R := by
  intro p e u m args below meth c H locs ls hC hP hD hS hl
  subst hR
  exact W.lret hC.1 hC.2.1 (hC.2.2.2.1.trans hr) (fun t ht _ => ⟨⟨rfl, by rw [ht]; exact hP⟩, hS.F ht⟩) hS.2.2 d hC.2.2.2.2.2.2.1
theorem r_vret (d : xd M pc (.return_) 1) (hr : M.2.2.1 = none) (hR : ((none : Option Value), s) = R) : Rx l g h M pc L [] s R := by
  intro p e u m args below meth c H locs ls hC hP hD hS hl
  subst hR
  exact W.vret hC.1 hC.2.1 (hC.2.2.2.1.trans hr) (fun t ht _ => ⟨⟨rfl, by rw [ht]; exact hP⟩, hS.F ht⟩) hS.2.2 d hC.2.2.2.2.2.2.1
theorem r_tsIn {dflt lo hi off : Int} {offs : Array Int} {len tgt : Nat} {x : Int32} (d : xd M pc (.tableswitch dflt lo hi offs) len) (h1 : ¬ x.toInt < lo) (h2 : ¬ hi < x.toInt) (ho : offs[(x.toInt - lo).toNat]? = some off) (ht : (pc : Int) + off = (tgt : Int)) (kk : Rx l g h M tgt L S s R) : Rx l g h M pc L (.int x :: S) s R := by
  intro p e u m args below meth c H locs ls hC hP hD hS hl
  exact lv_tableIn hC.1 hC.2.1 d h1 h2 ho ht (kk p e u m args below meth c H locs ls hC hP hD hS hl)
theorem r_tsOut {dflt lo hi : Int} {offs : Array Int} {len tgt : Nat} {x : Int32} (d : xd M pc (.tableswitch dflt lo hi offs) len) (hx : x.toInt < lo ∨ hi < x.toInt) (ht : (pc : Int) + dflt = (tgt : Int)) (kk : Rx l g h M tgt L S s R) : Rx l g h M pc L (.int x :: S) s R := by
  intro p e u m args below meth c H locs ls hC hP hD hS hl
  exact lv_tableOut hC.1 hC.2.1 d hx ht (kk p e u m args below meth c H locs ls hC hP hD hS hl)
theorem r_lks {dflt off : Int} {ps : Array (Int × Int)} {len tgt : Nat} {x : Int32} (d : xd M pc (.lookupswitch dflt ps) len) (hp : (ps.toList.zip (ps.toList.drop 1)).all (fun (a, next) => a.1 < next.1) = true) (ho : Op.lookupswitch.offset ps.toList dflt x.toInt = off) (ht : (pc : Int) + off = (tgt : Int)) (kk : Rx l g h M tgt L S s R) : Rx l g h M pc L (.int x :: S) s R := by
  intro p e u m args below meth c H locs ls hC hP hD hS hl
  exact lv_lookup hC.1 hC.2.1 d hp ho ht (kk p e u m args below meth c H locs ls hC hP hD hS hl)
end RX
