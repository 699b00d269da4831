/-! a judgement with any world, any room and any end: for constructors and the law -/
def xCv (p : Program) (g : xG) (A : Nat → Prop) (M : xM) (u : State) (m : MethodId) (args : Array Value) (meth : Method) (c : Code) : Prop :=
  p.tables.exec = Jvm.exec ∧ c.code = M.1 ∧ c.maxLocals = M.2.1 ∧ meth.sig.returnType = M.2.2.1 ∧ u.vm.findClass M.2.2.2 = some m.cls ∧ (∀ w ∈ xtb, w.before args u = true) ∧ meth.locks = false ∧ va_K (xD g) vwCl (xtys g) u ∧ xStr g A u u.heap
def Rv (p : Program) (l : Launch) (e : Env) (Rm : Room) (u : State) (m : MethodId) (args : Array Value) (below : List Frame) (meth : Method) (c : Code) (g : xG) (A : Nat → Prop) (Q : State → Prop) (M : xM) (pc : Nat) (L : List (Option Value)) (S : List Value) (ws : va_W) (nc ns : Nat) : Prop :=
  ∀ (H : Heap) (locs : List Loc) (ls : Array Slot), va_P (xD g) vwCl ws H → va_D A ws → va_S A u.heap H locs → xlv ls M.2.1 L → W p l e Rm u m args below meth c H locs nc ns Q (F0 m pc ls S)
def xnest : List Cond := [.methodLinkNest "PodMarks" 11 ⟨"PodMarks$Island", "<init>", "()V"⟩ "PodMarks", .methodLinkNest "PodMarks" 22 ⟨"PodMarks$MarkList", "<init>", "()V"⟩ "PodMarks", .methodLinkNest "PodMarks" 36 ⟨"PodMarks$Text", "<init>", "()V"⟩ "PodMarks", .methodLinkNest "PodMarks" 43 ⟨"PodMarks$Rule", "<init>", "()V"⟩ "PodMarks", .methodLinkNest "PodMarks" 50 ⟨"PodMarks$Largest", "<init>", "()V"⟩ "PodMarks", .methodLinkNest "PodMarks" 57 ⟨"PodMarks$Covers", "<init>", "()V"⟩ "PodMarks"]
def xQw (g : xG) (F : va_W → Prop) (A : Nat → Prop) : Array Value → State → Outcome → State → Prop := va_Qv F (fun w t => va_P (xD g) vwCl w t.heap ∧ va_D A w) A
abbrev xPw (g : xG) (w0 : va_W) (sz : Nat) : State → Prop := fun U => U.heap.size = sz ∧ va_P (xD g) vwCl w0 U.heap ∧ va_K (xD g) vwCl (xtys g) U ∧ va_D (fun _ => True) w0 ∧ xStr g (va_A w0 sz) U U.heap ∧ (∀ w ∈ xnest, va_Nw w U) ∧ va_AO RX3 U
def Cw (l : Launch) (g : xG) (Rm : Room) (y : MethodName) (M : xM) (av : List Value) (w0 : va_W) (mc ms : Nat) (F : va_W → Prop) : Prop :=
  ∀ sz : Nat, Met l y (.code y M.1 M.2.1 M.2.2.1 :: xtb) Rm (va_Pc av (xPw g w0 sz)) (xQw g F (va_A w0 sz)) mc ms (va_A w0 sz)
theorem xw_blind {g : xG} {av : List Value} {w0 : va_W} {sz : Nat} : FrameBlind (va_Pc av (xPw g w0 sz)) := by
  intro a U gg mk q
  obtain ⟨q0, q1, q2, q3, q4, q5, q6, q7⟩ := q
  refine ⟨q0, q1, q2, va_K.moved (u := U) (U := U.calling gg mk a) (Vm.Alike.refl U.vm) q3, q4, q5.same rfl, fun w hw => ?_, va_AO.moved (u := U) (U := U.calling gg mk a) (Vm.Alike.refl U.vm) q7⟩
  have h1 := q6 w hw
  simp only [xnest, List.mem_cons, List.not_mem_nil, or_false] at hw
  rcases hw with rfl | rfl | rfl | rfl | rfl | rfl <;> exact va_Nw.same rfl rfl h1
theorem xnest_warm {s U : State} (hW : s.WarmedH U.vm) (h : ∀ w ∈ xnest, va_Nw w s) : ∀ w ∈ xnest, va_Nw w U := by
  intro w hw
  have h1 := h w hw
  simp only [xnest, List.mem_cons, List.not_mem_nil, or_false] at hw
  rcases hw with rfl | rfl | rfl | rfl | rfl | rfl <;> exact va_Nw.warmM hW h1
theorem xw_pre {g : xG} {av : List Value} {wc : va_W} {u U : State} {H : Heap} {A : Nat → Prop} {locs : List Loc} (hK : va_K (xD g) vwCl (xtys g) u) (hX : xStr g A u u.heap) (hN : ∀ w ∈ xnest, va_Nw w u) (hAO : va_AO RX3 u) (hP : va_P (xD g) vwCl wc H) (hD : va_D A wc) (hS : va_S A u.heap H locs) (hF : ∀ q, va_A wc H.size q → A q) (hU : U.heap = H) (hW : u.WarmedH U.vm) : va_Pc av (xPw g wc H.size) av.toArray U := by
  refine ⟨rfl, by rw [hU], by rw [hU]; exact hP, va_K.moved hW.alike hK, hD.weaken (fun _ _ _ _ => trivial), ?_, xnest_warm hW hN, va_AO.moved hW.alike hAO⟩
  rw [hU]
  exact hX.go hW hS.2.1 hF
theorem Cw.of {l : Launch} {g : xG} {Rm : Room} {y : MethodName} {M : xM} {av : List Value} {w0 : va_W} {mc ms : Nat} {F : va_W → Prop} {L0 : List (Option Value)} (n : Nat) (hy : plainName y.cls = true) (hc : y.cls = M.2.2.2) (hlen : (lg_sl av).length ≤ M.2.1) (hL : xin0 av ++ List.replicate n none = L0)
    (k : ∀ (p : Program) (e : Env) (u : State) (m : MethodId) (args : Array Value) (below : List Frame) (meth : Method) (c : Code) (A : Nat → Prop), xCv p g A M u m args meth c → meth.name = y.name → (∀ q, u.heap.size ≤ q → A q) → (∀ w ∈ xnest, va_Nw w u) → va_AO RX3 u → Rv p l e Rm u m args below meth c g A (MQ below (xQw g F A) args u mc ms A) M 0 L0 [] w0 0 0) : Cw l g Rm y M av w0 mc ms F := by
  intro sz
  refine Met.ofW (cc := M.1) (maxL := M.2.1) (ret := M.2.2.1) hy rfl ?_
  intro p e u m args below meth c s₁ B hml hv
  obtain ⟨rfl, hsz, hP, hK, hD, hX, hN, hAO⟩ := hv
  subst hsz
  have hts := atoms_spec (ws := .code y M.1 M.2.1 M.2.2.1 :: xtb) B.pre
  have hown : u.vm.findClass y.cls = some m.cls := findClass_of_methodNamed B.named
  have hin : meth.name = y.name := (name_of_methodNamed B.named B.method).1
  rw [lg_entry_eq]
  have he := lv_entry av (n := M.2.1) hlen
  refine k p e u m _ below meth c (va_A w0 u.heap.size) ⟨B.exec, B.bytes, hml, B.returns, hc ▸ hown, fun w hw => hts w (List.mem_cons_of_mem _ hw), B.notSynchronized, hK, hX⟩ hin (fun q hq => Or.inr hq) hN hAO u.heap [] _ hP hD.self va_S.rf ⟨he.1, he.2.1, fun i v hi => ?_⟩
  have hm := xin0_mem n av 0 i v (by rw [hL]; exact hi)
  rw [Nat.zero_add] at hm
  exact he.2.2 _ hm
theorem x_RAu {U : State} {c1 c2 : ClassId} {ty : FieldType} (h1 : va_RA U c1 ty) (h2 : va_RA U c2 ty) (hty : ∀ C, ty ≠ .object C) : c1 = c2 := by
  cases ty with
  | object C => exact absurd rfl (hty C)
  | _ => exact Option.some.inj ((show _ = some c1 from h1).symm.trans (show _ = some c2 from h2))
theorem x_RAo {U : State} {c1 c2 : ClassId} {C : String} (h1 : va_RA U c1 (.object C)) (h2 : va_RA U c2 (.object C)) : c1 = c2 := by
  obtain ⟨_, _, _, _, _, a⟩ := h1
  obtain ⟨_, _, _, _, _, b⟩ := h2
  exact Option.some.inj (a.symm.trans b)
section RV
variable {p : Program} {l : Launch} {e : Env} {Rm : Room} {u : State} {m : MethodId} {args : Array Value} {below : List Frame} {meth : Method} {c : Code} {g : xG} {A : Nat → Prop} {Q : State → Prop} {M : xM} {pc : Nat} {L L' : List (Option Value)} {S : List Value} {ws ws' : va_W} {nc ns : Nat}
theorem v_iconst {n : Int} (hC : xCv p g A M u m args meth c) (d : xd M pc (.iconst n) 1) {v : Int32} (hv : Int32.ofInt n = v) (k : Rv p l e Rm u m args below meth c g A Q M (pc + 1) L (.int v :: S) ws nc ns) : Rv p l e Rm u m args below meth c g A Q M pc L S ws nc ns := by
  intro H locs ls hP hD hS hl
  exact lv_iconst hC.1 hC.2.1 d hv (k H locs ls hP hD hS hl)
theorem v_bipush {n : Int} (hC : xCv p g A M u m args meth c) (d : xd M pc (.bipush n) 2) {v : Int32} (hv : (Int8.ofInt n).toInt32 = v) (k : Rv p l e Rm u m args below meth c g A Q M (pc + 2) L (.int v :: S) ws nc ns) : Rv p l e Rm u m args below meth c g A Q M pc L S ws nc ns := by
  intro H locs ls hP hD hS hl
  exact lv_bipush hC.1 hC.2.1 d hv (k H locs ls hP hD hS hl)
theorem v_sipush {n : Int} (hC : xCv p g A M u m args meth c) (d : xd M pc (.sipush n) 3) {v : Int32} (hv : (Int16.ofInt n).toInt32 = v) (k : Rv p l e Rm u m args below meth c g A Q M (pc + 3) L (.int v :: S) ws nc ns) : Rv p l e Rm u m args below meth c g A Q M pc L S ws nc ns := by
  intro H locs ls hP hD hS hl
  exact lv_sipush hC.1 hC.2.1 d hv (k H locs ls hP hD hS hl)
theorem v_lconst {n : Fin 2} (hC : xCv p g A M u m args meth c) (d : xd M pc (.lconst n) 1) {v : Int64} (hv : Int64.ofNat (n : Nat) = v) (k : Rv p l e Rm u m args below meth c g A Q M (pc + 1) L (.long v :: S) ws nc ns) : Rv p l e Rm u m args below meth c g A Q M pc L S ws nc ns := by
  intro H locs ls hP hD hS hl
  exact lv_lconst hC.1 hC.2.1 d hv (k H locs ls hP hD hS hl)
theorem v_ldc2 {index : Nat} (hC : xCv p g A M u m args meth c) (d : xd M pc (.ldc2_w index) 3) {v : Int64} (hw : Cond.constantLong M.2.2.2 index v ∈ xtb) (k : Rv p l e Rm u m args below meth c g A Q M (pc + 3) L (.long v :: S) ws nc ns) : Rv p l e Rm u m args below meth c g A Q M pc L S ws nc ns := by
  intro H locs ls hP hD hS hl
  exact lv_ldc2 hC.1 hC.2.1 hC.2.2.2.2.1 (hC.2.2.2.2.2.1 _ hw) d (k H locs ls hP hD hS hl)
theorem v_ldc {index : Nat} (hC : xCv p g A M u m args meth c) (d : xd M pc (.ldc index) 2) {v : Int32} (hw : Cond.constant M.2.2.2 index v ∈ xtb) (k : Rv p l e Rm u m args below meth c g A Q M (pc + 2) L (.int v :: S) ws nc ns) : Rv p l e Rm u m args below meth c g A Q M pc L S ws nc ns := by
  intro H locs ls hP hD hS hl
  exact lv_ldc hC.1 hC.2.1 hC.2.2.2.2.1 (hC.2.2.2.2.2.1 _ hw) d (k H locs ls hP hD hS hl)
theorem v_ldcw {index : Nat} (hC : xCv p g A M u m args meth c) (d : xd M pc (.ldc_w index) 3) {v : Int32} (hw : Cond.constant M.2.2.2 index v ∈ xtb) (k : Rv p l e Rm u m args below meth c g A Q M (pc + 3) L (.int v :: S) ws nc ns) : Rv p l e Rm u m args below meth c g A Q M pc L S ws nc ns := by
  intro H locs ls hP hD hS hl
  exact lv_ldcw hC.1 hC.2.1 hC.2.2.2.2.1 (hC.2.2.2.2.2.1 _ hw) d (k H locs ls hP hD hS hl)
theorem v_iload_n {n : Fin 4} (hC : xCv p g A M u m args meth c) (d : xd M pc (.iload_n n) 1) {i : Nat} {x : Int32} (hi : (n : Nat) = i) (hv : L[i]? = some (some (.int x))) (k : Rv p l e Rm u m args below meth c g A Q M (pc + 1) L (.int x :: S) ws nc ns) : Rv p l e Rm u m args below meth c g A Q M pc L S ws nc ns := by
  intro H locs ls hP hD hS hl
  exact lv_iload_n hC.1 hC.2.1 d hi (hl.2.2 _ _ hv) (k H locs ls hP hD hS hl)
theorem v_iload {i : Nat} (hC : xCv p g A M u m args meth c) (d : xd M pc (.iload i) 2) {x : Int32} (hv : L[i]? = some (some (.int x))) (k : Rv p l e Rm u m args below meth c g A Q M (pc + 2) L (.int x :: S) ws nc ns) : Rv p l e Rm u m args below meth c g A Q M pc L S ws nc ns := by
  intro H locs ls hP hD hS hl
  exact lv_iload hC.1 hC.2.1 d (hl.2.2 _ _ hv) (k H locs ls hP hD hS hl)
theorem v_lload_n {n : Fin 4} (hC : xCv p g A M u m args meth c) (d : xd M pc (.lload_n n) 1) {i : Nat} {x : Int64} (hi : (n : Nat) = i) (hv : L[i]? = some (some (.long x))) (k : Rv p l e Rm u m args below meth c g A Q M (pc + 1) L (.long x :: S) ws nc ns) : Rv p l e Rm u m args below meth c g A Q M pc L S ws nc ns := by
  intro H locs ls hP hD hS hl
  exact lv_lload_n hC.1 hC.2.1 d hi (hl.2.2 _ _ hv) (k H locs ls hP hD hS hl)
theorem v_lload {i : Nat} (hC : xCv p g A M u m args meth c) (d : xd M pc (.lload i) 2) {x : Int64} (hv : L[i]? = some (some (.long x))) (k : Rv p l e Rm u m args below meth c g A Q M (pc + 2) L (.long x :: S) ws nc ns) : Rv p l e Rm u m args below meth c g A Q M pc L S ws nc ns := by
  intro H locs ls hP hD hS hl
  exact lv_lload hC.1 hC.2.1 d (hl.2.2 _ _ hv) (k H locs ls hP hD hS hl)
theorem v_aload_n {n : Fin 4} (hC : xCv p g A M u m args meth c) (d : xd M pc (.aload_n n) 1) {i : Nat} {x : Nat} (hi : (n : Nat) = i) (hv : L[i]? = some (some (.ref x))) (k : Rv p l e Rm u m args below meth c g A Q M (pc + 1) L (.ref x :: S) ws nc ns) : Rv p l e Rm u m args below meth c g A Q M pc L S ws nc ns := by
  intro H locs ls hP hD hS hl
  exact lv_aload_n hC.1 hC.2.1 d hi (hl.2.2 _ _ hv) (k H locs ls hP hD hS hl)
theorem v_aload {i : Nat} (hC : xCv p g A M u m args meth c) (d : xd M pc (.aload i) 2) {x : Nat} (hv : L[i]? = some (some (.ref x))) (k : Rv p l e Rm u m args below meth c g A Q M (pc + 2) L (.ref x :: S) ws nc ns) : Rv p l e Rm u m args below meth c g A Q M pc L S ws nc ns := by
  intro H locs ls hP hD hS hl
  exact lv_aload hC.1 hC.2.1 d (hl.2.2 _ _ hv) (k H locs ls hP hD hS hl)
theorem v_istore_n {n : Fin 4} (hC : xCv p g A M u m args meth c) (d : xd M pc (.istore_n n) 1) {i : Nat} {x : Int32} (hi : (n : Nat) = i) (hn : i < M.2.1) (hk : xk1 L i = true) (hL : L.set i (some (.int x)) = L') (k : Rv p l e Rm u m args below meth c g A Q M (pc + 1) L' S ws nc ns) : Rv p l e Rm u m args below meth c g A Q M pc L (.int x :: S) ws nc ns := by
  intro H locs ls hP hD hS hl
  exact lv_istore_n hC.1 hC.2.1 d hi (xlv_has hl) hn rfl (fun ls' hl' => k H locs ls' hP hD hS (hL ▸ xlv_set1 hk hl'))
theorem v_istore {i : Nat} (hC : xCv p g A M u m args meth c) (d : xd M pc (.istore i) 2) {x : Int32} (hn : i < M.2.1) (hk : xk1 L i = true) (hL : L.set i (some (.int x)) = L') (k : Rv p l e Rm u m args below meth c g A Q M (pc + 2) L' S ws nc ns) : Rv p l e Rm u m args below meth c g A Q M pc L (.int x :: S) ws nc ns := by
  intro H locs ls hP hD hS hl
  exact lv_istore hC.1 hC.2.1 d (xlv_has hl) hn rfl (fun ls' hl' => k H locs ls' hP hD hS (hL ▸ xlv_set1 hk hl'))
theorem v_astore_n {n : Fin 4} (hC : xCv p g A M u m args meth c) (d : xd M pc (.astore_n n) 1) {i : Nat} {x : Nat} (hi : (n : Nat) = i) (hn : i < M.2.1) (hk : xk1 L i = true) (hL : L.set i (some (.ref x)) = L') (k : Rv p l e Rm u m args below meth c g A Q M (pc + 1) L' S ws nc ns) : Rv p l e Rm u m args below meth c g A Q M pc L (.ref x :: S) ws nc ns := by
  intro H locs ls hP hD hS hl
  exact lv_astore_n hC.1 hC.2.1 d hi (xlv_has hl) hn rfl (fun ls' hl' => k H locs ls' hP hD hS (hL ▸ xlv_set1 hk hl'))
theorem v_astore {i : Nat} (hC : xCv p g A M u m args meth c) (d : xd M pc (.astore i) 2) {x : Nat} (hn : i < M.2.1) (hk : xk1 L i = true) (hL : L.set i (some (.ref x)) = L') (k : Rv p l e Rm u m args below meth c g A Q M (pc + 2) L' S ws nc ns) : Rv p l e Rm u m args below meth c g A Q M pc L (.ref x :: S) ws nc ns := by
  intro H locs ls hP hD hS hl
  exact lv_astore hC.1 hC.2.1 d (xlv_has hl) hn rfl (fun ls' hl' => k H locs ls' hP hD hS (hL ▸ xlv_set1 hk hl'))
theorem v_lstore_n {n : Fin 4} (hC : xCv p g A M u m args meth c) (d : xd M pc (.lstore_n n) 1) {i : Nat} {x : Int64} (hi : (n : Nat) = i) (hn : i + 1 < M.2.1) (hk : xk1 L i = true) (hL : (L.set i (some (.long x))).set (i + 1) none = L') (k : Rv p l e Rm u m args below meth c g A Q M (pc + 1) L' S ws nc ns) : Rv p l e Rm u m args below meth c g A Q M pc L (.long x :: S) ws nc ns := by
  intro H locs ls hP hD hS hl
  exact lv_lstore_n hC.1 hC.2.1 d hi (xlv_has hl) hn rfl (fun ls' hl' => k H locs ls' hP hD hS (hL ▸ xlv_set2 hk hl'))
theorem v_lstore {i : Nat} (hC : xCv p g A M u m args meth c) (d : xd M pc (.lstore i) 2) {x : Int64} (hn : i + 1 < M.2.1) (hk : xk1 L i = true) (hL : (L.set i (some (.long x))).set (i + 1) none = L') (k : Rv p l e Rm u m args below meth c g A Q M (pc + 2) L' S ws nc ns) : Rv p l e Rm u m args below meth c g A Q M pc L (.long x :: S) ws nc ns := by
  intro H locs ls hP hD hS hl
  exact lv_lstore hC.1 hC.2.1 d (xlv_has hl) hn rfl (fun ls' hl' => k H locs ls' hP hD hS (hL ▸ xlv_set2 hk hl'))
theorem v_iinc {i : Nat} {n : Int} (hC : xCv p g A M u m args meth c) (d : xd M pc (.iinc i n) 3) {x v : Int32} (hx : L[i]? = some (some (.int x))) (hv : x + Int32.ofInt n = v) (hn : i < M.2.1) (hk : xk1 L i = true) (hL : L.set i (some (.int v)) = L') (k : Rv p l e Rm u m args below meth c g A Q M (pc + 3) L' S ws nc ns) : Rv p l e Rm u m args below meth c g A Q M pc L S ws nc ns := by
  intro H locs ls hP hD hS hl
  obtain ⟨q, hq⟩ := List.getElem?_of_mem (xl_mem hx)
  exact lv_iinc hC.1 hC.2.1 d (xlv_has hl) hq hv hn rfl (fun ls' hl' => k H locs ls' hP hD hS (hL ▸ xlv_set1 hk hl'))
theorem v_iadd (hC : xCv p g A M u m args meth c) (d : xd M pc (.iadd) 1) {x y : Int32} (k : Rv p l e Rm u m args below meth c g A Q M (pc + 1) L (.int (x + y) :: S) ws nc ns) : Rv p l e Rm u m args below meth c g A Q M pc L (.int y :: .int x :: S) ws nc ns := by
  intro H locs ls hP hD hS hl
  exact lv_iadd hC.1 hC.2.1 d (k H locs ls hP hD hS hl)
theorem v_isub (hC : xCv p g A M u m args meth c) (d : xd M pc (.isub) 1) {x y : Int32} (k : Rv p l e Rm u m args below meth c g A Q M (pc + 1) L (.int (x - y) :: S) ws nc ns) : Rv p l e Rm u m args below meth c g A Q M pc L (.int y :: .int x :: S) ws nc ns := by
  intro H locs ls hP hD hS hl
  exact lv_isub hC.1 hC.2.1 d (k H locs ls hP hD hS hl)
theorem v_imul (hC : xCv p g A M u m args meth c) (d : xd M pc (.imul) 1) {x y : Int32} (k : Rv p l e Rm u m args below meth c g A Q M (pc + 1) L (.int (x * y) :: S) ws nc ns) : Rv p l e Rm u m args below meth c g A Q M pc L (.int y :: .int x :: S) ws nc ns := by
  intro H locs ls hP hD hS hl
  exact lv_imul hC.1 hC.2.1 d (k H locs ls hP hD hS hl)
theorem v_iand (hC : xCv p g A M u m args meth c) (d : xd M pc (.iand) 1) {x y : Int32} (k : Rv p l e Rm u m args below meth c g A Q M (pc + 1) L (.int (x &&& y) :: S) ws nc ns) : Rv p l e Rm u m args below meth c g A Q M pc L (.int y :: .int x :: S) ws nc ns := by
  intro H locs ls hP hD hS hl
  exact lv_iand hC.1 hC.2.1 d (k H locs ls hP hD hS hl)
theorem v_ior (hC : xCv p g A M u m args meth c) (d : xd M pc (.ior) 1) {x y : Int32} (k : Rv p l e Rm u m args below meth c g A Q M (pc + 1) L (.int (x ||| y) :: S) ws nc ns) : Rv p l e Rm u m args below meth c g A Q M pc L (.int y :: .int x :: S) ws nc ns := by
  intro H locs ls hP hD hS hl
  exact lv_ior hC.1 hC.2.1 d (k H locs ls hP hD hS hl)
theorem v_ixor (hC : xCv p g A M u m args meth c) (d : xd M pc (.ixor) 1) {x y : Int32} (k : Rv p l e Rm u m args below meth c g A Q M (pc + 1) L (.int (x ^^^ y) :: S) ws nc ns) : Rv p l e Rm u m args below meth c g A Q M pc L (.int y :: .int x :: S) ws nc ns := by
  intro H locs ls hP hD hS hl
  exact lv_ixor hC.1 hC.2.1 d (k H locs ls hP hD hS hl)
theorem v_ishl (hC : xCv p g A M u m args meth c) (d : xd M pc (.ishl) 1) {x y : Int32} (k : Rv p l e Rm u m args below meth c g A Q M (pc + 1) L (.int (x <<< (y &&& 31)) :: S) ws nc ns) : Rv p l e Rm u m args below meth c g A Q M pc L (.int y :: .int x :: S) ws nc ns := by
  intro H locs ls hP hD hS hl
  exact lv_ishl hC.1 hC.2.1 d (k H locs ls hP hD hS hl)
theorem v_ishr (hC : xCv p g A M u m args meth c) (d : xd M pc (.ishr) 1) {x y : Int32} (k : Rv p l e Rm u m args below meth c g A Q M (pc + 1) L (.int (x >>> (y &&& 31)) :: S) ws nc ns) : Rv p l e Rm u m args below meth c g A Q M pc L (.int y :: .int x :: S) ws nc ns := by
  intro H locs ls hP hD hS hl
  exact lv_ishr hC.1 hC.2.1 d (k H locs ls hP hD hS hl)
theorem v_iushr (hC : xCv p g A M u m args meth c) (d : xd M pc (.iushr) 1) {x y : Int32} (k : Rv p l e Rm u m args below meth c g A Q M (pc + 1) L (.int (xushr x y) :: S) ws nc ns) : Rv p l e Rm u m args below meth c g A Q M pc L (.int y :: .int x :: S) ws nc ns := by
  intro H locs ls hP hD hS hl
  exact lv_iushr hC.1 hC.2.1 d rfl (k H locs ls hP hD hS hl)
theorem v_ladd (hC : xCv p g A M u m args meth c) (d : xd M pc (.ladd) 1) {x y : Int64} (k : Rv p l e Rm u m args below meth c g A Q M (pc + 1) L (.long (x + y) :: S) ws nc ns) : Rv p l e Rm u m args below meth c g A Q M pc L (.long y :: .long x :: S) ws nc ns := by
  intro H locs ls hP hD hS hl
  exact lv_ladd hC.1 hC.2.1 d (k H locs ls hP hD hS hl)
theorem v_lsub (hC : xCv p g A M u m args meth c) (d : xd M pc (.lsub) 1) {x y : Int64} (k : Rv p l e Rm u m args below meth c g A Q M (pc + 1) L (.long (x - y) :: S) ws nc ns) : Rv p l e Rm u m args below meth c g A Q M pc L (.long y :: .long x :: S) ws nc ns := by
  intro H locs ls hP hD hS hl
  exact lv_lsub hC.1 hC.2.1 d (k H locs ls hP hD hS hl)
theorem v_lmul (hC : xCv p g A M u m args meth c) (d : xd M pc (.lmul) 1) {x y : Int64} (k : Rv p l e Rm u m args below meth c g A Q M (pc + 1) L (.long (x * y) :: S) ws nc ns) : Rv p l e Rm u m args below meth c g A Q M pc L (.long y :: .long x :: S) ws nc ns := by
  intro H locs ls hP hD hS hl
  exact lv_lmul hC.1 hC.2.1 d (k H locs ls hP hD hS hl)
theorem v_land (hC : xCv p g A M u m args meth c) (d : xd M pc (.land) 1) {x y : Int64} (k : Rv p l e Rm u m args below meth c g A Q M (pc + 1) L (.long (x &&& y) :: S) ws nc ns) : Rv p l e Rm u m args below meth c g A Q M pc L (.long y :: .long x :: S) ws nc ns := by
  intro H locs ls hP hD hS hl
  exact lv_land hC.1 hC.2.1 d (k H locs ls hP hD hS hl)
theorem v_lor (hC : xCv p g A M u m args meth c) (d : xd M pc (.lor) 1) {x y : Int64} (k : Rv p l e Rm u m args below meth c g A Q M (pc + 1) L (.long (x ||| y) :: S) ws nc ns) : Rv p l e Rm u m args below meth c g A Q M pc L (.long y :: .long x :: S) ws nc ns := by
  intro H locs ls hP hD hS hl
  exact lv_lor hC.1 hC.2.1 d (k H locs ls hP hD hS hl)
theorem v_lxor (hC : xCv p g A M u m args meth c) (d : xd M pc (.lxor) 1) {x y : Int64} (k : Rv p l e Rm u m args below meth c g A Q M (pc + 1) L (.long (x ^^^ y) :: S) ws nc ns) : Rv p l e Rm u m args below meth c g A Q M pc L (.long y :: .long x :: S) ws nc ns := by
  intro H locs ls hP hD hS hl
  exact lv_lxor hC.1 hC.2.1 d (k H locs ls hP hD hS hl)
theorem v_lshl (hC : xCv p g A M u m args meth c) (d : xd M pc (.lshl) 1) {x : Int64} {y : Int32} (k : Rv p l e Rm u m args below meth c g A Q M (pc + 1) L (.long (x <<< (y.toInt64 &&& 63)) :: S) ws nc ns) : Rv p l e Rm u m args below meth c g A Q M pc L (.int y :: .long x :: S) ws nc ns := by
  intro H locs ls hP hD hS hl
  exact lv_lshl hC.1 hC.2.1 d rfl (k H locs ls hP hD hS hl)
theorem v_lshr (hC : xCv p g A M u m args meth c) (d : xd M pc (.lshr) 1) {x : Int64} {y : Int32} (k : Rv p l e Rm u m args below meth c g A Q M (pc + 1) L (.long (x >>> (y.toInt64 &&& 63)) :: S) ws nc ns) : Rv p l e Rm u m args below meth c g A Q M pc L (.int y :: .long x :: S) ws nc ns := by
  intro H locs ls hP hD hS hl
  exact lv_lshr hC.1 hC.2.1 d rfl (k H locs ls hP hD hS hl)
theorem v_lushr (hC : xCv p g A M u m args meth c) (d : xd M pc (.lushr) 1) {x : Int64} {y : Int32} (k : Rv p l e Rm u m args below meth c g A Q M (pc + 1) L (.long (xlushr x y) :: S) ws nc ns) : Rv p l e Rm u m args below meth c g A Q M pc L (.int y :: .long x :: S) ws nc ns := by
  intro H locs ls hP hD hS hl
  exact lv_lushr hC.1 hC.2.1 d rfl (k H locs ls hP hD hS hl)
theorem v_idiv (hC : xCv p g A M u m args meth c) (d : xd M pc (.idiv) 1) {x y : Int32} (hy : ¬ y = 0) (k : Rv p l e Rm u m args below meth c g A Q M (pc + 1) L (.int (x / y) :: S) ws nc ns) : Rv p l e Rm u m args below meth c g A Q M pc L (.int y :: .int x :: S) ws nc ns := by
  intro H locs ls hP hD hS hl
  exact lv_idiv hC.1 hC.2.1 d hy (k H locs ls hP hD hS hl)
theorem v_irem (hC : xCv p g A M u m args meth c) (d : xd M pc (.irem) 1) {x y : Int32} (hy : ¬ y = 0) (k : Rv p l e Rm u m args below meth c g A Q M (pc + 1) L (.int (x - x / y * y) :: S) ws nc ns) : Rv p l e Rm u m args below meth c g A Q M pc L (.int y :: .int x :: S) ws nc ns := by
  intro H locs ls hP hD hS hl
  exact lv_irem hC.1 hC.2.1 d hy (k H locs ls hP hD hS hl)
theorem v_i2l (hC : xCv p g A M u m args meth c) (d : xd M pc (.i2l) 1) {x : Int32} (k : Rv p l e Rm u m args below meth c g A Q M (pc + 1) L (.long x.toInt64 :: S) ws nc ns) : Rv p l e Rm u m args below meth c g A Q M pc L (.int x :: S) ws nc ns := by
  intro H locs ls hP hD hS hl
  exact lv_i2l hC.1 hC.2.1 d rfl (k H locs ls hP hD hS hl)
theorem v_l2i (hC : xCv p g A M u m args meth c) (d : xd M pc (.l2i) 1) {x : Int64} (k : Rv p l e Rm u m args below meth c g A Q M (pc + 1) L (.int x.toInt32 :: S) ws nc ns) : Rv p l e Rm u m args below meth c g A Q M pc L (.long x :: S) ws nc ns := by
  intro H locs ls hP hD hS hl
  exact lv_l2i hC.1 hC.2.1 d rfl (k H locs ls hP hD hS hl)
theorem v_i2c (hC : xCv p g A M u m args meth c) (d : xd M pc (.i2c) 1) {x : Int32} (k : Rv p l e Rm u m args below meth c g A Q M (pc + 1) L (.int (x.toUInt32 % 65536).toInt32 :: S) ws nc ns) : Rv p l e Rm u m args below meth c g A Q M pc L (.int x :: S) ws nc ns := by
  intro H locs ls hP hD hS hl
  exact lv_i2c hC.1 hC.2.1 d rfl (k H locs ls hP hD hS hl)
theorem v_dup (hC : xCv p g A M u m args meth c) (d : xd M pc (.dup) 1) {v : Value} (hv : v.category = 1) (k : Rv p l e Rm u m args below meth c g A Q M (pc + 1) L (v :: v :: S) ws nc ns) : Rv p l e Rm u m args below meth c g A Q M pc L (v :: S) ws nc ns := by
  intro H locs ls hP hD hS hl
  exact lv_dup hC.1 hC.2.1 d hv (k H locs ls hP hD hS hl)
theorem v_pop (hC : xCv p g A M u m args meth c) (d : xd M pc (.pop) 1) {v : Value} (hv : v.category = 1) (k : Rv p l e Rm u m args below meth c g A Q M (pc + 1) L S ws nc ns) : Rv p l e Rm u m args below meth c g A Q M pc L (v :: S) ws nc ns := by
  intro H locs ls hP hD hS hl
  exact lv_pop hC.1 hC.2.1 d hv (k H locs ls hP hD hS hl)
theorem v_dup2 (hC : xCv p g A M u m args meth c) (d : xd M pc (.dup2) 1) {v w : Value} (hv : v.category = 1) (hw : w.category = 1) (k : Rv p l e Rm u m args below meth c g A Q M (pc + 1) L (v :: w :: v :: w :: S) ws nc ns) : Rv p l e Rm u m args below meth c g A Q M pc L (v :: w :: S) ws nc ns := by
  intro H locs ls hP hD hS hl
  exact lv_dup2_11 hC.1 hC.2.1 d hv hw (k H locs ls hP hD hS hl)
theorem v_goto {off : Int} (hC : xCv p g A M u m args meth c) (d : xd M pc (.goto off) 3) {tgt : Nat} (ht : (pc : Int) + off = (tgt : Int)) (k : Rv p l e Rm u m args below meth c g A Q M tgt L S ws nc ns) : Rv p l e Rm u m args below meth c g A Q M pc L S ws nc ns := by
  intro H locs ls hP hD hS hl
  exact lv_goto hC.1 hC.2.1 d ht (k H locs ls hP hD hS hl)
theorem v_icmp_eq {off : Int} (hC : xCv p g A M u m args meth c) (d : xd M pc (.if_icmp .eq off) 3) {x y : Int32} {tgt : Nat} (ht : (pc : Int) + off = (tgt : Int)) (kt : x = y → Rv p l e Rm u m args below meth c g A Q M tgt L S ws nc ns) (kf : ¬ (x = y) → Rv p l e Rm u m args below meth c g A Q M (pc + 3) L S ws nc ns) : Rv p l e Rm u m args below meth c g A Q M pc L (.int y :: .int x :: S) ws nc ns := by
  intro H locs ls hP hD hS hl
  exact lv_icmp_eq hC.1 hC.2.1 d ht (fun q => kt q H locs ls hP hD hS hl) (fun q => kf q H locs ls hP hD hS hl)
theorem v_if_eq {off : Int} (hC : xCv p g A M u m args meth c) (d : xd M pc (.ifCond .eq off) 3) {x : Int32} {tgt : Nat} (ht : (pc : Int) + off = (tgt : Int)) (kt : x = 0 → Rv p l e Rm u m args below meth c g A Q M tgt L S ws nc ns) (kf : ¬ (x = 0) → Rv p l e Rm u m args below meth c g A Q M (pc + 3) L S ws nc ns) : Rv p l e Rm u m args below meth c g A Q M pc L (.int x :: S) ws nc ns := by
  intro H locs ls hP hD hS hl
  exact lv_if_eq hC.1 hC.2.1 d ht (fun q => kt q H locs ls hP hD hS hl) (fun q => kf q H locs ls hP hD hS hl)
theorem v_icmp_ne {off : Int} (hC : xCv p g A M u m args meth c) (d : xd M pc (.if_icmp .ne off) 3) {x y : Int32} {tgt : Nat} (ht : (pc : Int) + off = (tgt : Int)) (kt : ¬ x = y → Rv p l e Rm u m args below meth c g A Q M tgt L S ws nc ns) (kf : x = y → Rv p l e Rm u m args below meth c g A Q M (pc + 3) L S ws nc ns) : Rv p l e Rm u m args below meth c g A Q M pc L (.int y :: .int x :: S) ws nc ns := by
  intro H locs ls hP hD hS hl
  exact lv_icmp_ne hC.1 hC.2.1 d ht (fun q => kt q H locs ls hP hD hS hl) (fun q => kf q H locs ls hP hD hS hl)
theorem v_if_ne {off : Int} (hC : xCv p g A M u m args meth c) (d : xd M pc (.ifCond .ne off) 3) {x : Int32} {tgt : Nat} (ht : (pc : Int) + off = (tgt : Int)) (kt : ¬ x = 0 → Rv p l e Rm u m args below meth c g A Q M tgt L S ws nc ns) (kf : x = 0 → Rv p l e Rm u m args below meth c g A Q M (pc + 3) L S ws nc ns) : Rv p l e Rm u m args below meth c g A Q M pc L (.int x :: S) ws nc ns := by
  intro H locs ls hP hD hS hl
  exact lv_if_ne hC.1 hC.2.1 d ht (fun q => kt q H locs ls hP hD hS hl) (fun q => kf q H locs ls hP hD hS hl)
theorem v_icmp_lt {off : Int} (hC : xCv p g A M u m args meth c) (d : xd M pc (.if_icmp .lt off) 3) {x y : Int32} {tgt : Nat} (ht : (pc : Int) + off = (tgt : Int)) (kt : x < y → Rv p l e Rm u m args below meth c g A Q M tgt L S ws nc ns) (kf : ¬ (x < y) → Rv p l e Rm u m args below meth c g A Q M (pc + 3) L S ws nc ns) : Rv p l e Rm u m args below meth c g A Q M pc L (.int y :: .int x :: S) ws nc ns := by
  intro H locs ls hP hD hS hl
  exact lv_icmp_lt hC.1 hC.2.1 d ht (fun q => kt q H locs ls hP hD hS hl) (fun q => kf q H locs ls hP hD hS hl)
theorem v_if_lt {off : Int} (hC : xCv p g A M u m args meth c) (d : xd M pc (.ifCond .lt off) 3) {x : Int32} {tgt : Nat} (ht : (pc : Int) + off = (tgt : Int)) (kt : x < 0 → Rv p l e Rm u m args below meth c g A Q M tgt L S ws nc ns) (kf : ¬ (x < 0) → Rv p l e Rm u m args below meth c g A Q M (pc + 3) L S ws nc ns) : Rv p l e Rm u m args below meth c g A Q M pc L (.int x :: S) ws nc ns := by
  intro H locs ls hP hD hS hl
  exact lv_if_lt hC.1 hC.2.1 d ht (fun q => kt q H locs ls hP hD hS hl) (fun q => kf q H locs ls hP hD hS hl)
theorem v_icmp_ge {off : Int} (hC : xCv p g A M u m args meth c) (d : xd M pc (.if_icmp .ge off) 3) {x y : Int32} {tgt : Nat} (ht : (pc : Int) + off = (tgt : Int)) (kt : y ≤ x → Rv p l e Rm u m args below meth c g A Q M tgt L S ws nc ns) (kf : ¬ (y ≤ x) → Rv p l e Rm u m args below meth c g A Q M (pc + 3) L S ws nc ns) : Rv p l e Rm u m args below meth c g A Q M pc L (.int y :: .int x :: S) ws nc ns := by
  intro H locs ls hP hD hS hl
  exact lv_icmp_ge hC.1 hC.2.1 d ht (fun q => kt q H locs ls hP hD hS hl) (fun q => kf q H locs ls hP hD hS hl)
theorem v_if_ge {off : Int} (hC : xCv p g A M u m args meth c) (d : xd M pc (.ifCond .ge off) 3) {x : Int32} {tgt : Nat} (ht : (pc : Int) + off = (tgt : Int)) (kt : 0 ≤ x → Rv p l e Rm u m args below meth c g A Q M tgt L S ws nc ns) (kf : ¬ (0 ≤ x) → Rv p l e Rm u m args below meth c g A Q M (pc + 3) L S ws nc ns) : Rv p l e Rm u m args below meth c g A Q M pc L (.int x :: S) ws nc ns := by
  intro H locs ls hP hD hS hl
  exact lv_if_ge hC.1 hC.2.1 d ht (fun q => kt q H locs ls hP hD hS hl) (fun q => kf q H locs ls hP hD hS hl)
theorem v_icmp_gt {off : Int} (hC : xCv p g A M u m args meth c) (d : xd M pc (.if_icmp .gt off) 3) {x y : Int32} {tgt : Nat} (ht : (pc : Int) + off = (tgt : Int)) (kt : y < x → Rv p l e Rm u m args below meth c g A Q M tgt L S ws nc ns) (kf : ¬ (y < x) → Rv p l e Rm u m args below meth c g A Q M (pc + 3) L S ws nc ns) : Rv p l e Rm u m args below meth c g A Q M pc L (.int y :: .int x :: S) ws nc ns := by
  intro H locs ls hP hD hS hl
  exact lv_icmp_gt hC.1 hC.2.1 d ht (fun q => kt q H locs ls hP hD hS hl) (fun q => kf q H locs ls hP hD hS hl)
theorem v_if_gt {off : Int} (hC : xCv p g A M u m args meth c) (d : xd M pc (.ifCond .gt off) 3) {x : Int32} {tgt : Nat} (ht : (pc : Int) + off = (tgt : Int)) (kt : 0 < x → Rv p l e Rm u m args below meth c g A Q M tgt L S ws nc ns) (kf : ¬ (0 < x) → Rv p l e Rm u m args below meth c g A Q M (pc + 3) L S ws nc ns) : Rv p l e Rm u m args below meth c g A Q M pc L (.int x :: S) ws nc ns := by
  intro H locs ls hP hD hS hl
  exact lv_if_gt hC.1 hC.2.1 d ht (fun q => kt q H locs ls hP hD hS hl) (fun q => kf q H locs ls hP hD hS hl)
theorem v_icmp_le {off : Int} (hC : xCv p g A M u m args meth c) (d : xd M pc (.if_icmp .le off) 3) {x y : Int32} {tgt : Nat} (ht : (pc : Int) + off = (tgt : Int)) (kt : x ≤ y → Rv p l e Rm u m args below meth c g A Q M tgt L S ws nc ns) (kf : ¬ (x ≤ y) → Rv p l e Rm u m args below meth c g A Q M (pc + 3) L S ws nc ns) : Rv p l e Rm u m args below meth c g A Q M pc L (.int y :: .int x :: S) ws nc ns := by
  intro H locs ls hP hD hS hl
  exact lv_icmp_le hC.1 hC.2.1 d ht (fun q => kt q H locs ls hP hD hS hl) (fun q => kf q H locs ls hP hD hS hl)
theorem v_if_le {off : Int} (hC : xCv p g A M u m args meth c) (d : xd M pc (.ifCond .le off) 3) {x : Int32} {tgt : Nat} (ht : (pc : Int) + off = (tgt : Int)) (kt : x ≤ 0 → Rv p l e Rm u m args below meth c g A Q M tgt L S ws nc ns) (kf : ¬ (x ≤ 0) → Rv p l e Rm u m args below meth c g A Q M (pc + 3) L S ws nc ns) : Rv p l e Rm u m args below meth c g A Q M pc L (.int x :: S) ws nc ns := by
  intro H locs ls hP hD hS hl
  exact lv_if_le hC.1 hC.2.1 d ht (fun q => kt q H locs ls hP hD hS hl) (fun q => kf q H locs ls hP hD hS hl)
theorem v_lcmp_eq {off : Int} (hC : xCv p g A M u m args meth c) (d : xd M pc (.lcmp) 1) (d2 : xd M (pc + 1) (.ifCond .eq off) 3) {x y : Int64} {tgt : Nat} (ht : ((pc + 1 : Nat) : Int) + off = (tgt : Int)) (kt : x = y → Rv p l e Rm u m args below meth c g A Q M tgt L S ws nc ns) (kf : ¬ (x = y) → Rv p l e Rm u m args below meth c g A Q M (pc + 4) L S ws nc ns) : Rv p l e Rm u m args below meth c g A Q M pc L (.long y :: .long x :: S) ws nc ns := by
  intro H locs ls hP hD hS hl
  exact W.lcmp hC.1 hC.2.1 d (lv_if_eq hC.1 hC.2.1 d2 ht (fun q => kt ((lg_cmp_eq x y).mp q) H locs ls hP hD hS hl) (fun q => kf (fun z => q ((lg_cmp_eq x y).mpr z)) H locs ls hP hD hS hl))
theorem v_lcmp_ne {off : Int} (hC : xCv p g A M u m args meth c) (d : xd M pc (.lcmp) 1) (d2 : xd M (pc + 1) (.ifCond .ne off) 3) {x y : Int64} {tgt : Nat} (ht : ((pc + 1 : Nat) : Int) + off = (tgt : Int)) (kt : ¬ x = y → Rv p l e Rm u m args below meth c g A Q M tgt L S ws nc ns) (kf : x = y → Rv p l e Rm u m args below meth c g A Q M (pc + 4) L S ws nc ns) : Rv p l e Rm u m args below meth c g A Q M pc L (.long y :: .long x :: S) ws nc ns := by
  intro H locs ls hP hD hS hl
  exact W.lcmp hC.1 hC.2.1 d (lv_if_ne hC.1 hC.2.1 d2 ht (fun q => kt (fun z => q ((lg_cmp_eq x y).mpr z)) H locs ls hP hD hS hl) (fun q => kf ((lg_cmp_eq x y).mp q) H locs ls hP hD hS hl))
theorem v_lcmp_lt {off : Int} (hC : xCv p g A M u m args meth c) (d : xd M pc (.lcmp) 1) (d2 : xd M (pc + 1) (.ifCond .lt off) 3) {x y : Int64} {tgt : Nat} (ht : ((pc + 1 : Nat) : Int) + off = (tgt : Int)) (kt : x < y → Rv p l e Rm u m args below meth c g A Q M tgt L S ws nc ns) (kf : ¬ (x < y) → Rv p l e Rm u m args below meth c g A Q M (pc + 4) L S ws nc ns) : Rv p l e Rm u m args below meth c g A Q M pc L (.long y :: .long x :: S) ws nc ns := by
  intro H locs ls hP hD hS hl
  exact W.lcmp hC.1 hC.2.1 d (lv_if_lt hC.1 hC.2.1 d2 ht (fun q => kt ((lg_cmp_lt x y).mp q) H locs ls hP hD hS hl) (fun q => kf (fun z => q ((lg_cmp_lt x y).mpr z)) H locs ls hP hD hS hl))
theorem v_lcmp_ge {off : Int} (hC : xCv p g A M u m args meth c) (d : xd M pc (.lcmp) 1) (d2 : xd M (pc + 1) (.ifCond .ge off) 3) {x y : Int64} {tgt : Nat} (ht : ((pc + 1 : Nat) : Int) + off = (tgt : Int)) (kt : y ≤ x → Rv p l e Rm u m args below meth c g A Q M tgt L S ws nc ns) (kf : ¬ (y ≤ x) → Rv p l e Rm u m args below meth c g A Q M (pc + 4) L S ws nc ns) : Rv p l e Rm u m args below meth c g A Q M pc L (.long y :: .long x :: S) ws nc ns := by
  intro H locs ls hP hD hS hl
  exact W.lcmp hC.1 hC.2.1 d (lv_if_ge hC.1 hC.2.1 d2 ht (fun q => kt ((lg_cmp_ge x y).mp q) H locs ls hP hD hS hl) (fun q => kf (fun z => q ((lg_cmp_ge x y).mpr z)) H locs ls hP hD hS hl))
theorem v_lcmp_gt {off : Int} (hC : xCv p g A M u m args meth c) (d : xd M pc (.lcmp) 1) (d2 : xd M (pc + 1) (.ifCond .gt off) 3) {x y : Int64} {tgt : Nat} (ht : ((pc + 1 : Nat) : Int) + off = (tgt : Int)) (kt : y < x → Rv p l e Rm u m args below meth c g A Q M tgt L S ws nc ns) (kf : ¬ (y < x) → Rv p l e Rm u m args below meth c g A Q M (pc + 4) L S ws nc ns) : Rv p l e Rm u m args below meth c g A Q M pc L (.long y :: .long x :: S) ws nc ns := by
  intro H locs ls hP hD hS hl
  exact W.lcmp hC.1 hC.2.1 d (lv_if_gt hC.1 hC.2.1 d2 ht (fun q => kt ((lg_cmp_gt x y).mp q) H locs ls hP hD hS hl) (fun q => kf (fun z => q ((lg_cmp_gt x y).mpr z)) H locs ls hP hD hS hl))
theorem v_lcmp_le {off : Int} (hC : xCv p g A M u m args meth c) (d : xd M pc (.lcmp) 1) (d2 : xd M (pc + 1) (.ifCond .le off) 3) {x y : Int64} {tgt : Nat} (ht : ((pc + 1 : Nat) : Int) + off = (tgt : Int)) (kt : x ≤ y → Rv p l e Rm u m args below meth c g A Q M tgt L S ws nc ns) (kf : ¬ (x ≤ y) → Rv p l e Rm u m args below meth c g A Q M (pc + 4) L S ws nc ns) : Rv p l e Rm u m args below meth c g A Q M pc L (.long y :: .long x :: S) ws nc ns := by
  intro H locs ls hP hD hS hl
  exact W.lcmp hC.1 hC.2.1 d (lv_if_le hC.1 hC.2.1 d2 ht (fun q => kt ((lg_cmp_le x y).mp q) H locs ls hP hD hS hl) (fun q => kf (fun z => q ((lg_cmp_le x y).mpr z)) H locs ls hP hD hS hl))
theorem v_get {index ci k q0 : Nat} {fs : List Value} {v : Value} {a : Nat} (hC : xCv p g A M u m args meth c) (d : xd M pc (.getfield index) 3) (hf : xF M.2.2.2 index ci k) (he : ws[q0]? = some (a, .inr (ci, fs))) (hv : fs[k]? = some v) (kk : Rv p l e Rm u m args below meth c g A Q M (pc + 3) L (v :: S) ws nc ns) : Rv p l e Rm u m args below meth c g A Q M pc L (.ref a :: S) ws nc ns := by
  intro H locs ls hP hD hS hl
  obtain ⟨C, T, N, ty0, h1, h2, h3, h4, -⟩ := hf
  exact va_get (C := C) (T := T) (N := N) hC.1 hC.2.1 hC.2.2.2.2.2.1 h4 hC.2.2.2.2.1 hC.2.2.2.2.2.2.2.1 hP q0 he h1 k h2 (hC.2.2.2.2.2.1 _ h3) (fun _ q => q) hv d (kk H locs ls hP hD hS hl)
theorem v_put {index ci k q0 : Nat} {fs : List Value} {v : Value} {a : Nat} {ty : FieldType} (hC : xCv p g A M u m args meth c) (d : xd M pc (.putfield index) 3) (hf : xF M.2.2.2 index ci k) (hp : xFp ci k ty) (he : ws[q0]? = some (a, .inr (ci, fs))) (hn : narrow ty v = v) (hfit : fits ty v = true) (hl0 : k < fs.length) (hs : ws.set q0 (a, .inr (ci, fs.set k v)) = ws') (kk : Rv p l e Rm u m args below meth c g A Q M (pc + 3) L S ws' nc ns) : Rv p l e Rm u m args below meth c g A Q M pc L (v :: .ref a :: S) ws nc ns := by
  intro H locs ls hP hD hS hl
  obtain ⟨C, T, N, ty0, h1, h2, h3, h4, h5, h6⟩ := hf
  exact va_put (C := C) (T := T) (N := N) hC.1 hC.2.1 hC.2.2.2.2.2.1 h4 ty0 h5 h6 hC.2.2.2.2.1 hC.2.2.2.2.2.2.2.1 hP hD hS q0 he h1 k h2 (hC.2.2.2.2.2.1 _ h3) (fun _ q => q) (hp C T N h1).1 (hp C T N h1).2 hn hfit hl0 d (fun H1 locs1 hP1 hD1 hS1 => kk H1 locs1 ls (hs ▸ hP1) (hs ▸ hD1) hS1 hl)
theorem v_iald {q0 n a : Nat} {cA : ClassId} {f : Nat → Int32} {i : Int32} (hC : xCv p g A M u m args meth c) (d : xd M pc (.iaload) 1) (ha : ws[q0]? = some (a, .inl (cA, n, .inl f))) (ht : (xtys g)[0]? = some (cA, .int)) (hin : vp_in i n) (kk : Rv p l e Rm u m args below meth c g A Q M (pc + 1) L (.int (f i.toNatClampNeg) :: S) ws nc ns) : Rv p l e Rm u m args below meth c g A Q M pc L (.int i :: .ref a :: S) ws nc ns := by
  intro H locs ls hP hD hS hl
  exact va_iald hC.1 hC.2.1 hC.2.2.2.2.2.2.2.1 hP q0 0 ha ht hin d (kk H locs ls hP hD hS hl)
theorem v_zald {q0 n a : Nat} {cA : ClassId} {f : Nat → Int32} {i : Int32} (hC : xCv p g A M u m args meth c) (d : xd M pc (.baload) 1) (ha : ws[q0]? = some (a, .inl (cA, n, .inl f))) (ht : (xtys g)[2]? = some (cA, .boolean)) (hin : vp_in i n) (kk : Rv p l e Rm u m args below meth c g A Q M (pc + 1) L (.int (f i.toNatClampNeg) :: S) ws nc ns) : Rv p l e Rm u m args below meth c g A Q M pc L (.int i :: .ref a :: S) ws nc ns := by
  intro H locs ls hP hD hS hl
  exact va_zald hC.1 hC.2.1 hC.2.2.2.2.2.2.2.1 hP q0 2 ha ht hin d (kk H locs ls hP hD hS hl)
theorem v_lald {q0 n a : Nat} {cA : ClassId} {f : Nat → Int64} {i : Int32} (hC : xCv p g A M u m args meth c) (d : xd M pc (.laload) 1) (ha : ws[q0]? = some (a, .inl (cA, n, .inr (.inl f)))) (ht : (xtys g)[1]? = some (cA, .long)) (hin : vp_in i n) (kk : Rv p l e Rm u m args below meth c g A Q M (pc + 1) L (.long (f i.toNatClampNeg) :: S) ws nc ns) : Rv p l e Rm u m args below meth c g A Q M pc L (.int i :: .ref a :: S) ws nc ns := by
  intro H locs ls hP hD hS hl
  exact va_lald hC.1 hC.2.1 hC.2.2.2.2.2.2.2.1 hP q0 1 ha ht hin d (kk H locs ls hP hD hS hl)
theorem v_iast {q0 n a : Nat} {cA : ClassId} {f : Nat → Int32} {i : Int32} {x : Int32} (hC : xCv p g A M u m args meth c) (d : xd M pc (.iastore) 1) (ha : ws[q0]? = some (a, .inl (cA, n, .inl f))) (ht : (xtys g)[0]? = some (cA, .int)) (hin : vp_in i n) (hs : ws.set q0 (a, .inl (cA, n, .inl (upd f i.toNatClampNeg x))) = ws') (kk : Rv p l e Rm u m args below meth c g A Q M (pc + 1) L S ws' nc ns) : Rv p l e Rm u m args below meth c g A Q M pc L (.int x :: .int i :: .ref a :: S) ws nc ns := by
  intro H locs ls hP hD hS hl
  exact va_iast hC.1 hC.2.1 hC.2.2.2.2.2.2.2.1 hP hD hS q0 0 ha ht hin d (fun H1 locs1 hP1 hD1 hS1 => kk H1 locs1 ls (hs ▸ hP1) (hs ▸ hD1) hS1 hl)
theorem v_zast {q0 n a : Nat} {cA : ClassId} {f : Nat → Int32} {i : Int32} {x : Int32} (hC : xCv p g A M u m args meth c) (d : xd M pc (.bastore) 1) (ha : ws[q0]? = some (a, .inl (cA, n, .inl f))) (ht : (xtys g)[2]? = some (cA, .boolean)) (hin : vp_in i n) (hs : ws.set q0 (a, .inl (cA, n, .inl (upd f i.toNatClampNeg (vp_nar .boolean x)))) = ws') (kk : Rv p l e Rm u m args below meth c g A Q M (pc + 1) L S ws' nc ns) : Rv p l e Rm u m args below meth c g A Q M pc L (.int x :: .int i :: .ref a :: S) ws nc ns := by
  intro H locs ls hP hD hS hl
  exact va_zast hC.1 hC.2.1 hC.2.2.2.2.2.2.2.1 hP hD hS q0 2 ha ht hin d (fun H1 locs1 hP1 hD1 hS1 => kk H1 locs1 ls (hs ▸ hP1) (hs ▸ hD1) hS1 hl)
theorem v_last {q0 n a : Nat} {cA : ClassId} {f : Nat → Int64} {i : Int32} {x : Int64} (hC : xCv p g A M u m args meth c) (d : xd M pc (.lastore) 1) (ha : ws[q0]? = some (a, .inl (cA, n, .inr (.inl f)))) (ht : (xtys g)[1]? = some (cA, .long)) (hin : vp_in i n) (hs : ws.set q0 (a, .inl (cA, n, .inr (.inl (vp_updL f i.toNatClampNeg x)))) = ws') (kk : Rv p l e Rm u m args below meth c g A Q M (pc + 1) L S ws' nc ns) : Rv p l e Rm u m args below meth c g A Q M pc L (.long x :: .int i :: .ref a :: S) ws nc ns := by
  intro H locs ls hP hD hS hl
  exact va_last hC.1 hC.2.1 hC.2.2.2.2.2.2.2.1 hP hD hS q0 1 ha ht hin d (fun H1 locs1 hP1 hD1 hS1 => kk H1 locs1 ls (hs ▸ hP1) (hs ▸ hD1) hS1 hl)
theorem v_aald {q0 n a b : Nat} {cA : ClassId} {f : Nat → Option Nat} {i : Int32} (hC : xCv p g A M u m args meth c) (d : xd M pc (.aaload) 1) (ha : ws[q0]? = some (a, .inl (cA, n, .inr (.inr (.inr (.inr f)))))) (ht : (xtys g)[3]? = some (cA, .object RX3)) (hin : vp_in i n) (hb : f i.toNatClampNeg = some b) (kk : Rv p l e Rm u m args below meth c g A Q M (pc + 1) L (.ref b :: S) ws nc ns) : Rv p l e Rm u m args below meth c g A Q M pc L (.int i :: .ref a :: S) ws nc ns := by
  intro H locs ls hP hD hS hl
  exact va_aldq hC.1 hC.2.1 hC.2.2.2.2.2.2.2.1 hP q0 3 ha ht hin d (by rw [hb]; exact kk H locs ls hP hD hS hl)
theorem v_alen {q0 a t0 : Nat} {cA : ClassId} {x : vp_A} {ty : FieldType} {v : Int32} (hC : xCv p g A M u m args meth c) (d : xd M pc (.arraylength) 1) (ha : ws[q0]? = some (a, .inl (cA, x))) (ht : (xtys g)[t0]? = some (cA, ty)) (hv : Int32.ofNat x.1 = v) (kk : Rv p l e Rm u m args below meth c g A Q M (pc + 1) L (.int v :: S) ws nc ns) : Rv p l e Rm u m args below meth c g A Q M pc L (.ref a :: S) ws nc ns := by
  intro H locs ls hP hD hS hl
  exact va_alen hC.1 hC.2.1 hC.2.2.2.2.2.2.2.1 hP q0 t0 ha ht hv d (kk H locs ls hP hD hS hl)
theorem v_tsIn {dflt lo hi off : Int} {offs : Array Int} {len tgt : Nat} {x : Int32} (hC : xCv p g A M u m args meth c) (d : xd M pc (.tableswitch dflt lo hi offs) len) (h1 : ¬ x.toInt < lo) (h2 : ¬ hi < x.toInt) (ho : offs[(x.toInt - lo).toNat]? = some off) (ht : (pc : Int) + off = (tgt : Int)) (kk : Rv p l e Rm u m args below meth c g A Q M tgt L S ws nc ns) : Rv p l e Rm u m args below meth c g A Q M pc L (.int x :: S) ws nc ns := by
  intro H locs ls hP hD hS hl
  exact lv_tableIn hC.1 hC.2.1 d h1 h2 ho ht (kk H locs ls hP hD hS hl)
theorem v_tsOut {dflt lo hi : Int} {offs : Array Int} {len tgt : Nat} {x : Int32} (hC : xCv p g A M u m args meth c) (d : xd M pc (.tableswitch dflt lo hi offs) len) (hx : x.toInt < lo ∨ hi < x.toInt) (ht : (pc : Int) + dflt = (tgt : Int)) (kk : Rv p l e Rm u m args below meth c g A Q M tgt L S ws nc ns) : Rv p l e Rm u m args below meth c g A Q M pc L (.int x :: S) ws nc ns := by
  intro H locs ls hP hD hS hl
  exact lv_tableOut hC.1 hC.2.1 d hx ht (kk H locs ls hP hD hS hl)
theorem v_lks {dflt off : Int} {ps : Array (Int × Int)} {len tgt : Nat} {x : Int32} (hC : xCv p g A M u m args meth c) (d : xd M pc (.lookupswitch dflt ps) len) (hp : (ps.toList.zip (ps.toList.drop 1)).all (fun (a, next) => a.1 < next.1) = true) (ho : Op.lookupswitch.offset ps.toList dflt x.toInt = off) (ht : (pc : Int) + off = (tgt : Int)) (kk : Rv p l e Rm u m args below meth c g A Q M tgt L S ws nc ns) : Rv p l e Rm u m args below meth c g A Q M pc L (.int x :: S) ws nc ns := by
  intro H locs ls hP hD hS hl
  exact lv_lookup hC.1 hC.2.1 d hp ho ht (kk H locs ls hP hD hS hl)
theorem v_vret {F : va_W → Prop} (hC : xCv p g A M u m args meth c) (d : xd M pc (.return_) 1) (hr : M.2.2.1 = none) (hF : F ws) : Rv p l e Rm u m args below meth c g A (MQ below (xQw g F A) args u nc ns A) M pc L [] ws nc ns := by
  intro H locs ls hP hD hS hl
  exact W.vret hC.1 hC.2.1 (hC.2.2.2.1.trans hr) (fun t ht _ => ⟨⟨ws, rfl, hF, by rw [ht]; exact hP, hD⟩, hS.F ht⟩) hS.2.2 d hC.2.2.2.2.2.2.1
theorem v_perm (is : List Nat) (hn : va_nd is = true) (hs : is.map (fun i => ws[i]?) = ws'.map some) (k : Rv p l e Rm u m args below meth c g A Q M pc L S ws' nc ns) : Rv p l e Rm u m args below meth c g A Q M pc L S ws nc ns := by
  intro H locs ls hP hD hS hl
  have hs2 : is.filterMap (fun i => ws[i]?) = ws' := by
    have h1 : (is.map (fun i => ws[i]?)).filterMap id = (ws'.map some).filterMap id := by rw [hs]
    simpa [List.filterMap_map] using h1
  exact k H locs ls (hP.sub is hs2) (hD.sub is hn hs) hS hl
theorem v_eq (hs : ws = ws') (k : Rv p l e Rm u m args below meth c g A Q M pc L S ws' nc ns) : Rv p l e Rm u m args below meth c g A Q M pc L S ws nc ns := hs ▸ k
theorem v_widen {kc kn : Nat} (h1 : nc ≤ kc) (h2 : ns ≤ kn) (k : Rv p l e Rm u m args below meth c g A Q M pc L S ws kc kn) : Rv p l e Rm u m args below meth c g A Q M pc L S ws nc ns := by
  intro H locs ls hP hD hS hl
  exact W.widen h1 h2 (k H locs ls hP hD hS hl)
theorem v_objInit {index a : Nat} (hC : xCv p g A M u m args meth c) (d : xd M pc (.invokespecial index) 3) (h1 : Cond.methodLink M.2.2.2 index objectInit ∈ xtb) (h2 : Cond.instanceMethod objectInit ∈ xtb) (h3 : Cond.code objectInit ⟨#[0xb1]⟩ 1 none ∈ xtb) (hf : 1 ≤ Rm.frames) (hl0 : (S.map fun v => v.category).sum + 12 ≤ Rm.locals) (k : Rv p l e Rm u m args below meth c g A Q M (pc + 3) L S ws nc ns) : Rv p l e Rm u m args below meth c g A Q M pc L (.ref a :: S) ws nc ns := by
  intro H locs ls hP hD hS hl
  have hT := hC.2.2.2.2.2.1
  exact W.objInit hC.1 hC.2.1 hC.2.2.2.2.1 (hT _ h1) (hT _ h2) (hT _ h3) rfl (by rw [hC.2.2.1]; exact hl.1) rfl d hf (by show 2 * 0 + _ + 12 ≤ _; omega) (k H locs ls hP hD hS hl)
def xFf (ci k : Nat) (ty : FieldType) (own : String) : Prop := ∀ (C : String) (T : u_T) (N : Nat), vwCl[ci]? = some (C, T, N) → (T k).2.2.2 = true ∧ parseFieldDescriptor (T k).2.2.1 = some ty ∧ (T k).1 = own
theorem v_putF {index ci k q0 a b : Nat} {fs : List Value} {ty : FieldType} (hC : xCv p g A M u m args meth c) (hin : meth.name = "<init>") (d : xd M pc (.putfield index) 3) (hf : xF M.2.2.2 index ci k) (hp : xFf ci k ty M.2.2.2) (he : ws[q0]? = some (a, .inr (ci, fs))) (hn : narrow ty (.ref b) = .ref b) (hfit : fits ty (.ref b) = true) (hl0 : k < fs.length) (hs : ws.set q0 (a, .inr (ci, fs.set k (.ref b))) = ws') (kk : Rv p l e Rm u m args below meth c g A Q M (pc + 3) L S ws' nc ns) : Rv p l e Rm u m args below meth c g A Q M pc L (.ref b :: .ref a :: S) ws nc ns := by
  intro H locs ls hP hD hS hl
  obtain ⟨C, T, N, ty0, h1, h2, h3, h4, h5, h6⟩ := hf
  obtain ⟨f1, f2, f3⟩ := hp C T N h1
  exact va_putF (C := C) (T := T) (N := N) hC.1 hC.2.1 hC.2.2.2.2.2.1 h4 ty0 h5 h6 hC.2.2.2.2.1 hC.2.2.2.2.2.2.2.1 hP hD hS q0 he h1 k h2 (hC.2.2.2.2.2.1 _ h3) (fun _ q => q) f1 hin f3 f2 hn hfit hl0 d (fun H1 locs1 hP1 hD1 hS1 => kk H1 locs1 ls (hs ▸ hP1) (hs ▸ hD1) hS1 hl)
theorem v_new {index ci N : Nat} {C : String} {T : u_T} {ty : Nat → FieldType} {fs : List Value} (hC : xCv p g A M u m args meth c) (hA : ∀ q, u.heap.size ≤ q → A q) (d : xd M pc (.new index) 3) (hin : ∀ w ∈ u_ws C T N, w ∈ xtb) (hty : ∀ k, k < N → parseFieldDescriptor (T k).2.2.1 = some (ty k)) (h1 : Cond.classLink M.2.2.2 index C ∈ xtb) (h2 : Cond.instantiable C N ∈ xtb) (h3 : Cond.initialized C ∈ xtb) (hc : vwCl[ci]? = some (C, T, N)) (hfs : ∀ j, j < N → defaultValue (ty j) = vp_V fs j) (hcells : nc + 1 ≤ Rm.cells) (hslots : ns + N ≤ Rm.slots)
    (kk : ∀ q : Nat, Rv p l e Rm u m args below meth c g A Q M (pc + 3) L (.ref q :: S) (ws ++ [(q, .inr (ci, fs))]) (nc + 1) (ns + N)) : Rv p l e Rm u m args below meth c g A Q M pc L S ws nc ns := by
  intro H locs ls hP hD hS hl
  have hT := hC.2.2.2.2.2.1
  exact va_new (C := C) (T := T) (N := N) hC.1 hC.2.1 hT hin ty hty hC.2.2.2.2.1 (hT _ h1) (hT _ h2) (hT _ h3) hC.2.2.2.2.2.2.2.1 hP hD hS hA hc hfs hcells hslots d (fun q H1 hP1 hD1 hS1 => kk q H1 locs ls hP1 hD1 hS1 hl)
theorem v_newi {n : Int32} {N' : Nat} (hC : xCv p g A M u m args meth c) (hA : ∀ q, u.heap.size ≤ q → A q) (d : xd M pc (.newarray .int) 2) (hw : Cond.arrayClass .int ∈ xtb) (hn : ¬ n < 0) (hN : n.toNatClampNeg = N') (hb : N' * 4 ≤ 536870912) (hcells : nc + 1 ≤ Rm.cells) (hslots : ns + N' ≤ Rm.slots)
    (kk : ∀ q : Nat, Rv p l e Rm u m args below meth c g A Q M (pc + 2) L (.ref q :: S) (ws ++ [(q, .inl (g.2.2.2.2.1, N', .inl (fun _ => 0)))]) (nc + 1) (ns + N')) : Rv p l e Rm u m args below meth c g A Q M pc L (.int n :: S) ws nc ns := by
  intro H locs ls hP hD hS hl
  have hK := hC.2.2.2.2.2.2.2.1
  exact va_newa (atype := .int) (ty := .int) (a0 := (N', .inl (fun _ => 0))) hC.1 hC.2.1 (hC.2.2.2.2.2.1 _ hw) rfl hK hP hD hS hA (fun _ => rfl) hn hN hb hcells hslots d (fun q cA H1 hK1 hP1 hD1 hS1 => by
    have e1 : cA = g.2.2.2.2.1 := x_RAu (hK1.2 4 _ rfl).2 (hK.2 0 _ rfl).2 (fun C hh => by cases hh)
    subst e1
    exact kk q H1 locs ls hP1 hD1 hS1 hl)
theorem v_newz {n : Int32} {N' : Nat} (hC : xCv p g A M u m args meth c) (hA : ∀ q, u.heap.size ≤ q → A q) (d : xd M pc (.newarray .boolean) 2) (hw : Cond.arrayClass .boolean ∈ xtb) (hn : ¬ n < 0) (hN : n.toNatClampNeg = N') (hb : N' * 1 ≤ 536870912) (hcells : nc + 1 ≤ Rm.cells) (hslots : ns + N' ≤ Rm.slots)
    (kk : ∀ q : Nat, Rv p l e Rm u m args below meth c g A Q M (pc + 2) L (.ref q :: S) (ws ++ [(q, .inl (g.2.2.2.2.2.2.1, N', .inl (fun _ => 0)))]) (nc + 1) (ns + N')) : Rv p l e Rm u m args below meth c g A Q M pc L (.int n :: S) ws nc ns := by
  intro H locs ls hP hD hS hl
  have hK := hC.2.2.2.2.2.2.2.1
  exact va_newa (atype := .boolean) (ty := .boolean) (a0 := (N', .inl (fun _ => 0))) hC.1 hC.2.1 (hC.2.2.2.2.2.1 _ hw) rfl hK hP hD hS hA (fun _ => rfl) hn hN hb hcells hslots d (fun q cA H1 hK1 hP1 hD1 hS1 => by
    have e1 : cA = g.2.2.2.2.2.2.1 := x_RAu (hK1.2 4 _ rfl).2 (hK.2 2 _ rfl).2 (fun C hh => by cases hh)
    subst e1
    exact kk q H1 locs ls hP1 hD1 hS1 hl)
theorem v_newj {n : Int32} {N' : Nat} (hC : xCv p g A M u m args meth c) (hA : ∀ q, u.heap.size ≤ q → A q) (d : xd M pc (.newarray .long) 2) (hw : Cond.arrayClass .long ∈ xtb) (hn : ¬ n < 0) (hN : n.toNatClampNeg = N') (hb : N' * 8 ≤ 536870912) (hcells : nc + 1 ≤ Rm.cells) (hslots : ns + N' ≤ Rm.slots)
    (kk : ∀ q : Nat, Rv p l e Rm u m args below meth c g A Q M (pc + 2) L (.ref q :: S) (ws ++ [(q, .inl (g.2.2.2.2.2.1, N', .inr (.inl (fun _ => 0))))]) (nc + 1) (ns + N')) : Rv p l e Rm u m args below meth c g A Q M pc L (.int n :: S) ws nc ns := by
  intro H locs ls hP hD hS hl
  have hK := hC.2.2.2.2.2.2.2.1
  exact va_newa (atype := .long) (ty := .long) (a0 := (N', .inr (.inl (fun _ => 0)))) hC.1 hC.2.1 (hC.2.2.2.2.2.1 _ hw) rfl hK hP hD hS hA (fun _ => rfl) hn hN hb hcells hslots d (fun q cA H1 hK1 hP1 hD1 hS1 => by
    have e1 : cA = g.2.2.2.2.2.1 := x_RAu (hK1.2 4 _ rfl).2 (hK.2 1 _ rfl).2 (fun C hh => by cases hh)
    subst e1
    exact kk q H1 locs ls hP1 hD1 hS1 hl)
theorem v_newq {index : Nat} {n : Int32} {N' : Nat} (hC : xCv p g A M u m args meth c) (hA : ∀ q, u.heap.size ≤ q → A q) (d : xd M pc (.anewarray index) 3) (hw : Cond.classLink M.2.2.2 index RX3 ∈ xtb) (ho : va_AO RX3 u) (hn : ¬ n < 0) (hN : n.toNatClampNeg = N') (hb : N' * 4 ≤ 536870912) (hcells : nc + 1 ≤ Rm.cells) (hslots : ns + N' ≤ Rm.slots)
    (kk : ∀ q : Nat, Rv p l e Rm u m args below meth c g A Q M (pc + 3) L (.ref q :: S) (ws ++ [(q, .inl (g.2.2.2.2.2.2.2, N', .inr (.inr (.inr (.inr (fun _ => none))))))]) (nc + 1) (ns + N')) : Rv p l e Rm u m args below meth c g A Q M pc L (.int n :: S) ws nc ns := by
  intro H locs ls hP hD hS hl
  have hK := hC.2.2.2.2.2.2.2.1
  exact va_newq (C := RX3) hC.1 hC.2.1 hC.2.2.2.2.1 (hC.2.2.2.2.2.1 _ hw) ho hK hP hD hS hA hn hN hb hcells hslots d (fun q cA H1 hK1 hP1 hD1 hS1 => by
    have e1 : cA = g.2.2.2.2.2.2.2 := x_RAo (hK1.2 4 _ rfl).2 (hK.2 3 _ rfl).2
    subst e1
    exact kk q H1 locs ls hP1 hD1 hS1 hl)
theorem v_astq {q0 qk n a v : Nat} {vs : List Value} {f : Nat → Option Nat} {i : Int32} (hC : xCv p g A M u m args meth c) (d : xd M pc (.aastore) 1) (ha : ws[q0]? = some (a, .inl (g.2.2.2.2.2.2.2, n, .inr (.inr (.inr (.inr f)))))) (hv : ws[qk]? = some (v, .inr (3, vs))) (hin : vp_in i n) (hs : ws.set q0 (a, .inl (g.2.2.2.2.2.2.2, n, .inr (.inr (.inr (.inr (va_up f i.toNatClampNeg (some v))))))) = ws') (kk : Rv p l e Rm u m args below meth c g A Q M (pc + 1) L S ws' nc ns) : Rv p l e Rm u m args below meth c g A Q M pc L (.ref v :: .int i :: .ref a :: S) ws nc ns := by
  intro H locs ls hP hD hS hl
  exact va_astq (r := (RX3, TX3, 3)) hC.1 hC.2.1 hC.2.2.2.2.2.2.2.1 hP hD hS q0 3 qk 3 ha rfl hv rfl hin d (fun H1 locs1 hP1 hD1 hS1 => kk H1 locs1 ls (hs ▸ hP1) (hs ▸ hD1) hS1 hl)
/-- what the tables say of a constructor's call -/
def xCI (y : MethodName) (M : xM) : Prop := Cond.instanceMethod y ∈ xtb ∧ Cond.initialized y.cls ∈ xtb ∧ Cond.code y M.1 M.2.1 none ∈ xtb ∧ y.name = "<init>" ∧ M.2.2.1 = none ∧ (y.cls ≠ "java/lang/invoke/MethodHandle" ∧ y.cls ≠ "java/lang/invoke/VarHandle" ∧ (parseMethodDescriptor y.desc).map (fun d => d.parameters.length) = some 0)
theorem v_goodC {y : MethodName} {M' : xM} (h : Cond.code y M'.1 M'.2.1 none ∈ xtb) : GoodIn xtb (.code y M'.1 M'.2.1 none :: xtb) := x_goodIn (by
  intro w hw
  rcases List.mem_cons.mp hw with rfl | z
  · exact h
  · exact z)
theorem v_callIN {index b : Nat} {y : MethodName} {M' : xM} {R' : Room} {wc wr : va_W} {mc ms : Nat} {F : va_W → Prop} (isC isR : List Nat) (hC : xCv p g A M u m args meth c) (hA : ∀ q, u.heap.size ≤ q → A q) (hN : ∀ w ∈ xnest, va_Nw w u) (hAO : va_AO RX3 u) (d : xd M pc (.invokespecial index) 3) (hi : xCI y M') (host : String) (hl0 : Cond.methodLinkNest M.2.2.2 index y host ∈ xnest) (E : Cw l g R' y M' [.ref b] wc mc ms F) (hCs : isC.map (fun i => ws[i]?) = wc.map some) (hRs : isR.map (fun i => ws[i]?) = wr.map some) (hnC : va_nd isC = true) (hnR : va_nd isR = true) (hdis : ∀ i ∈ isR, i ∉ isC) (hrc : R'.cells = mc) (hrs : R'.slots = ms) (hr1 : R'.frames + 1 ≤ Rm.frames) (hr2 : 8 + (M'.2.1 + 11) + R'.locals ≤ Rm.locals) (hS0 : (S.map fun v => v.category).sum ≤ 8) (hc1 : nc + mc ≤ Rm.cells) (hc2 : ns + ms ≤ Rm.slots)
    (k : ∀ w, F w → Rv p l e Rm u m args below meth c g A Q M (pc + 3) L S (wr ++ w) (nc + mc) (ns + ms)) : Rv p l e Rm u m args below meth c g A Q M pc L (.ref b :: S) ws nc ns := by
  intro H locs ls hP hD hS hl
  obtain ⟨i1, i2, i3, i4, i5, i6⟩ := hi
  have hT := hC.2.2.2.2.2.1
  have hfm : ∀ {is : List Nat} {w : va_W}, is.map (fun i => ws[i]?) = w.map some → is.filterMap (fun i => ws[i]?) = w := by
    intro is w hs
    have h1 : (is.map (fun i => ws[i]?)).filterMap id = (w.map some).filterMap id := by rw [hs]
    simpa [List.filterMap_map] using h1
  have hPc := hP.sub isC (hfm hCs)
  have hDc := hD.sub isC hnC hCs
  have hFc := va_free (wc := wc) hD hS hA isC hCs
  have hE := E H.size
  rw [i5] at hE
  refine va_callv (va_runIN (As := []) (rest := S) ⟨hC.1, hC.2.1, hC.2.2.1, hC.2.2.2.2.1, hT⟩ hE ⟨va_cnB 0 hT (v_goodC i3) rfl hrc hrs (hN _ hl0) (hT _ i2) i6 ⟨hr1, hr2⟩, i4, hT _ i1⟩ ⟨xw_blind, fun U hU hW => xw_pre (av := [.ref b]) hC.2.2.2.2.2.2.2.1 hC.2.2.2.2.2.2.2.2 hN hAO hPc hDc hS hFc hU hW⟩ rfl rfl hl.1 rfl (lv_room hS0) d ⟨hc1, hc2⟩) hS (fun q _ h => hFc q h) hFc (fun w t H1 locs1 ht hvm hw hB hz1 hk1 hS1 => ?_)
  obtain ⟨hP1, hD1⟩ := hB
  rw [ht] at hP1
  obtain ⟨hP2, hD2⟩ := va_join (wr := wr) (w1 := w) hP hD isC isR hCs hRs hnR hdis hk1 hFc hP1 hD1
  exact k w hw H1 locs1 ls hP2 hD2 hS1 hl
theorem v_callI {index b : Nat} {y : MethodName} {M' : xM} {R' : Room} {wc wr : va_W} {mc ms : Nat} {F : va_W → Prop} (isC isR : List Nat) (hC : xCv p g A M u m args meth c) (hA : ∀ q, u.heap.size ≤ q → A q) (hN : ∀ w ∈ xnest, va_Nw w u) (hAO : va_AO RX3 u) (d : xd M pc (.invokespecial index) 3) (hi : xCI y M') (hl0 : Cond.methodLink M.2.2.2 index y ∈ xtb) (E : Cw l g R' y M' [.ref b] wc mc ms F) (hCs : isC.map (fun i => ws[i]?) = wc.map some) (hRs : isR.map (fun i => ws[i]?) = wr.map some) (hnC : va_nd isC = true) (hnR : va_nd isR = true) (hdis : ∀ i ∈ isR, i ∉ isC) (hrc : R'.cells = mc) (hrs : R'.slots = ms) (hr1 : R'.frames + 1 ≤ Rm.frames) (hr2 : 8 + (M'.2.1 + 11) + R'.locals ≤ Rm.locals) (hS0 : (S.map fun v => v.category).sum ≤ 8) (hc1 : nc + mc ≤ Rm.cells) (hc2 : ns + ms ≤ Rm.slots)
    (k : ∀ w, F w → Rv p l e Rm u m args below meth c g A Q M (pc + 3) L S (wr ++ w) (nc + mc) (ns + ms)) : Rv p l e Rm u m args below meth c g A Q M pc L (.ref b :: S) ws nc ns := by
  intro H locs ls hP hD hS hl
  obtain ⟨i1, i2, i3, i4, i5, i6⟩ := hi
  have hT := hC.2.2.2.2.2.1
  have hfm : ∀ {is : List Nat} {w : va_W}, is.map (fun i => ws[i]?) = w.map some → is.filterMap (fun i => ws[i]?) = w := by
    intro is w hs
    have h1 : (is.map (fun i => ws[i]?)).filterMap id = (w.map some).filterMap id := by rw [hs]
    simpa [List.filterMap_map] using h1
  have hPc := hP.sub isC (hfm hCs)
  have hDc := hD.sub isC hnC hCs
  have hFc := va_free (wc := wc) hD hS hA isC hCs
  have hE := E H.size
  rw [i5] at hE
  refine va_callv (va_runI (As := []) (rest := S) ⟨hC.1, hC.2.1, hC.2.2.1, hC.2.2.2.2.1, hT⟩ hE ⟨callB_of 0 hT (v_goodC i3) rfl hrc hrs (hT _ i2) (hT _ hl0) i6 ⟨hr1, hr2⟩, i4, hT _ i1⟩ ⟨xw_blind, fun U hU hW => xw_pre (av := [.ref b]) hC.2.2.2.2.2.2.2.1 hC.2.2.2.2.2.2.2.2 hN hAO hPc hDc hS hFc hU hW⟩ rfl rfl hl.1 rfl (lv_room hS0) d ⟨hc1, hc2⟩) hS (fun q _ h => hFc q h) hFc (fun w t H1 locs1 ht hvm hw hB hz1 hk1 hS1 => ?_)
  obtain ⟨hP1, hD1⟩ := hB
  rw [ht] at hP1
  obtain ⟨hP2, hD2⟩ := va_join (wr := wr) (w1 := w) hP hD isC isR hCs hRs hnR hdis hk1 hFc hP1 hD1
  exact k w hw H1 locs1 ls hP2 hD2 hS1 hl
theorem v_callSc {index n : Nat} {y : MethodName} {M' : xM} {R' : Room} {wc wr : va_W} {As S0 : List Value} {F : va_W → Prop} (isC isR : List Nat) (hC : xCv p g A M u m args meth c) (hA : ∀ q, u.heap.size ≤ q → A q) (hN : ∀ w ∈ xnest, va_Nw w u) (hAO : va_AO RX3 u) (d : xd M pc (.invokestatic index) 3) (hi : xCS M.2.2.2 index y M' n) (hret : M'.2.2.1 = none) (E : Cw l g R' y M' As wc 0 0 F) (hst : As.reverse ++ S = S0) (hn : As.length = n) (hCs : isC.map (fun i => ws[i]?) = wc.map some) (hRs : isR.map (fun i => ws[i]?) = wr.map some) (hnC : va_nd isC = true) (hnR : va_nd isR = true) (hdis : ∀ i ∈ isR, i ∉ isC) (hrc : R'.cells = 0) (hrs : R'.slots = 0) (hr1 : R'.frames + 1 ≤ Rm.frames) (hr2 : 8 + (M'.2.1 + 11) + R'.locals ≤ Rm.locals) (hS0 : (S.map fun v => v.category).sum ≤ 8) (hc1 : nc ≤ Rm.cells) (hc2 : ns ≤ Rm.slots)
    (k : ∀ w, F w → Rv p l e Rm u m args below meth c g A Q M (pc + 3) L S (wr ++ w) nc ns) : Rv p l e Rm u m args below meth c g A Q M pc L S0 ws nc ns := by
  intro H locs ls hP hD hS hl
  subst hst
  subst hn
  obtain ⟨i1, i2, i3, i4, i6⟩ := hi
  have hT := hC.2.2.2.2.2.1
  have hfm : ∀ {is : List Nat} {w : va_W}, is.map (fun i => ws[i]?) = w.map some → is.filterMap (fun i => ws[i]?) = w := by
    intro is w hs
    have h1 : (is.map (fun i => ws[i]?)).filterMap id = (w.map some).filterMap id := by rw [hs]
    simpa [List.filterMap_map] using h1
  have hPc := hP.sub isC (hfm hCs)
  have hDc := hD.sub isC hnC hCs
  have hFc := va_free (wc := wc) hD hS hA isC hCs
  have hE := E H.size
  have hG : GoodIn xtb (.code y M'.1 M'.2.1 M'.2.2.1 :: xtb) := x_goodIn (by
    intro w hw
    rcases List.mem_cons.mp hw with rfl | z
    · exact i4
    · exact z)
  refine va_callv (va_runS (As := As) (rest := S) (n := As.length) ⟨hC.1, hC.2.1, hC.2.2.1, hC.2.2.2.2.1, hT⟩ hE ⟨callB_of As.length hT hG rfl hrc hrs (hT _ i3) (hT _ i1) i6 ⟨hr1, hr2⟩, hT _ i2⟩ ⟨xw_blind, fun U hU hW => xw_pre (av := As) hC.2.2.2.2.2.2.2.1 hC.2.2.2.2.2.2.2.2 hN hAO hPc hDc hS hFc hU hW⟩ rfl rfl hl.1 rfl (lv_room hS0) d ⟨hc1, hc2⟩) hS (fun q _ h => hFc q h) hFc (fun w t H1 locs1 ht hvm hw hB hz1 hk1 hS1 => ?_)
  obtain ⟨hP1, hD1⟩ := hB
  rw [ht] at hP1
  obtain ⟨hP2, hD2⟩ := va_join (wr := wr) (w1 := w) hP hD isC isR hCs hRs hnR hdis hk1 hFc hP1 hD1
  exact k w hw H1 locs1 ls hP2 hD2 hS1 hl
end RV
