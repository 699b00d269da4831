/-! contracts and calls -/
def Ev (l : Launch) (g : xG) (h : Nat) (y : MethodName) (M : xM) (av : List Value) (s : xS) (R : Option Value × xS) : Prop :=
  ∀ sz : Nat, Met l y (.code y M.1 M.2.1 M.2.2.1 :: xtb) (xR h) (va_Pc av (fun U => U.heap.size = sz ∧ va_P (xD g) vwCl (xw g s) U.heap ∧ va_K (xD g) vwCl (xtys g) U ∧ va_D (xA g sz) (xw g s) ∧ xStr g (xA g sz) U U.heap)) (xQ g (xA g sz) R) 0 0 (xA g sz)
theorem xw_map (g : xG) (s : xS) : (xw g s).map Prod.fst = (List.range 60).map (xa g) := rfl
theorem xw_addr {g : xG} {s : xS} {k : Nat} {q : Nat × va_E} (hk : (xw g s)[k]? = some q) : k < 60 ∧ q.1 = xa g k := by
  have h1 : ((xw g s).map Prod.fst)[k]? = some q.1 := by rw [List.getElem?_map, hk]; rfl
  rw [xw_map, List.getElem?_map] at h1
  have hr : k < 60 := by
    rcases Nat.lt_or_ge k 60 with z | z
    · exact z
    · rw [List.getElem?_eq_none (by simpa using z)] at h1; cases h1
  rw [List.getElem?_range hr] at h1
  exact ⟨hr, (Option.some.inj h1).symm⟩
/-- the addresses are apart -/
def xap (g : xG) : Prop := ∀ i j, i < 60 → j < 60 → xa g i = xa g j → i = j
theorem xap_of {g : xG} {s : xS} {A : Nat → Prop} (hD : va_D A (xw g s)) : xap g := by
  have hx : ∀ i, i < 60 → ∃ q, (xw g s)[i]? = some q ∧ q.1 = xa g i := by
    intro i hi
    have hl : i < (xw g s).length := by
      have : (xw g s).length = 60 := rfl
      omega
    refine ⟨_, List.getElem?_eq_getElem hl, (xw_addr (List.getElem?_eq_getElem hl)).2⟩
  intro i j hi hj e
  obtain ⟨a, ha, ea⟩ := hx i hi
  obtain ⟨b, hb, eb⟩ := hx j hj
  exact hD.1 i j a b ha hb (ea.trans (e.trans eb.symm))
theorem xap_D {g : xG} (h : xap g) (s : xS) (sz : Nat) : va_D (xA g sz) (xw g s) := by
  refine ⟨fun i j a b ha hb e => ?_, fun k q hk => ?_⟩
  · obtain ⟨h1, e1⟩ := xw_addr ha
    obtain ⟨h2, e2⟩ := xw_addr hb
    exact h i j h1 h2 (e1.symm.trans (e.trans e2))
  · obtain ⟨h1, e1⟩ := xw_addr hk
    exact Or.inl ⟨k, h1, e1⟩
/-- the locals at the entry -/
def xin0 : List Value → List (Option Value)
  | [] => []
  | v :: vs => if v.category = 2 then some v :: none :: xin0 vs else some v :: xin0 vs
theorem xin0_mem (n : Nat) : ∀ (vs : List Value) (o i : Nat) (v : Value), (xin0 vs ++ List.replicate n none)[i]? = some (some v) → (o + i, v) ∈ lv_args o vs
  | [], o, i, v, hv => by
    simp only [xin0, List.nil_append, List.getElem?_replicate] at hv
    split at hv <;> simp at hv
  | w :: vs, o, i, v, hv => by
    unfold xin0 at hv
    unfold lv_args
    by_cases hc : w.category = 2
    · rw [if_pos hc] at hv
      rw [if_pos hc]
      match i, hv with
      | 0, hv =>
        simp only [List.cons_append, List.getElem?_cons_zero, Option.some.injEq] at hv
        subst hv
        exact List.mem_cons_self
      | 1, hv => simp at hv
      | i + 2, hv =>
        simp only [List.cons_append, List.getElem?_cons_succ] at hv
        have := xin0_mem n vs (o + 2) i v hv
        rw [show o + (i + 2) = o + 2 + i by omega]
        exact List.mem_cons_of_mem _ this
    · rw [if_neg hc] at hv
      rw [if_neg hc]
      match i, hv with
      | 0, hv =>
        simp only [List.cons_append, List.getElem?_cons_zero, Option.some.injEq] at hv
        subst hv
        exact List.mem_cons_self
      | i + 1, hv =>
        simp only [List.cons_append, List.getElem?_cons_succ] at hv
        have := xin0_mem n vs (o + 1) i v hv
        rw [show o + (i + 1) = o + 1 + i by omega]
        exact List.mem_cons_of_mem _ this
theorem Ev.of {l : Launch} {g : xG} {h : Nat} {y : MethodName} {M : xM} {av : List Value} {s : xS} {R : Option Value × xS} {L0 : List (Option Value)} (n : Nat) (hy : plainName y.cls = true) (hc : y.cls = M.2.2.2) (hlen : (lg_sl av).length ≤ M.2.1) (hL : xin0 av ++ List.replicate n none = L0) (k : Rx l g h M 0 L0 [] s R) : Ev l g h y M av s R := by
  intro sz
  refine Met.ofW (cc := M.1) (maxL := M.2.1) (ret := M.2.2.1) hy rfl ?_
  intro p e u m args below meth c s₁ B hml hv
  obtain ⟨rfl, hsz, hP, hK, hD, hX⟩ := hv
  subst hsz
  have hts := atoms_spec (ws := .code y M.1 M.2.1 M.2.2.1 :: xtb) B.pre
  have hown : u.vm.findClass y.cls = some m.cls := findClass_of_methodNamed B.named
  rw [lg_entry_eq]
  have he := lv_entry av (n := M.2.1) hlen
  refine k p e u m _ below meth c u.heap [] _ ⟨B.exec, B.bytes, hml, B.returns, hc ▸ hown, fun w hw => hts w (List.mem_cons_of_mem _ hw), B.notSynchronized, hK, hX⟩ hP hD va_S.rf ⟨he.1, he.2.1, fun i v hi => ?_⟩
  have hm := xin0_mem n av 0 i v (by rw [hL]; exact hi)
  rw [Nat.zero_add] at hm
  exact he.2.2 _ hm
theorem x_good : ∀ w ∈ xtb, goodWord w = true := fun w h => (List.mem_filter.mp h).2
theorem x_goodIn {ws : List Cond} (hw : ∀ w ∈ ws, w ∈ xtb) : GoodIn xtb ws := fun w h => ⟨hw w h, good_of_word (x_good w (hw w h))⟩
/-- what the tables say of a call -/
def xCV (own : String) (index : Nat) (y : MethodName) (M : xM) (n : Nat) : Prop := Cond.methodLink own index y ∈ xtb ∧ Cond.instanceMethod y ∈ xtb ∧ Cond.selects y.cls y y ∈ xtb ∧ Cond.initialized y.cls ∈ xtb ∧ Cond.code y M.1 M.2.1 M.2.2.1 ∈ xtb ∧ (y.cls ≠ "java/lang/invoke/MethodHandle" ∧ y.cls ≠ "java/lang/invoke/VarHandle" ∧ (parseMethodDescriptor y.desc).map (fun d => d.parameters.length) = some n)
def xCS (own : String) (index : Nat) (y : MethodName) (M : xM) (n : Nat) : Prop := Cond.methodLink own index y ∈ xtb ∧ Cond.static y ∈ xtb ∧ Cond.initialized y.cls ∈ xtb ∧ Cond.code y M.1 M.2.1 M.2.2.1 ∈ xtb ∧ (y.cls ≠ "java/lang/invoke/MethodHandle" ∧ y.cls ≠ "java/lang/invoke/VarHandle" ∧ (parseMethodDescriptor y.desc).map (fun d => d.parameters.length) = some n)
theorem x_blind {g : xG} {av : List Value} {s : xS} {sz : Nat} : FrameBlind (va_Pc av (fun U => U.heap.size = sz ∧ va_P (xD g) vwCl (xw g s) U.heap ∧ va_K (xD g) vwCl (xtys g) U ∧ va_D (xA g sz) (xw g s) ∧ xStr g (xA g sz) U U.heap)) := by
  intro a U gg mk q
  obtain ⟨q0, q1, q2, q3, q4, q5⟩ := q
  exact ⟨q0, q1, q2, va_K.moved (u := U) (U := U.calling gg mk a) (Vm.Alike.refl U.vm) q3, q4, q5.same rfl⟩
theorem x_narrow {g : xG} {a b : Nat} (h : a ≤ b) : ∀ q, xA g b q → xA g a q := fun q hq => hq.elim Or.inl (fun z => Or.inr (Nat.le_trans h z))
theorem x_pre {g : xG} {av : List Value} {s : xS} {u U : State} {H : Heap} {locs : List Loc} (hK : va_K (xD g) vwCl (xtys g) u) (hX : xStr g (xA g u.heap.size) u u.heap) (hP : va_P (xD g) vwCl (xw g s) H) (hD : va_D (xA g u.heap.size) (xw g s)) (hS : va_S (xA g u.heap.size) u.heap H locs) (hU : U.heap = H) (hW : u.WarmedH U.vm) :
    va_Pc av (fun U => U.heap.size = H.size ∧ va_P (xD g) vwCl (xw g s) U.heap ∧ va_K (xD g) vwCl (xtys g) U ∧ va_D (xA g H.size) (xw g s) ∧ xStr g (xA g H.size) U U.heap) av.toArray U := by
  refine ⟨rfl, by rw [hU], by rw [hU]; exact hP, va_K.moved hW.alike hK, xap_D (xap_of hD) s H.size, ?_⟩
  rw [hU]
  exact hX.go hW hS.2.1 (x_narrow hS.1)
section CALLS
variable {l : Launch} {g : xG} {h : Nat} {M : xM} {pc : Nat} {L : List (Option Value)} {S : List Value} {s s' : xS} {R : Option Value × xS}
theorem x_after {p : Program} {e : Env} {u : State} {m : MethodId} {args : Array Value} {below : List Frame} {meth : Method} {c : Code} {H : Heap} {locs : List Loc} {ls : Array Slot} {st0 : List Value} {o : Option Value} {a : Array Value} {Q : State → Prop} (hD : va_D (xA g u.heap.size) (xw g s)) (hS : va_S (xA g u.heap.size) u.heap H locs)
    (hr : va_Run p l e (xR h) u m args below meth c H locs 0 0 0 0 (F0 m pc ls st0) S (xQ g (xA g H.size) (o, s') a) (xA g H.size))
    (k : ∀ (H1 : Heap) (locs1 : List Loc), va_P (xD g) vwCl (xw g s') H1 → va_D (xA g u.heap.size) (xw g s') → va_S (xA g u.heap.size) u.heap H1 locs1 → W p l e (xR h) u m args below meth c H1 locs1 0 0 Q (F0 m (pc + 3) ls (o.toList ++ S))) : W p l e (xR h) u m args below meth c H locs 0 0 Q (F0 m pc ls st0) := by
  intro T hT X
  obtain ⟨v, st₀, t, T', Lc, h0, X', hL, e1, e2, ⟨⟨hv, hP1⟩, hz, hk⟩, st⟩ := hr T hT X
  cases hv
  rw [h0] at hz hk
  obtain ⟨t2, a1, b1⟩ := k T'.heap (locs ++ Lc) (by rw [e1]; exact hP1) (xap_D (xap_of hD) s' _)
    ⟨Nat.le_trans hS.1 (by rw [e1]; exact hz), fun q h1 h2 => by
      rw [e1, hk q (Nat.lt_of_lt_of_le h1 hS.1) (fun z => h2 (x_narrow hS.1 q z))]
      exact hS.2.1 q h1 h2, fun q hq => by
      rcases List.mem_append.mp hq with z | z
      · exact hS.2.2 q z
      · exact x_narrow hS.1 _ (hL q z)⟩ T' rfl X'
  exact ⟨t2, st t2 a1, b1⟩
theorem r_callV {y : MethodName} {M' : xM} {index h' q0 ci : Nat} {As S0 fs : List Value} {b : Nat} {o : Option Value} {q : vw_C} (d : xd M pc (.invokevirtual index) 3) (hc : xCV M.2.2.2 index y M' As.length) (hq : vwCl[ci]? = some q) (hy : q.1 = y.cls) (he : (xw g s)[q0]? = some (b, .inr (ci, fs))) (hh : h' + 1 ≤ h) (hm : M'.2.1 ≤ 21) (hS0 : (S.map fun v => v.category).sum ≤ 8) (E : Ev l g h' y M' (.ref b :: As) s (o, s'))
    (hst : As.reverse ++ .ref b :: S = S0) (k : Rx l g h M (pc + 3) L (o.toList ++ S) s' R) : Rx l g h M pc L S0 s R := by
  intro p e u m args below meth c H locs ls hC hP hD hS hl
  subst hst
  obtain ⟨c1, c2, c3, c4, c5, c6⟩ := hc
  have hG : GoodIn xtb (wsV M.2.2.2 index y.cls y (.code y M'.1 M'.2.1 M'.2.2.1 :: xtb)) := x_goodIn (by
    intro w hw
    rcases List.mem_append.mp hw with z | z
    · simp only [List.mem_cons, List.not_mem_nil, or_false] at z
      rcases z with rfl | rfl | rfl | rfl <;> assumption
    · rcases List.mem_cons.mp z with rfl | z
      · exact c5
      · exact z)
  have hrecv := va_recv hC.2.2.2.2.2.2.2.1 hP hq he
  rw [hy] at hrecv
  refine x_after hD hS (va_runV (C := y.cls) (As := As) (rest := S) (n := As.length) ⟨hC.1, hC.2.1, hC.2.2.1, hC.2.2.2.2.1, hC.2.2.2.2.2.1⟩ (E H.size) (cwV As.length hC.2.2.2.2.2.1 hG rfl rfl rfl ⟨rfl, c6⟩ ⟨hh, by show 8 + (M'.2.1 + 11) + 40 * h' ≤ 40 * h; omega⟩) ⟨x_blind, hrecv, fun U hU hW => x_pre hC.2.2.2.2.2.2.2.1 hC.2.2.2.2.2.2.2.2 hP hD hS hU hW⟩ rfl rfl hl.1 rfl (lv_room hS0) d ⟨Nat.le_refl _, Nat.le_refl _⟩) (fun H1 locs1 hP1 hD1 hS1 => k p e u m args below meth c H1 locs1 ls hC hP1 hD1 hS1 hl)
theorem r_callS {y : MethodName} {M' : xM} {index h' : Nat} {As S0 : List Value} {o : Option Value} (d : xd M pc (.invokestatic index) 3) (hc : xCS M.2.2.2 index y M' As.length) (hh : h' + 1 ≤ h) (hm : M'.2.1 ≤ 21) (hS0 : (S.map fun v => v.category).sum ≤ 8) (E : Ev l g h' y M' As s (o, s'))
    (hst : As.reverse ++ S = S0) (k : Rx l g h M (pc + 3) L (o.toList ++ S) s' R) : Rx l g h M pc L S0 s R := by
  intro p e u m args below meth c H locs ls hC hP hD hS hl
  subst hst
  obtain ⟨c1, c2, c3, c4, c6⟩ := hc
  have hG : GoodIn xtb (.code y M'.1 M'.2.1 M'.2.2.1 :: xtb) := x_goodIn (by
    intro w hw
    rcases List.mem_cons.mp hw with rfl | z
    · exact c4
    · exact z)
  refine x_after hD hS (va_runS (As := As) (rest := S) (n := As.length) ⟨hC.1, hC.2.1, hC.2.2.1, hC.2.2.2.2.1, hC.2.2.2.2.2.1⟩ (E H.size) ⟨callB_of As.length hC.2.2.2.2.2.1 hG rfl rfl rfl (hC.2.2.2.2.2.1 _ c3) (hC.2.2.2.2.2.1 _ c1) c6 ⟨hh, by show 8 + (M'.2.1 + 11) + 40 * h' ≤ 40 * h; omega⟩, hC.2.2.2.2.2.1 _ c2⟩ ⟨x_blind, fun U hU hW => x_pre hC.2.2.2.2.2.2.2.1 hC.2.2.2.2.2.2.2.2 hP hD hS hU hW⟩ rfl rfl hl.1 rfl (lv_room hS0) d ⟨Nat.le_refl _, Nat.le_refl _⟩) (fun H1 locs1 hP1 hD1 hS1 => k p e u m args below meth c H1 locs1 ls hC hP1 hD1 hS1 hl)
end CALLS
