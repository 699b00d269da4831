theorem f_some {α : Type} {x : Option α} {d : α} (h : x.isSome = true) : x = some (x.getD d) := by
  cases x with
  | none => cases h
  | some y => rfl
/-- the reference's state, new -/
def b1 : xT := (f_X8_empty 20 b0).getD b0
theorem b1_ok : f_X8_empty 20 b0 = some b1 := f_some (by decide +kernel)
section EVC
variable {p : Program} {l : Launch} {e : Env} {Rm : Room} {u : State} {m : MethodId} {args : Array Value} {below : List Frame} {meth : Method} {c : Code} {g : xG} {A : Nat → Prop} {Q : State → Prop} {M : xM} {pc : Nat} {L L' : List (Option Value)} {S : List Value} {ws ws' : va_W} {nc ns : Nat}
theorem v_callEv {ad : Nat → Nat} {s s' : xS} {y : MethodName} {M' : xM} {index h' q0 ci n : Nat} {As S0 fs : List Value} {b : Nat} {o : Option Value} {q : vw_C} (hC : xCv p g A M u m args meth c) (hA : ∀ q, u.heap.size ≤ q → A q) (d : xd M pc (.invokevirtual index) 3) (hc : xCV M.2.2.2 index y M' n) (hq : vwCl[ci]? = some q) (hy : q.1 = y.cls) (he : (xw (x_ad g ad) s)[q0]? = some (b, .inr (ci, fs))) (hr1 : h' + 1 ≤ Rm.frames) (hr2 : 8 + (M'.2.1 + 11) + 40 * h' ≤ Rm.locals) (hc1 : nc ≤ Rm.cells) (hc2 : ns ≤ Rm.slots) (hS0 : (S.map fun v => v.category).sum ≤ 8) (E : Ev l (x_ad g ad) h' y M' (.ref b :: As) s (o, s'))
    (hst : As.reverse ++ .ref b :: S = S0) (hn : As.length = n) (k : Rv p l e Rm u m args below meth c g A Q M (pc + 3) L (o.toList ++ S) (xw (x_ad g ad) s') nc ns) : Rv p l e Rm u m args below meth c g A Q M pc L S0 (xw (x_ad g ad) s) nc ns := by
  intro H locs ls hP hD hS hl
  subst hst
  subst hn
  obtain ⟨c1, c2, c3, c4, c5, c6⟩ := hc
  have hT := hC.2.2.2.2.2.1
  have hG : GoodIn xtb (wsV M.2.2.2 index y.cls y (.code y M'.1 M'.2.1 M'.2.2.1 :: xtb)) := x_goodIn (by
    intro w hw
    rcases List.mem_append.mp hw with z | z
    · simp only [List.mem_cons, List.not_mem_nil, or_false] at z
      rcases z with rfl | rfl | rfl | rfl <;> assumption
    · rcases List.mem_cons.mp z with rfl | z
      · exact c5
      · exact z)
  have hap : xap (x_ad g ad) := xap_of hD
  have hF : ∀ q, xA (x_ad g ad) H.size q → A q := by
    intro q hq
    rcases hq with ⟨c0, h0, rfl⟩ | z
    · have hl0 : c0 < (xw (x_ad g ad) s).length := h0
      have h1 := hD.2 c0 _ (List.getElem?_eq_getElem hl0)
      rw [(xw_addr (List.getElem?_eq_getElem hl0)).2] at h1
      exact h1
    · exact hA q (Nat.le_trans hS.1 z)
  have hrecv := va_recv hC.2.2.2.2.2.2.2.1 hP hq he
  rw [hy] at hrecv
  have hrun := va_runV (C := y.cls) (As := As) (rest := S) (n := As.length) (cells := nc) (slots := ns) (locs := locs) (e := e) (below := below) (meth := meth) (R := Rm) (g := F0 m pc ls (As.reverse ++ .ref b :: S)) ⟨hC.1, hC.2.1, hC.2.2.1, hC.2.2.2.2.1, hT⟩ (E H.size) (cwV As.length hT hG rfl rfl rfl ⟨rfl, c6⟩ ⟨hr1, hr2⟩) ⟨x_blind, hrecv, fun U hU hW => ⟨rfl, by rw [hU], by rw [hU]; exact hP, va_K.moved hW.alike hC.2.2.2.2.2.2.2.1, xap_D hap s H.size, by rw [hU]; exact hC.2.2.2.2.2.2.2.2.go hW hS.2.1 hF⟩⟩ rfl rfl hl.1 rfl (lv_room hS0) d ⟨hc1, hc2⟩
  intro T hT0 X
  obtain ⟨v, st₀, t, T', Lc, h0, X', hL, e1, e2, ⟨⟨hv, hP1⟩, hz, hk⟩, st⟩ := hrun T hT0 X
  cases hv
  rw [h0] at hz hk
  have hD1 : va_D A (xw (x_ad g ad) s') := (xap_D hap s' H.size).weaken (fun _ q _ hq => hF q.1 hq)
  obtain ⟨t2, a1, b1⟩ := k T'.heap (locs ++ Lc) ls (by rw [e1]; exact hP1) hD1
    ⟨Nat.le_trans hS.1 (by rw [e1]; exact hz), fun q h1 h2 => by
      rw [e1, hk q (Nat.lt_of_lt_of_le h1 hS.1) (fun z => h2 (hF q z))]
      exact hS.2.1 q h1 h2, fun q hq => by
      rcases List.mem_append.mp hq with z | z
      · exact hS.2.2 q z
      · exact hF _ (hL q z)⟩ hl T' rfl X'
  exact ⟨t2, st t2 a1, b1⟩
end EVC
theorem OL_X8_1 : Cond.methodLink RX8 1 objectInit ∈ xtb := x_in 898 (by decide +kernel) rfl
theorem G_X8_7 : xF RX8 7 8 0 := ⟨RX8, TX8, 35, tyX8, rfl, by decide, x_in 903 (by decide +kernel) rfl, i_X8, tyX8_ok, nmX8⟩
theorem Fq_8_0 : xFp 8 0 .int := fun C T N hC => by
  have h2 : (RX8, TX8, 35) = (C, T, N) := Option.some.inj hC
  cases h2
  exact ⟨rfl, by decide +kernel⟩
theorem G_X8_13 : xF RX8 13 8 2 := ⟨RX8, TX8, 35, tyX8, rfl, by decide, x_in 905 (by decide +kernel) rfl, i_X8, tyX8_ok, nmX8⟩
theorem Fq_8_2 : xFp 8 2 .int := fun C T N hC => by
  have h2 : (RX8, TX8, 35) = (C, T, N) := Option.some.inj hC
  cases h2
  exact ⟨rfl, by decide +kernel⟩
theorem G_X8_16 : xF RX8 16 8 4 := ⟨RX8, TX8, 35, tyX8, rfl, by decide, x_in 907 (by decide +kernel) rfl, i_X8, tyX8_ok, nmX8⟩
theorem Ff_8_4 : xFf 8 4 (.array .int) RX8 := fun C T N hC => by
  have h2 : (RX8, TX8, 35) = (C, T, N) := Option.some.inj hC
  cases h2
  exact ⟨rfl, by decide +kernel, rfl⟩
theorem G_X8_20 : xF RX8 20 8 5 := ⟨RX8, TX8, 35, tyX8, rfl, by decide, x_in 908 (by decide +kernel) rfl, i_X8, tyX8_ok, nmX8⟩
theorem Ff_8_5 : xFf 8 5 (.array .int) RX8 := fun C T N hC => by
  have h2 : (RX8, TX8, 35) = (C, T, N) := Option.some.inj hC
  cases h2
  exact ⟨rfl, by decide +kernel, rfl⟩
theorem G_X8_23 : xF RX8 23 8 6 := ⟨RX8, TX8, 35, tyX8, rfl, by decide, x_in 909 (by decide +kernel) rfl, i_X8, tyX8_ok, nmX8⟩
theorem Ff_8_6 : xFf 8 6 (.array .int) RX8 := fun C T N hC => by
  have h2 : (RX8, TX8, 35) = (C, T, N) := Option.some.inj hC
  cases h2
  exact ⟨rfl, by decide +kernel, rfl⟩
theorem G_X8_26 : xF RX8 26 8 7 := ⟨RX8, TX8, 35, tyX8, rfl, by decide, x_in 910 (by decide +kernel) rfl, i_X8, tyX8_ok, nmX8⟩
theorem Ff_8_7 : xFf 8 7 (.array .int) RX8 := fun C T N hC => by
  have h2 : (RX8, TX8, 35) = (C, T, N) := Option.some.inj hC
  cases h2
  exact ⟨rfl, by decide +kernel, rfl⟩
theorem G_X8_29 : xF RX8 29 8 8 := ⟨RX8, TX8, 35, tyX8, rfl, by decide, x_in 911 (by decide +kernel) rfl, i_X8, tyX8_ok, nmX8⟩
theorem Ff_8_8 : xFf 8 8 (.array .int) RX8 := fun C T N hC => by
  have h2 : (RX8, TX8, 35) = (C, T, N) := Option.some.inj hC
  cases h2
  exact ⟨rfl, by decide +kernel, rfl⟩
theorem G_X8_32 : xF RX8 32 8 10 := ⟨RX8, TX8, 35, tyX8, rfl, by decide, x_in 913 (by decide +kernel) rfl, i_X8, tyX8_ok, nmX8⟩
theorem Ff_8_10 : xFf 8 10 (.array .int) RX8 := fun C T N hC => by
  have h2 : (RX8, TX8, 35) = (C, T, N) := Option.some.inj hC
  cases h2
  exact ⟨rfl, by decide +kernel, rfl⟩
theorem G_X8_35 : xF RX8 35 8 12 := ⟨RX8, TX8, 35, tyX8, rfl, by decide, x_in 915 (by decide +kernel) rfl, i_X8, tyX8_ok, nmX8⟩
theorem Ff_8_12 : xFf 8 12 (.array .int) RX8 := fun C T N hC => by
  have h2 : (RX8, TX8, 35) = (C, T, N) := Option.some.inj hC
  cases h2
  exact ⟨rfl, by decide +kernel, rfl⟩
theorem G_X8_38 : xF RX8 38 8 13 := ⟨RX8, TX8, 35, tyX8, rfl, by decide, x_in 916 (by decide +kernel) rfl, i_X8, tyX8_ok, nmX8⟩
theorem Ff_8_13 : xFf 8 13 (.array .int) RX8 := fun C T N hC => by
  have h2 : (RX8, TX8, 35) = (C, T, N) := Option.some.inj hC
  cases h2
  exact ⟨rfl, by decide +kernel, rfl⟩
theorem G_X8_41 : xF RX8 41 8 15 := ⟨RX8, TX8, 35, tyX8, rfl, by decide, x_in 918 (by decide +kernel) rfl, i_X8, tyX8_ok, nmX8⟩
theorem Fq_8_15 : xFp 8 15 .int := fun C T N hC => by
  have h2 : (RX8, TX8, 35) = (C, T, N) := Option.some.inj hC
  cases h2
  exact ⟨rfl, by decide +kernel⟩
theorem G_X8_44 : xF RX8 44 8 21 := ⟨RX8, TX8, 35, tyX8, rfl, by decide, x_in 924 (by decide +kernel) rfl, i_X8, tyX8_ok, nmX8⟩
theorem Ff_8_21 : xFf 8 21 (.array .int) RX8 := fun C T N hC => by
  have h2 : (RX8, TX8, 35) = (C, T, N) := Option.some.inj hC
  cases h2
  exact ⟨rfl, by decide +kernel, rfl⟩
theorem G_X8_47 : xF RX8 47 8 22 := ⟨RX8, TX8, 35, tyX8, rfl, by decide, x_in 925 (by decide +kernel) rfl, i_X8, tyX8_ok, nmX8⟩
theorem Ff_8_22 : xFf 8 22 (.array .int) RX8 := fun C T N hC => by
  have h2 : (RX8, TX8, 35) = (C, T, N) := Option.some.inj hC
  cases h2
  exact ⟨rfl, by decide +kernel, rfl⟩
theorem G_X8_50 : xF RX8 50 8 24 := ⟨RX8, TX8, 35, tyX8, rfl, by decide, x_in 927 (by decide +kernel) rfl, i_X8, tyX8_ok, nmX8⟩
theorem Ff_8_24 : xFf 8 24 (.array .int) RX8 := fun C T N hC => by
  have h2 : (RX8, TX8, 35) = (C, T, N) := Option.some.inj hC
  cases h2
  exact ⟨rfl, by decide +kernel, rfl⟩
theorem G_X8_53 : xF RX8 53 8 27 := ⟨RX8, TX8, 35, tyX8, rfl, by decide, x_in 930 (by decide +kernel) rfl, i_X8, tyX8_ok, nmX8⟩
theorem Ff_8_27 : xFf 8 27 (.array .boolean) RX8 := fun C T N hC => by
  have h2 : (RX8, TX8, 35) = (C, T, N) := Option.some.inj hC
  cases h2
  exact ⟨rfl, by decide +kernel, rfl⟩
theorem G_X8_57 : xF RX8 57 8 28 := ⟨RX8, TX8, 35, tyX8, rfl, by decide, x_in 931 (by decide +kernel) rfl, i_X8, tyX8_ok, nmX8⟩
theorem Ff_8_28 : xFf 8 28 (.array .int) RX8 := fun C T N hC => by
  have h2 : (RX8, TX8, 35) = (C, T, N) := Option.some.inj hC
  cases h2
  exact ⟨rfl, by decide +kernel, rfl⟩
theorem G_X8_60 : xF RX8 60 8 29 := ⟨RX8, TX8, 35, tyX8, rfl, by decide, x_in 932 (by decide +kernel) rfl, i_X8, tyX8_ok, nmX8⟩
theorem Ff_8_29 : xFf 8 29 (.array .long) RX8 := fun C T N hC => by
  have h2 : (RX8, TX8, 35) = (C, T, N) := Option.some.inj hC
  cases h2
  exact ⟨rfl, by decide +kernel, rfl⟩
theorem G_X8_64 : xF RX8 64 8 30 := ⟨RX8, TX8, 35, tyX8, rfl, by decide, x_in 933 (by decide +kernel) rfl, i_X8, tyX8_ok, nmX8⟩
theorem Ff_8_30 : xFf 8 30 (.array .int) RX8 := fun C T N hC => by
  have h2 : (RX8, TX8, 35) = (C, T, N) := Option.some.inj hC
  cases h2
  exact ⟨rfl, by decide +kernel, rfl⟩
theorem CE_X8_67 : xCV RX8 67 yX8_empty M_X8_empty 0 := ⟨x_in 899 (by decide +kernel) rfl, x_in 901 (by decide +kernel) rfl, x_in 36 (by decide +kernel) rfl, x_in 87 (by decide +kernel) rfl, x_in 902 (by decide +kernel) rfl, by decide +kernel⟩
set_option maxRecDepth 100000 in
set_option maxHeartbeats 8000000 in
theorem k_X8_init {l : Launch} {g : xG} {a : xT} {b : Nat} : Cw l g { frames := 4, cells := 15, slots := 5339, locals := 150 } yX8_init M_X8_init [.ref b] (xw1 g a ++ [(b, .inr (8, [.int 0, .int 0, .int 0, .int 0, .null, .null, .null, .null, .null, .int 0, .null, .int 0, .null, .null, .int 0, .int 0, .int 0, .long 0, .int 0, .int 0, .int 0, .null, .null, .int 0, .null, .int 0, .int 0, .null, .null, .null, .null, .int 0, .int 0, .int 0, .long 0]))]) 15 5339 (fun w => ∃ ad : Nat → Nat, (∀ k, k < 44 → ad k = xa g k) ∧ ad 44 = b ∧ w = xw (x_ad g ad) (a, b1)) := by
  refine Cw.of 0 (L0 := [some (.ref b)]) (by decide) rfl (Nat.le_of_ble_eq_true rfl) rfl ?_
  intro p e u m args below meth c A hC hnm hA hN hAO
  refine v_aload_n hC DX8_init_0 (i := 0) rfl rfl ?_
  refine v_objInit hC DX8_init_1 OL_X8_1 OI_1 OI_2 (by decide) (Nat.le_of_ble_eq_true rfl) ?_
  refine v_aload_n hC DX8_init_4 (i := 0) rfl rfl ?_
  refine v_bipush hC DX8_init_5 (v := 7) (by decide) ?_
  refine v_put (ws' := xw1 g a ++ [(b, .inr (8, [.int 7, .int 0, .int 0, .int 0, .null, .null, .null, .null, .null, .int 0, .null, .int 0, .null, .null, .int 0, .int 0, .int 0, .long 0, .int 0, .int 0, .int 0, .null, .null, .int 0, .null, .int 0, .int 0, .null, .null, .null, .null, .int 0, .int 0, .int 0, .long 0]))]) (q0 := 44) hC DX8_init_7 G_X8_7 Fq_8_0 rfl rfl rfl (Nat.le_of_ble_eq_true rfl) rfl ?_
  refine v_aload_n hC DX8_init_10 (i := 0) rfl rfl ?_
  refine v_iconst hC DX8_init_11 (v := 1) (by decide) ?_
  refine v_put (ws' := xw1 g a ++ [(b, .inr (8, [.int 7, .int 0, .int 1, .int 0, .null, .null, .null, .null, .null, .int 0, .null, .int 0, .null, .null, .int 0, .int 0, .int 0, .long 0, .int 0, .int 0, .int 0, .null, .null, .int 0, .null, .int 0, .int 0, .null, .null, .null, .null, .int 0, .int 0, .int 0, .long 0]))]) (q0 := 44) hC DX8_init_12 G_X8_13 Fq_8_2 rfl rfl rfl (Nat.le_of_ble_eq_true rfl) rfl ?_
  refine v_aload_n hC DX8_init_15 (i := 0) rfl rfl ?_
  refine v_bipush hC DX8_init_16 (v := 6) (by decide) ?_
  refine v_newi (N' := 6) hC hA DX8_init_18 AC_int (by decide) (by decide) (by decide) (Nat.le_of_ble_eq_true rfl) (Nat.le_of_ble_eq_true rfl) (fun q0 => ?_)
  refine v_eq (ws' := xw1 g a ++ [(b, .inr (8, [.int 7, .int 0, .int 1, .int 0, .null, .null, .null, .null, .null, .int 0, .null, .int 0, .null, .null, .int 0, .int 0, .int 0, .long 0, .int 0, .int 0, .int 0, .null, .null, .int 0, .null, .int 0, .int 0, .null, .null, .null, .null, .int 0, .int 0, .int 0, .long 0])), (q0, .inl (g.2.2.2.2.1, 6, .inl (fun _ => 0)))]) (List.append_assoc _ _ _) ?_
  refine v_putF (ws' := xw1 g a ++ [(b, .inr (8, [.int 7, .int 0, .int 1, .int 0, .ref q0, .null, .null, .null, .null, .int 0, .null, .int 0, .null, .null, .int 0, .int 0, .int 0, .long 0, .int 0, .int 0, .int 0, .null, .null, .int 0, .null, .int 0, .int 0, .null, .null, .null, .null, .int 0, .int 0, .int 0, .long 0])), (q0, .inl (g.2.2.2.2.1, 6, .inl (fun _ => 0)))]) (q0 := 44) hC hnm DX8_init_20 G_X8_16 Ff_8_4 rfl rfl rfl (Nat.le_of_ble_eq_true rfl) rfl ?_
  refine v_aload_n hC DX8_init_23 (i := 0) rfl rfl ?_
  refine v_sipush hC DX8_init_24 (v := 384) (by decide) ?_
  refine v_newi (N' := 384) hC hA DX8_init_27 AC_int (by decide) (by decide) (by decide) (Nat.le_of_ble_eq_true rfl) (Nat.le_of_ble_eq_true rfl) (fun q1 => ?_)
  refine v_eq (ws' := xw1 g a ++ [(b, .inr (8, [.int 7, .int 0, .int 1, .int 0, .ref q0, .null, .null, .null, .null, .int 0, .null, .int 0, .null, .null, .int 0, .int 0, .int 0, .long 0, .int 0, .int 0, .int 0, .null, .null, .int 0, .null, .int 0, .int 0, .null, .null, .null, .null, .int 0, .int 0, .int 0, .long 0])), (q0, .inl (g.2.2.2.2.1, 6, .inl (fun _ => 0))), (q1, .inl (g.2.2.2.2.1, 384, .inl (fun _ => 0)))]) (List.append_assoc _ _ _) ?_
  refine v_putF (ws' := xw1 g a ++ [(b, .inr (8, [.int 7, .int 0, .int 1, .int 0, .ref q0, .ref q1, .null, .null, .null, .int 0, .null, .int 0, .null, .null, .int 0, .int 0, .int 0, .long 0, .int 0, .int 0, .int 0, .null, .null, .int 0, .null, .int 0, .int 0, .null, .null, .null, .null, .int 0, .int 0, .int 0, .long 0])), (q0, .inl (g.2.2.2.2.1, 6, .inl (fun _ => 0))), (q1, .inl (g.2.2.2.2.1, 384, .inl (fun _ => 0)))]) (q0 := 44) hC hnm DX8_init_29 G_X8_20 Ff_8_5 rfl rfl rfl (Nat.le_of_ble_eq_true rfl) rfl ?_
  refine v_aload_n hC DX8_init_32 (i := 0) rfl rfl ?_
  refine v_bipush hC DX8_init_33 (v := 34) (by decide) ?_
  refine v_newi (N' := 34) hC hA DX8_init_35 AC_int (by decide) (by decide) (by decide) (Nat.le_of_ble_eq_true rfl) (Nat.le_of_ble_eq_true rfl) (fun q2 => ?_)
  refine v_eq (ws' := xw1 g a ++ [(b, .inr (8, [.int 7, .int 0, .int 1, .int 0, .ref q0, .ref q1, .null, .null, .null, .int 0, .null, .int 0, .null, .null, .int 0, .int 0, .int 0, .long 0, .int 0, .int 0, .int 0, .null, .null, .int 0, .null, .int 0, .int 0, .null, .null, .null, .null, .int 0, .int 0, .int 0, .long 0])), (q0, .inl (g.2.2.2.2.1, 6, .inl (fun _ => 0))), (q1, .inl (g.2.2.2.2.1, 384, .inl (fun _ => 0))), (q2, .inl (g.2.2.2.2.1, 34, .inl (fun _ => 0)))]) (List.append_assoc _ _ _) ?_
  refine v_putF (ws' := xw1 g a ++ [(b, .inr (8, [.int 7, .int 0, .int 1, .int 0, .ref q0, .ref q1, .ref q2, .null, .null, .int 0, .null, .int 0, .null, .null, .int 0, .int 0, .int 0, .long 0, .int 0, .int 0, .int 0, .null, .null, .int 0, .null, .int 0, .int 0, .null, .null, .null, .null, .int 0, .int 0, .int 0, .long 0])), (q0, .inl (g.2.2.2.2.1, 6, .inl (fun _ => 0))), (q1, .inl (g.2.2.2.2.1, 384, .inl (fun _ => 0))), (q2, .inl (g.2.2.2.2.1, 34, .inl (fun _ => 0)))]) (q0 := 44) hC hnm DX8_init_37 G_X8_23 Ff_8_6 rfl rfl rfl (Nat.le_of_ble_eq_true rfl) rfl ?_
  refine v_aload_n hC DX8_init_40 (i := 0) rfl rfl ?_
  refine v_bipush hC DX8_init_41 (v := 34) (by decide) ?_
  refine v_newi (N' := 34) hC hA DX8_init_43 AC_int (by decide) (by decide) (by decide) (Nat.le_of_ble_eq_true rfl) (Nat.le_of_ble_eq_true rfl) (fun q3 => ?_)
  refine v_eq (ws' := xw1 g a ++ [(b, .inr (8, [.int 7, .int 0, .int 1, .int 0, .ref q0, .ref q1, .ref q2, .null, .null, .int 0, .null, .int 0, .null, .null, .int 0, .int 0, .int 0, .long 0, .int 0, .int 0, .int 0, .null, .null, .int 0, .null, .int 0, .int 0, .null, .null, .null, .null, .int 0, .int 0, .int 0, .long 0])), (q0, .inl (g.2.2.2.2.1, 6, .inl (fun _ => 0))), (q1, .inl (g.2.2.2.2.1, 384, .inl (fun _ => 0))), (q2, .inl (g.2.2.2.2.1, 34, .inl (fun _ => 0))), (q3, .inl (g.2.2.2.2.1, 34, .inl (fun _ => 0)))]) (List.append_assoc _ _ _) ?_
  refine v_putF (ws' := xw1 g a ++ [(b, .inr (8, [.int 7, .int 0, .int 1, .int 0, .ref q0, .ref q1, .ref q2, .ref q3, .null, .int 0, .null, .int 0, .null, .null, .int 0, .int 0, .int 0, .long 0, .int 0, .int 0, .int 0, .null, .null, .int 0, .null, .int 0, .int 0, .null, .null, .null, .null, .int 0, .int 0, .int 0, .long 0])), (q0, .inl (g.2.2.2.2.1, 6, .inl (fun _ => 0))), (q1, .inl (g.2.2.2.2.1, 384, .inl (fun _ => 0))), (q2, .inl (g.2.2.2.2.1, 34, .inl (fun _ => 0))), (q3, .inl (g.2.2.2.2.1, 34, .inl (fun _ => 0)))]) (q0 := 44) hC hnm DX8_init_45 G_X8_26 Ff_8_7 rfl rfl rfl (Nat.le_of_ble_eq_true rfl) rfl ?_
  refine v_aload_n hC DX8_init_48 (i := 0) rfl rfl ?_
  refine v_bipush hC DX8_init_49 (v := 34) (by decide) ?_
  refine v_newi (N' := 34) hC hA DX8_init_51 AC_int (by decide) (by decide) (by decide) (Nat.le_of_ble_eq_true rfl) (Nat.le_of_ble_eq_true rfl) (fun q4 => ?_)
  refine v_eq (ws' := xw1 g a ++ [(b, .inr (8, [.int 7, .int 0, .int 1, .int 0, .ref q0, .ref q1, .ref q2, .ref q3, .null, .int 0, .null, .int 0, .null, .null, .int 0, .int 0, .int 0, .long 0, .int 0, .int 0, .int 0, .null, .null, .int 0, .null, .int 0, .int 0, .null, .null, .null, .null, .int 0, .int 0, .int 0, .long 0])), (q0, .inl (g.2.2.2.2.1, 6, .inl (fun _ => 0))), (q1, .inl (g.2.2.2.2.1, 384, .inl (fun _ => 0))), (q2, .inl (g.2.2.2.2.1, 34, .inl (fun _ => 0))), (q3, .inl (g.2.2.2.2.1, 34, .inl (fun _ => 0))), (q4, .inl (g.2.2.2.2.1, 34, .inl (fun _ => 0)))]) (List.append_assoc _ _ _) ?_
  refine v_putF (ws' := xw1 g a ++ [(b, .inr (8, [.int 7, .int 0, .int 1, .int 0, .ref q0, .ref q1, .ref q2, .ref q3, .ref q4, .int 0, .null, .int 0, .null, .null, .int 0, .int 0, .int 0, .long 0, .int 0, .int 0, .int 0, .null, .null, .int 0, .null, .int 0, .int 0, .null, .null, .null, .null, .int 0, .int 0, .int 0, .long 0])), (q0, .inl (g.2.2.2.2.1, 6, .inl (fun _ => 0))), (q1, .inl (g.2.2.2.2.1, 384, .inl (fun _ => 0))), (q2, .inl (g.2.2.2.2.1, 34, .inl (fun _ => 0))), (q3, .inl (g.2.2.2.2.1, 34, .inl (fun _ => 0))), (q4, .inl (g.2.2.2.2.1, 34, .inl (fun _ => 0)))]) (q0 := 44) hC hnm DX8_init_53 G_X8_29 Ff_8_8 rfl rfl rfl (Nat.le_of_ble_eq_true rfl) rfl ?_
  refine v_aload_n hC DX8_init_56 (i := 0) rfl rfl ?_
  refine v_bipush hC DX8_init_57 (v := 32) (by decide) ?_
  refine v_newi (N' := 32) hC hA DX8_init_59 AC_int (by decide) (by decide) (by decide) (Nat.le_of_ble_eq_true rfl) (Nat.le_of_ble_eq_true rfl) (fun q5 => ?_)
  refine v_eq (ws' := xw1 g a ++ [(b, .inr (8, [.int 7, .int 0, .int 1, .int 0, .ref q0, .ref q1, .ref q2, .ref q3, .ref q4, .int 0, .null, .int 0, .null, .null, .int 0, .int 0, .int 0, .long 0, .int 0, .int 0, .int 0, .null, .null, .int 0, .null, .int 0, .int 0, .null, .null, .null, .null, .int 0, .int 0, .int 0, .long 0])), (q0, .inl (g.2.2.2.2.1, 6, .inl (fun _ => 0))), (q1, .inl (g.2.2.2.2.1, 384, .inl (fun _ => 0))), (q2, .inl (g.2.2.2.2.1, 34, .inl (fun _ => 0))), (q3, .inl (g.2.2.2.2.1, 34, .inl (fun _ => 0))), (q4, .inl (g.2.2.2.2.1, 34, .inl (fun _ => 0))), (q5, .inl (g.2.2.2.2.1, 32, .inl (fun _ => 0)))]) (List.append_assoc _ _ _) ?_
  refine v_putF (ws' := xw1 g a ++ [(b, .inr (8, [.int 7, .int 0, .int 1, .int 0, .ref q0, .ref q1, .ref q2, .ref q3, .ref q4, .int 0, .ref q5, .int 0, .null, .null, .int 0, .int 0, .int 0, .long 0, .int 0, .int 0, .int 0, .null, .null, .int 0, .null, .int 0, .int 0, .null, .null, .null, .null, .int 0, .int 0, .int 0, .long 0])), (q0, .inl (g.2.2.2.2.1, 6, .inl (fun _ => 0))), (q1, .inl (g.2.2.2.2.1, 384, .inl (fun _ => 0))), (q2, .inl (g.2.2.2.2.1, 34, .inl (fun _ => 0))), (q3, .inl (g.2.2.2.2.1, 34, .inl (fun _ => 0))), (q4, .inl (g.2.2.2.2.1, 34, .inl (fun _ => 0))), (q5, .inl (g.2.2.2.2.1, 32, .inl (fun _ => 0)))]) (q0 := 44) hC hnm DX8_init_61 G_X8_32 Ff_8_10 rfl rfl rfl (Nat.le_of_ble_eq_true rfl) rfl ?_
  refine v_aload_n hC DX8_init_64 (i := 0) rfl rfl ?_
  refine v_sipush hC DX8_init_65 (v := 4096) (by decide) ?_
  refine v_newi (N' := 4096) hC hA DX8_init_68 AC_int (by decide) (by decide) (by decide) (Nat.le_of_ble_eq_true rfl) (Nat.le_of_ble_eq_true rfl) (fun q6 => ?_)
  refine v_eq (ws' := xw1 g a ++ [(b, .inr (8, [.int 7, .int 0, .int 1, .int 0, .ref q0, .ref q1, .ref q2, .ref q3, .ref q4, .int 0, .ref q5, .int 0, .null, .null, .int 0, .int 0, .int 0, .long 0, .int 0, .int 0, .int 0, .null, .null, .int 0, .null, .int 0, .int 0, .null, .null, .null, .null, .int 0, .int 0, .int 0, .long 0])), (q0, .inl (g.2.2.2.2.1, 6, .inl (fun _ => 0))), (q1, .inl (g.2.2.2.2.1, 384, .inl (fun _ => 0))), (q2, .inl (g.2.2.2.2.1, 34, .inl (fun _ => 0))), (q3, .inl (g.2.2.2.2.1, 34, .inl (fun _ => 0))), (q4, .inl (g.2.2.2.2.1, 34, .inl (fun _ => 0))), (q5, .inl (g.2.2.2.2.1, 32, .inl (fun _ => 0))), (q6, .inl (g.2.2.2.2.1, 4096, .inl (fun _ => 0)))]) (List.append_assoc _ _ _) ?_
  refine v_putF (ws' := xw1 g a ++ [(b, .inr (8, [.int 7, .int 0, .int 1, .int 0, .ref q0, .ref q1, .ref q2, .ref q3, .ref q4, .int 0, .ref q5, .int 0, .ref q6, .null, .int 0, .int 0, .int 0, .long 0, .int 0, .int 0, .int 0, .null, .null, .int 0, .null, .int 0, .int 0, .null, .null, .null, .null, .int 0, .int 0, .int 0, .long 0])), (q0, .inl (g.2.2.2.2.1, 6, .inl (fun _ => 0))), (q1, .inl (g.2.2.2.2.1, 384, .inl (fun _ => 0))), (q2, .inl (g.2.2.2.2.1, 34, .inl (fun _ => 0))), (q3, .inl (g.2.2.2.2.1, 34, .inl (fun _ => 0))), (q4, .inl (g.2.2.2.2.1, 34, .inl (fun _ => 0))), (q5, .inl (g.2.2.2.2.1, 32, .inl (fun _ => 0))), (q6, .inl (g.2.2.2.2.1, 4096, .inl (fun _ => 0)))]) (q0 := 44) hC hnm DX8_init_70 G_X8_35 Ff_8_12 rfl rfl rfl (Nat.le_of_ble_eq_true rfl) rfl ?_
  refine v_aload_n hC DX8_init_73 (i := 0) rfl rfl ?_
  refine v_bipush hC DX8_init_74 (v := 120) (by decide) ?_
  refine v_newi (N' := 120) hC hA DX8_init_76 AC_int (by decide) (by decide) (by decide) (Nat.le_of_ble_eq_true rfl) (Nat.le_of_ble_eq_true rfl) (fun q7 => ?_)
  refine v_eq (ws' := xw1 g a ++ [(b, .inr (8, [.int 7, .int 0, .int 1, .int 0, .ref q0, .ref q1, .ref q2, .ref q3, .ref q4, .int 0, .ref q5, .int 0, .ref q6, .null, .int 0, .int 0, .int 0, .long 0, .int 0, .int 0, .int 0, .null, .null, .int 0, .null, .int 0, .int 0, .null, .null, .null, .null, .int 0, .int 0, .int 0, .long 0])), (q0, .inl (g.2.2.2.2.1, 6, .inl (fun _ => 0))), (q1, .inl (g.2.2.2.2.1, 384, .inl (fun _ => 0))), (q2, .inl (g.2.2.2.2.1, 34, .inl (fun _ => 0))), (q3, .inl (g.2.2.2.2.1, 34, .inl (fun _ => 0))), (q4, .inl (g.2.2.2.2.1, 34, .inl (fun _ => 0))), (q5, .inl (g.2.2.2.2.1, 32, .inl (fun _ => 0))), (q6, .inl (g.2.2.2.2.1, 4096, .inl (fun _ => 0))), (q7, .inl (g.2.2.2.2.1, 120, .inl (fun _ => 0)))]) (List.append_assoc _ _ _) ?_
  refine v_putF (ws' := xw1 g a ++ [(b, .inr (8, [.int 7, .int 0, .int 1, .int 0, .ref q0, .ref q1, .ref q2, .ref q3, .ref q4, .int 0, .ref q5, .int 0, .ref q6, .ref q7, .int 0, .int 0, .int 0, .long 0, .int 0, .int 0, .int 0, .null, .null, .int 0, .null, .int 0, .int 0, .null, .null, .null, .null, .int 0, .int 0, .int 0, .long 0])), (q0, .inl (g.2.2.2.2.1, 6, .inl (fun _ => 0))), (q1, .inl (g.2.2.2.2.1, 384, .inl (fun _ => 0))), (q2, .inl (g.2.2.2.2.1, 34, .inl (fun _ => 0))), (q3, .inl (g.2.2.2.2.1, 34, .inl (fun _ => 0))), (q4, .inl (g.2.2.2.2.1, 34, .inl (fun _ => 0))), (q5, .inl (g.2.2.2.2.1, 32, .inl (fun _ => 0))), (q6, .inl (g.2.2.2.2.1, 4096, .inl (fun _ => 0))), (q7, .inl (g.2.2.2.2.1, 120, .inl (fun _ => 0)))]) (q0 := 44) hC hnm DX8_init_78 G_X8_38 Ff_8_13 rfl rfl rfl (Nat.le_of_ble_eq_true rfl) rfl ?_
  refine v_aload_n hC DX8_init_81 (i := 0) rfl rfl ?_
  refine v_iconst hC DX8_init_82 (v := (-1)) (by decide) ?_
  refine v_put (ws' := xw1 g a ++ [(b, .inr (8, [.int 7, .int 0, .int 1, .int 0, .ref q0, .ref q1, .ref q2, .ref q3, .ref q4, .int 0, .ref q5, .int 0, .ref q6, .ref q7, .int 0, .int (-1), .int 0, .long 0, .int 0, .int 0, .int 0, .null, .null, .int 0, .null, .int 0, .int 0, .null, .null, .null, .null, .int 0, .int 0, .int 0, .long 0])), (q0, .inl (g.2.2.2.2.1, 6, .inl (fun _ => 0))), (q1, .inl (g.2.2.2.2.1, 384, .inl (fun _ => 0))), (q2, .inl (g.2.2.2.2.1, 34, .inl (fun _ => 0))), (q3, .inl (g.2.2.2.2.1, 34, .inl (fun _ => 0))), (q4, .inl (g.2.2.2.2.1, 34, .inl (fun _ => 0))), (q5, .inl (g.2.2.2.2.1, 32, .inl (fun _ => 0))), (q6, .inl (g.2.2.2.2.1, 4096, .inl (fun _ => 0))), (q7, .inl (g.2.2.2.2.1, 120, .inl (fun _ => 0)))]) (q0 := 44) hC DX8_init_83 G_X8_41 Fq_8_15 rfl rfl rfl (Nat.le_of_ble_eq_true rfl) rfl ?_
  refine v_aload_n hC DX8_init_86 (i := 0) rfl rfl ?_
  refine v_sipush hC DX8_init_87 (v := 130) (by decide) ?_
  refine v_newi (N' := 130) hC hA DX8_init_90 AC_int (by decide) (by decide) (by decide) (Nat.le_of_ble_eq_true rfl) (Nat.le_of_ble_eq_true rfl) (fun q8 => ?_)
  refine v_eq (ws' := xw1 g a ++ [(b, .inr (8, [.int 7, .int 0, .int 1, .int 0, .ref q0, .ref q1, .ref q2, .ref q3, .ref q4, .int 0, .ref q5, .int 0, .ref q6, .ref q7, .int 0, .int (-1), .int 0, .long 0, .int 0, .int 0, .int 0, .null, .null, .int 0, .null, .int 0, .int 0, .null, .null, .null, .null, .int 0, .int 0, .int 0, .long 0])), (q0, .inl (g.2.2.2.2.1, 6, .inl (fun _ => 0))), (q1, .inl (g.2.2.2.2.1, 384, .inl (fun _ => 0))), (q2, .inl (g.2.2.2.2.1, 34, .inl (fun _ => 0))), (q3, .inl (g.2.2.2.2.1, 34, .inl (fun _ => 0))), (q4, .inl (g.2.2.2.2.1, 34, .inl (fun _ => 0))), (q5, .inl (g.2.2.2.2.1, 32, .inl (fun _ => 0))), (q6, .inl (g.2.2.2.2.1, 4096, .inl (fun _ => 0))), (q7, .inl (g.2.2.2.2.1, 120, .inl (fun _ => 0))), (q8, .inl (g.2.2.2.2.1, 130, .inl (fun _ => 0)))]) (List.append_assoc _ _ _) ?_
  refine v_putF (ws' := xw1 g a ++ [(b, .inr (8, [.int 7, .int 0, .int 1, .int 0, .ref q0, .ref q1, .ref q2, .ref q3, .ref q4, .int 0, .ref q5, .int 0, .ref q6, .ref q7, .int 0, .int (-1), .int 0, .long 0, .int 0, .int 0, .int 0, .ref q8, .null, .int 0, .null, .int 0, .int 0, .null, .null, .null, .null, .int 0, .int 0, .int 0, .long 0])), (q0, .inl (g.2.2.2.2.1, 6, .inl (fun _ => 0))), (q1, .inl (g.2.2.2.2.1, 384, .inl (fun _ => 0))), (q2, .inl (g.2.2.2.2.1, 34, .inl (fun _ => 0))), (q3, .inl (g.2.2.2.2.1, 34, .inl (fun _ => 0))), (q4, .inl (g.2.2.2.2.1, 34, .inl (fun _ => 0))), (q5, .inl (g.2.2.2.2.1, 32, .inl (fun _ => 0))), (q6, .inl (g.2.2.2.2.1, 4096, .inl (fun _ => 0))), (q7, .inl (g.2.2.2.2.1, 120, .inl (fun _ => 0))), (q8, .inl (g.2.2.2.2.1, 130, .inl (fun _ => 0)))]) (q0 := 44) hC hnm DX8_init_92 G_X8_44 Ff_8_21 rfl rfl rfl (Nat.le_of_ble_eq_true rfl) rfl ?_
  refine v_aload_n hC DX8_init_95 (i := 0) rfl rfl ?_
  refine v_sipush hC DX8_init_96 (v := 130) (by decide) ?_
  refine v_newi (N' := 130) hC hA DX8_init_99 AC_int (by decide) (by decide) (by decide) (Nat.le_of_ble_eq_true rfl) (Nat.le_of_ble_eq_true rfl) (fun q9 => ?_)
  refine v_eq (ws' := xw1 g a ++ [(b, .inr (8, [.int 7, .int 0, .int 1, .int 0, .ref q0, .ref q1, .ref q2, .ref q3, .ref q4, .int 0, .ref q5, .int 0, .ref q6, .ref q7, .int 0, .int (-1), .int 0, .long 0, .int 0, .int 0, .int 0, .ref q8, .null, .int 0, .null, .int 0, .int 0, .null, .null, .null, .null, .int 0, .int 0, .int 0, .long 0])), (q0, .inl (g.2.2.2.2.1, 6, .inl (fun _ => 0))), (q1, .inl (g.2.2.2.2.1, 384, .inl (fun _ => 0))), (q2, .inl (g.2.2.2.2.1, 34, .inl (fun _ => 0))), (q3, .inl (g.2.2.2.2.1, 34, .inl (fun _ => 0))), (q4, .inl (g.2.2.2.2.1, 34, .inl (fun _ => 0))), (q5, .inl (g.2.2.2.2.1, 32, .inl (fun _ => 0))), (q6, .inl (g.2.2.2.2.1, 4096, .inl (fun _ => 0))), (q7, .inl (g.2.2.2.2.1, 120, .inl (fun _ => 0))), (q8, .inl (g.2.2.2.2.1, 130, .inl (fun _ => 0))), (q9, .inl (g.2.2.2.2.1, 130, .inl (fun _ => 0)))]) (List.append_assoc _ _ _) ?_
  refine v_putF (ws' := xw1 g a ++ [(b, .inr (8, [.int 7, .int 0, .int 1, .int 0, .ref q0, .ref q1, .ref q2, .ref q3, .ref q4, .int 0, .ref q5, .int 0, .ref q6, .ref q7, .int 0, .int (-1), .int 0, .long 0, .int 0, .int 0, .int 0, .ref q8, .ref q9, .int 0, .null, .int 0, .int 0, .null, .null, .null, .null, .int 0, .int 0, .int 0, .long 0])), (q0, .inl (g.2.2.2.2.1, 6, .inl (fun _ => 0))), (q1, .inl (g.2.2.2.2.1, 384, .inl (fun _ => 0))), (q2, .inl (g.2.2.2.2.1, 34, .inl (fun _ => 0))), (q3, .inl (g.2.2.2.2.1, 34, .inl (fun _ => 0))), (q4, .inl (g.2.2.2.2.1, 34, .inl (fun _ => 0))), (q5, .inl (g.2.2.2.2.1, 32, .inl (fun _ => 0))), (q6, .inl (g.2.2.2.2.1, 4096, .inl (fun _ => 0))), (q7, .inl (g.2.2.2.2.1, 120, .inl (fun _ => 0))), (q8, .inl (g.2.2.2.2.1, 130, .inl (fun _ => 0))), (q9, .inl (g.2.2.2.2.1, 130, .inl (fun _ => 0)))]) (q0 := 44) hC hnm DX8_init_101 G_X8_47 Ff_8_22 rfl rfl rfl (Nat.le_of_ble_eq_true rfl) rfl ?_
  refine v_aload_n hC DX8_init_104 (i := 0) rfl rfl ?_
  refine v_sipush hC DX8_init_105 (v := 130) (by decide) ?_
  refine v_newi (N' := 130) hC hA DX8_init_108 AC_int (by decide) (by decide) (by decide) (Nat.le_of_ble_eq_true rfl) (Nat.le_of_ble_eq_true rfl) (fun q10 => ?_)
  refine v_eq (ws' := xw1 g a ++ [(b, .inr (8, [.int 7, .int 0, .int 1, .int 0, .ref q0, .ref q1, .ref q2, .ref q3, .ref q4, .int 0, .ref q5, .int 0, .ref q6, .ref q7, .int 0, .int (-1), .int 0, .long 0, .int 0, .int 0, .int 0, .ref q8, .ref q9, .int 0, .null, .int 0, .int 0, .null, .null, .null, .null, .int 0, .int 0, .int 0, .long 0])), (q0, .inl (g.2.2.2.2.1, 6, .inl (fun _ => 0))), (q1, .inl (g.2.2.2.2.1, 384, .inl (fun _ => 0))), (q2, .inl (g.2.2.2.2.1, 34, .inl (fun _ => 0))), (q3, .inl (g.2.2.2.2.1, 34, .inl (fun _ => 0))), (q4, .inl (g.2.2.2.2.1, 34, .inl (fun _ => 0))), (q5, .inl (g.2.2.2.2.1, 32, .inl (fun _ => 0))), (q6, .inl (g.2.2.2.2.1, 4096, .inl (fun _ => 0))), (q7, .inl (g.2.2.2.2.1, 120, .inl (fun _ => 0))), (q8, .inl (g.2.2.2.2.1, 130, .inl (fun _ => 0))), (q9, .inl (g.2.2.2.2.1, 130, .inl (fun _ => 0))), (q10, .inl (g.2.2.2.2.1, 130, .inl (fun _ => 0)))]) (List.append_assoc _ _ _) ?_
  refine v_putF (ws' := xw1 g a ++ [(b, .inr (8, [.int 7, .int 0, .int 1, .int 0, .ref q0, .ref q1, .ref q2, .ref q3, .ref q4, .int 0, .ref q5, .int 0, .ref q6, .ref q7, .int 0, .int (-1), .int 0, .long 0, .int 0, .int 0, .int 0, .ref q8, .ref q9, .int 0, .ref q10, .int 0, .int 0, .null, .null, .null, .null, .int 0, .int 0, .int 0, .long 0])), (q0, .inl (g.2.2.2.2.1, 6, .inl (fun _ => 0))), (q1, .inl (g.2.2.2.2.1, 384, .inl (fun _ => 0))), (q2, .inl (g.2.2.2.2.1, 34, .inl (fun _ => 0))), (q3, .inl (g.2.2.2.2.1, 34, .inl (fun _ => 0))), (q4, .inl (g.2.2.2.2.1, 34, .inl (fun _ => 0))), (q5, .inl (g.2.2.2.2.1, 32, .inl (fun _ => 0))), (q6, .inl (g.2.2.2.2.1, 4096, .inl (fun _ => 0))), (q7, .inl (g.2.2.2.2.1, 120, .inl (fun _ => 0))), (q8, .inl (g.2.2.2.2.1, 130, .inl (fun _ => 0))), (q9, .inl (g.2.2.2.2.1, 130, .inl (fun _ => 0))), (q10, .inl (g.2.2.2.2.1, 130, .inl (fun _ => 0)))]) (q0 := 44) hC hnm DX8_init_110 G_X8_50 Ff_8_24 rfl rfl rfl (Nat.le_of_ble_eq_true rfl) rfl ?_
  refine v_aload_n hC DX8_init_113 (i := 0) rfl rfl ?_
  refine v_sipush hC DX8_init_114 (v := 130) (by decide) ?_
  refine v_newz (N' := 130) hC hA DX8_init_117 AC_boolean (by decide) (by decide) (by decide) (Nat.le_of_ble_eq_true rfl) (Nat.le_of_ble_eq_true rfl) (fun q11 => ?_)
  refine v_eq (ws' := xw1 g a ++ [(b, .inr (8, [.int 7, .int 0, .int 1, .int 0, .ref q0, .ref q1, .ref q2, .ref q3, .ref q4, .int 0, .ref q5, .int 0, .ref q6, .ref q7, .int 0, .int (-1), .int 0, .long 0, .int 0, .int 0, .int 0, .ref q8, .ref q9, .int 0, .ref q10, .int 0, .int 0, .null, .null, .null, .null, .int 0, .int 0, .int 0, .long 0])), (q0, .inl (g.2.2.2.2.1, 6, .inl (fun _ => 0))), (q1, .inl (g.2.2.2.2.1, 384, .inl (fun _ => 0))), (q2, .inl (g.2.2.2.2.1, 34, .inl (fun _ => 0))), (q3, .inl (g.2.2.2.2.1, 34, .inl (fun _ => 0))), (q4, .inl (g.2.2.2.2.1, 34, .inl (fun _ => 0))), (q5, .inl (g.2.2.2.2.1, 32, .inl (fun _ => 0))), (q6, .inl (g.2.2.2.2.1, 4096, .inl (fun _ => 0))), (q7, .inl (g.2.2.2.2.1, 120, .inl (fun _ => 0))), (q8, .inl (g.2.2.2.2.1, 130, .inl (fun _ => 0))), (q9, .inl (g.2.2.2.2.1, 130, .inl (fun _ => 0))), (q10, .inl (g.2.2.2.2.1, 130, .inl (fun _ => 0))), (q11, .inl (g.2.2.2.2.2.2.1, 130, .inl (fun _ => 0)))]) (List.append_assoc _ _ _) ?_
  refine v_putF (ws' := xw1 g a ++ [(b, .inr (8, [.int 7, .int 0, .int 1, .int 0, .ref q0, .ref q1, .ref q2, .ref q3, .ref q4, .int 0, .ref q5, .int 0, .ref q6, .ref q7, .int 0, .int (-1), .int 0, .long 0, .int 0, .int 0, .int 0, .ref q8, .ref q9, .int 0, .ref q10, .int 0, .int 0, .ref q11, .null, .null, .null, .int 0, .int 0, .int 0, .long 0])), (q0, .inl (g.2.2.2.2.1, 6, .inl (fun _ => 0))), (q1, .inl (g.2.2.2.2.1, 384, .inl (fun _ => 0))), (q2, .inl (g.2.2.2.2.1, 34, .inl (fun _ => 0))), (q3, .inl (g.2.2.2.2.1, 34, .inl (fun _ => 0))), (q4, .inl (g.2.2.2.2.1, 34, .inl (fun _ => 0))), (q5, .inl (g.2.2.2.2.1, 32, .inl (fun _ => 0))), (q6, .inl (g.2.2.2.2.1, 4096, .inl (fun _ => 0))), (q7, .inl (g.2.2.2.2.1, 120, .inl (fun _ => 0))), (q8, .inl (g.2.2.2.2.1, 130, .inl (fun _ => 0))), (q9, .inl (g.2.2.2.2.1, 130, .inl (fun _ => 0))), (q10, .inl (g.2.2.2.2.1, 130, .inl (fun _ => 0))), (q11, .inl (g.2.2.2.2.2.2.1, 130, .inl (fun _ => 0)))]) (q0 := 44) hC hnm DX8_init_119 G_X8_53 Ff_8_27 rfl rfl rfl (Nat.le_of_ble_eq_true rfl) rfl ?_
  refine v_aload_n hC DX8_init_122 (i := 0) rfl rfl ?_
  refine v_bipush hC DX8_init_123 (v := 12) (by decide) ?_
  refine v_newi (N' := 12) hC hA DX8_init_125 AC_int (by decide) (by decide) (by decide) (Nat.le_of_ble_eq_true rfl) (Nat.le_of_ble_eq_true rfl) (fun q12 => ?_)
  refine v_eq (ws' := xw1 g a ++ [(b, .inr (8, [.int 7, .int 0, .int 1, .int 0, .ref q0, .ref q1, .ref q2, .ref q3, .ref q4, .int 0, .ref q5, .int 0, .ref q6, .ref q7, .int 0, .int (-1), .int 0, .long 0, .int 0, .int 0, .int 0, .ref q8, .ref q9, .int 0, .ref q10, .int 0, .int 0, .ref q11, .null, .null, .null, .int 0, .int 0, .int 0, .long 0])), (q0, .inl (g.2.2.2.2.1, 6, .inl (fun _ => 0))), (q1, .inl (g.2.2.2.2.1, 384, .inl (fun _ => 0))), (q2, .inl (g.2.2.2.2.1, 34, .inl (fun _ => 0))), (q3, .inl (g.2.2.2.2.1, 34, .inl (fun _ => 0))), (q4, .inl (g.2.2.2.2.1, 34, .inl (fun _ => 0))), (q5, .inl (g.2.2.2.2.1, 32, .inl (fun _ => 0))), (q6, .inl (g.2.2.2.2.1, 4096, .inl (fun _ => 0))), (q7, .inl (g.2.2.2.2.1, 120, .inl (fun _ => 0))), (q8, .inl (g.2.2.2.2.1, 130, .inl (fun _ => 0))), (q9, .inl (g.2.2.2.2.1, 130, .inl (fun _ => 0))), (q10, .inl (g.2.2.2.2.1, 130, .inl (fun _ => 0))), (q11, .inl (g.2.2.2.2.2.2.1, 130, .inl (fun _ => 0))), (q12, .inl (g.2.2.2.2.1, 12, .inl (fun _ => 0)))]) (List.append_assoc _ _ _) ?_
  refine v_putF (ws' := xw1 g a ++ [(b, .inr (8, [.int 7, .int 0, .int 1, .int 0, .ref q0, .ref q1, .ref q2, .ref q3, .ref q4, .int 0, .ref q5, .int 0, .ref q6, .ref q7, .int 0, .int (-1), .int 0, .long 0, .int 0, .int 0, .int 0, .ref q8, .ref q9, .int 0, .ref q10, .int 0, .int 0, .ref q11, .ref q12, .null, .null, .int 0, .int 0, .int 0, .long 0])), (q0, .inl (g.2.2.2.2.1, 6, .inl (fun _ => 0))), (q1, .inl (g.2.2.2.2.1, 384, .inl (fun _ => 0))), (q2, .inl (g.2.2.2.2.1, 34, .inl (fun _ => 0))), (q3, .inl (g.2.2.2.2.1, 34, .inl (fun _ => 0))), (q4, .inl (g.2.2.2.2.1, 34, .inl (fun _ => 0))), (q5, .inl (g.2.2.2.2.1, 32, .inl (fun _ => 0))), (q6, .inl (g.2.2.2.2.1, 4096, .inl (fun _ => 0))), (q7, .inl (g.2.2.2.2.1, 120, .inl (fun _ => 0))), (q8, .inl (g.2.2.2.2.1, 130, .inl (fun _ => 0))), (q9, .inl (g.2.2.2.2.1, 130, .inl (fun _ => 0))), (q10, .inl (g.2.2.2.2.1, 130, .inl (fun _ => 0))), (q11, .inl (g.2.2.2.2.2.2.1, 130, .inl (fun _ => 0))), (q12, .inl (g.2.2.2.2.1, 12, .inl (fun _ => 0)))]) (q0 := 44) hC hnm DX8_init_127 G_X8_57 Ff_8_28 rfl rfl rfl (Nat.le_of_ble_eq_true rfl) rfl ?_
  refine v_aload_n hC DX8_init_130 (i := 0) rfl rfl ?_
  refine v_bipush hC DX8_init_131 (v := 64) (by decide) ?_
  refine v_newj (N' := 64) hC hA DX8_init_133 AC_long (by decide) (by decide) (by decide) (Nat.le_of_ble_eq_true rfl) (Nat.le_of_ble_eq_true rfl) (fun q13 => ?_)
  refine v_eq (ws' := xw1 g a ++ [(b, .inr (8, [.int 7, .int 0, .int 1, .int 0, .ref q0, .ref q1, .ref q2, .ref q3, .ref q4, .int 0, .ref q5, .int 0, .ref q6, .ref q7, .int 0, .int (-1), .int 0, .long 0, .int 0, .int 0, .int 0, .ref q8, .ref q9, .int 0, .ref q10, .int 0, .int 0, .ref q11, .ref q12, .null, .null, .int 0, .int 0, .int 0, .long 0])), (q0, .inl (g.2.2.2.2.1, 6, .inl (fun _ => 0))), (q1, .inl (g.2.2.2.2.1, 384, .inl (fun _ => 0))), (q2, .inl (g.2.2.2.2.1, 34, .inl (fun _ => 0))), (q3, .inl (g.2.2.2.2.1, 34, .inl (fun _ => 0))), (q4, .inl (g.2.2.2.2.1, 34, .inl (fun _ => 0))), (q5, .inl (g.2.2.2.2.1, 32, .inl (fun _ => 0))), (q6, .inl (g.2.2.2.2.1, 4096, .inl (fun _ => 0))), (q7, .inl (g.2.2.2.2.1, 120, .inl (fun _ => 0))), (q8, .inl (g.2.2.2.2.1, 130, .inl (fun _ => 0))), (q9, .inl (g.2.2.2.2.1, 130, .inl (fun _ => 0))), (q10, .inl (g.2.2.2.2.1, 130, .inl (fun _ => 0))), (q11, .inl (g.2.2.2.2.2.2.1, 130, .inl (fun _ => 0))), (q12, .inl (g.2.2.2.2.1, 12, .inl (fun _ => 0))), (q13, .inl (g.2.2.2.2.2.1, 64, .inr (.inl (fun _ => 0))))]) (List.append_assoc _ _ _) ?_
  refine v_putF (ws' := xw1 g a ++ [(b, .inr (8, [.int 7, .int 0, .int 1, .int 0, .ref q0, .ref q1, .ref q2, .ref q3, .ref q4, .int 0, .ref q5, .int 0, .ref q6, .ref q7, .int 0, .int (-1), .int 0, .long 0, .int 0, .int 0, .int 0, .ref q8, .ref q9, .int 0, .ref q10, .int 0, .int 0, .ref q11, .ref q12, .ref q13, .null, .int 0, .int 0, .int 0, .long 0])), (q0, .inl (g.2.2.2.2.1, 6, .inl (fun _ => 0))), (q1, .inl (g.2.2.2.2.1, 384, .inl (fun _ => 0))), (q2, .inl (g.2.2.2.2.1, 34, .inl (fun _ => 0))), (q3, .inl (g.2.2.2.2.1, 34, .inl (fun _ => 0))), (q4, .inl (g.2.2.2.2.1, 34, .inl (fun _ => 0))), (q5, .inl (g.2.2.2.2.1, 32, .inl (fun _ => 0))), (q6, .inl (g.2.2.2.2.1, 4096, .inl (fun _ => 0))), (q7, .inl (g.2.2.2.2.1, 120, .inl (fun _ => 0))), (q8, .inl (g.2.2.2.2.1, 130, .inl (fun _ => 0))), (q9, .inl (g.2.2.2.2.1, 130, .inl (fun _ => 0))), (q10, .inl (g.2.2.2.2.1, 130, .inl (fun _ => 0))), (q11, .inl (g.2.2.2.2.2.2.1, 130, .inl (fun _ => 0))), (q12, .inl (g.2.2.2.2.1, 12, .inl (fun _ => 0))), (q13, .inl (g.2.2.2.2.2.1, 64, .inr (.inl (fun _ => 0))))]) (q0 := 44) hC hnm DX8_init_135 G_X8_60 Ff_8_29 rfl rfl rfl (Nat.le_of_ble_eq_true rfl) rfl ?_
  refine v_aload_n hC DX8_init_138 (i := 0) rfl rfl ?_
  refine v_iconst hC DX8_init_139 (v := 3) (by decide) ?_
  refine v_newi (N' := 3) hC hA DX8_init_140 AC_int (by decide) (by decide) (by decide) (Nat.le_of_ble_eq_true rfl) (Nat.le_of_ble_eq_true rfl) (fun q14 => ?_)
  refine v_eq (ws' := xw1 g a ++ [(b, .inr (8, [.int 7, .int 0, .int 1, .int 0, .ref q0, .ref q1, .ref q2, .ref q3, .ref q4, .int 0, .ref q5, .int 0, .ref q6, .ref q7, .int 0, .int (-1), .int 0, .long 0, .int 0, .int 0, .int 0, .ref q8, .ref q9, .int 0, .ref q10, .int 0, .int 0, .ref q11, .ref q12, .ref q13, .null, .int 0, .int 0, .int 0, .long 0])), (q0, .inl (g.2.2.2.2.1, 6, .inl (fun _ => 0))), (q1, .inl (g.2.2.2.2.1, 384, .inl (fun _ => 0))), (q2, .inl (g.2.2.2.2.1, 34, .inl (fun _ => 0))), (q3, .inl (g.2.2.2.2.1, 34, .inl (fun _ => 0))), (q4, .inl (g.2.2.2.2.1, 34, .inl (fun _ => 0))), (q5, .inl (g.2.2.2.2.1, 32, .inl (fun _ => 0))), (q6, .inl (g.2.2.2.2.1, 4096, .inl (fun _ => 0))), (q7, .inl (g.2.2.2.2.1, 120, .inl (fun _ => 0))), (q8, .inl (g.2.2.2.2.1, 130, .inl (fun _ => 0))), (q9, .inl (g.2.2.2.2.1, 130, .inl (fun _ => 0))), (q10, .inl (g.2.2.2.2.1, 130, .inl (fun _ => 0))), (q11, .inl (g.2.2.2.2.2.2.1, 130, .inl (fun _ => 0))), (q12, .inl (g.2.2.2.2.1, 12, .inl (fun _ => 0))), (q13, .inl (g.2.2.2.2.2.1, 64, .inr (.inl (fun _ => 0)))), (q14, .inl (g.2.2.2.2.1, 3, .inl (fun _ => 0)))]) (List.append_assoc _ _ _) ?_
  refine v_putF (ws' := xw1 g a ++ [(b, .inr (8, [.int 7, .int 0, .int 1, .int 0, .ref q0, .ref q1, .ref q2, .ref q3, .ref q4, .int 0, .ref q5, .int 0, .ref q6, .ref q7, .int 0, .int (-1), .int 0, .long 0, .int 0, .int 0, .int 0, .ref q8, .ref q9, .int 0, .ref q10, .int 0, .int 0, .ref q11, .ref q12, .ref q13, .ref q14, .int 0, .int 0, .int 0, .long 0])), (q0, .inl (g.2.2.2.2.1, 6, .inl (fun _ => 0))), (q1, .inl (g.2.2.2.2.1, 384, .inl (fun _ => 0))), (q2, .inl (g.2.2.2.2.1, 34, .inl (fun _ => 0))), (q3, .inl (g.2.2.2.2.1, 34, .inl (fun _ => 0))), (q4, .inl (g.2.2.2.2.1, 34, .inl (fun _ => 0))), (q5, .inl (g.2.2.2.2.1, 32, .inl (fun _ => 0))), (q6, .inl (g.2.2.2.2.1, 4096, .inl (fun _ => 0))), (q7, .inl (g.2.2.2.2.1, 120, .inl (fun _ => 0))), (q8, .inl (g.2.2.2.2.1, 130, .inl (fun _ => 0))), (q9, .inl (g.2.2.2.2.1, 130, .inl (fun _ => 0))), (q10, .inl (g.2.2.2.2.1, 130, .inl (fun _ => 0))), (q11, .inl (g.2.2.2.2.2.2.1, 130, .inl (fun _ => 0))), (q12, .inl (g.2.2.2.2.1, 12, .inl (fun _ => 0))), (q13, .inl (g.2.2.2.2.2.1, 64, .inr (.inl (fun _ => 0)))), (q14, .inl (g.2.2.2.2.1, 3, .inl (fun _ => 0)))]) (q0 := 44) hC hnm DX8_init_142 G_X8_64 Ff_8_30 rfl rfl rfl (Nat.le_of_ble_eq_true rfl) rfl ?_
  refine v_aload_n hC DX8_init_145 (i := 0) rfl rfl ?_
  refine v_cellq (q0 := 2) (ws' := xw (x_ad g (fun k => if k < 44 then xa g k else [b, q0, q1, q2, q3, q4, q5, q6, q7, q8, q9, q10, q11, q12, q13, q14].getD (k - 44) 0)) (a, b0)) (f' := fun i => some (xa (x_ad g (fun k => if k < 44 then xa g k else [b, q0, q1, q2, q3, q4, q5, q6, q7, q8, q9, q10, q11, q12, q13, q14].getD (k - 44) 0)) (23 + i))) rfl (fun i hi => by rcases (show i = 0 ∨ i = 1 ∨ i = 2 ∨ i = 3 ∨ i = 4 ∨ i = 5 by omega) with rfl | rfl | rfl | rfl | rfl | rfl <;> rfl) rfl ?_
  refine v_callEv (As := []) (S := []) hC hA DX8_init_146 CE_X8_67 (ci := 8) rfl rfl e_44 (by decide) (by decide) (Nat.le_of_ble_eq_true rfl) (Nat.le_of_ble_eq_true rfl) (Nat.le_of_ble_eq_true rfl) (t_X8_empty 20 b0 b1_ok) rfl rfl ?_
  exact v_vret hC DX8_init_149 rfl ⟨(fun k => if k < 44 then xa g k else [b, q0, q1, q2, q3, q4, q5, q6, q7, q8, q9, q10, q11, q12, q13, q14].getD (k - 44) 0), fun k hk => if_pos hk, rfl, rfl⟩
