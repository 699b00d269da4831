theorem DJ0_length_8abf5_0 : xd M_J0_length_8abf5 0 (.aload_n 0) 1 := dJ0_length_8abf5_0
theorem DJ0_length_8abf5_1 : xd M_J0_length_8abf5 1 (.getfield 9) 3 := dJ0_length_8abf5_1
theorem DJ0_length_8abf5_4 : xd M_J0_length_8abf5 4 (.arraylength) 1 := dJ0_length_8abf5_4
theorem DJ0_length_8abf5_5 : xd M_J0_length_8abf5 5 (.aload_n 0) 1 := dJ0_length_8abf5_5
theorem DJ0_length_8abf5_6 : xd M_J0_length_8abf5 6 (.invokevirtual 335) 3 := dJ0_length_8abf5_6
theorem DJ0_length_8abf5_9 : xd M_J0_length_8abf5 9 (.ishr) 1 := dJ0_length_8abf5_9
theorem DJ0_length_8abf5_10 : xd M_J0_length_8abf5 10 (.ireturn) 1 := dJ0_length_8abf5_10
theorem DJ0_charAt_5068e_0 : xd M_J0_charAt_5068e 0 (.aload_n 0) 1 := dJ0_charAt_5068e_0
theorem DJ0_charAt_5068e_1 : xd M_J0_charAt_5068e 1 (.invokevirtual 492) 3 := dJ0_charAt_5068e_1
theorem DJ0_charAt_5068e_4 : xd M_J0_charAt_5068e 4 (.ifCond .eq 12) 3 := dJ0_charAt_5068e_4
theorem DJ0_charAt_5068e_7 : xd M_J0_charAt_5068e 7 (.aload_n 0) 1 := dJ0_charAt_5068e_7
theorem DJ0_charAt_5068e_8 : xd M_J0_charAt_5068e 8 (.getfield 9) 3 := dJ0_charAt_5068e_8
theorem DJ0_charAt_5068e_11 : xd M_J0_charAt_5068e 11 (.iload_n 1) 1 := dJ0_charAt_5068e_11
theorem DJ0_charAt_5068e_12 : xd M_J0_charAt_5068e 12 (.invokestatic 495) 3 := dJ0_charAt_5068e_12
theorem DJ0_charAt_5068e_15 : xd M_J0_charAt_5068e 15 (.ireturn) 1 := dJ0_charAt_5068e_15
theorem DJ0_charAt_5068e_16 : xd M_J0_charAt_5068e 16 (.aload_n 0) 1 := dJ0_charAt_5068e_16
theorem DJ0_charAt_5068e_17 : xd M_J0_charAt_5068e 17 (.getfield 9) 3 := dJ0_charAt_5068e_17
theorem DJ0_charAt_5068e_20 : xd M_J0_charAt_5068e 20 (.iload_n 1) 1 := dJ0_charAt_5068e_20
theorem DJ0_charAt_5068e_21 : xd M_J0_charAt_5068e 21 (.invokestatic 498) 3 := dJ0_charAt_5068e_21
theorem DJ0_charAt_5068e_24 : xd M_J0_charAt_5068e 24 (.ireturn) 1 := dJ0_charAt_5068e_24
theorem DJ0_coder_7d493_0 : xd M_J0_coder_7d493 0 (.getstatic 38) 3 := dJ0_coder_7d493_0
theorem DJ0_coder_7d493_3 : xd M_J0_coder_7d493 3 (.ifCond .eq 10) 3 := dJ0_coder_7d493_3
theorem DJ0_coder_7d493_6 : xd M_J0_coder_7d493 6 (.aload_n 0) 1 := dJ0_coder_7d493_6
theorem DJ0_coder_7d493_7 : xd M_J0_coder_7d493 7 (.getfield 15) 3 := dJ0_coder_7d493_7
theorem DJ0_coder_7d493_10 : xd M_J0_coder_7d493 10 (.goto 4) 3 := dJ0_coder_7d493_10
theorem DJ0_coder_7d493_13 : xd M_J0_coder_7d493 13 (.iconst 1) 1 := dJ0_coder_7d493_13
theorem DJ0_coder_7d493_14 : xd M_J0_coder_7d493 14 (.ireturn) 1 := dJ0_coder_7d493_14
theorem DJ0_isLatin1_aae02_0 : xd M_J0_isLatin1_aae02 0 (.getstatic 38) 3 := dJ0_isLatin1_aae02_0
theorem DJ0_isLatin1_aae02_3 : xd M_J0_isLatin1_aae02 3 (.ifCond .eq 14) 3 := dJ0_isLatin1_aae02_3
theorem DJ0_isLatin1_aae02_6 : xd M_J0_isLatin1_aae02 6 (.aload_n 0) 1 := dJ0_isLatin1_aae02_6
theorem DJ0_isLatin1_aae02_7 : xd M_J0_isLatin1_aae02 7 (.getfield 15) 3 := dJ0_isLatin1_aae02_7
theorem DJ0_isLatin1_aae02_10 : xd M_J0_isLatin1_aae02 10 (.ifCond .ne 7) 3 := dJ0_isLatin1_aae02_10
theorem DJ0_isLatin1_aae02_13 : xd M_J0_isLatin1_aae02 13 (.iconst 1) 1 := dJ0_isLatin1_aae02_13
theorem DJ0_isLatin1_aae02_14 : xd M_J0_isLatin1_aae02 14 (.goto 4) 3 := dJ0_isLatin1_aae02_14
theorem DJ0_isLatin1_aae02_17 : xd M_J0_isLatin1_aae02 17 (.iconst 0) 1 := dJ0_isLatin1_aae02_17
theorem DJ0_isLatin1_aae02_18 : xd M_J0_isLatin1_aae02 18 (.ireturn) 1 := dJ0_isLatin1_aae02_18
theorem DJ0_checkIndex_df160_0 : xd M_J0_checkIndex_df160 0 (.iload_n 0) 1 := dJ0_checkIndex_df160_0
theorem DJ0_checkIndex_df160_1 : xd M_J0_checkIndex_df160 1 (.iload_n 1) 1 := dJ0_checkIndex_df160_1
theorem DJ0_checkIndex_df160_2 : xd M_J0_checkIndex_df160 2 (.getstatic 1053) 3 := dJ0_checkIndex_df160_2
theorem DJ0_checkIndex_df160_5 : xd M_J0_checkIndex_df160 5 (.invokestatic 1059) 3 := dJ0_checkIndex_df160_5
theorem DJ0_checkIndex_df160_8 : xd M_J0_checkIndex_df160 8 (.pop) 1 := dJ0_checkIndex_df160_8
theorem DJ0_checkIndex_df160_9 : xd M_J0_checkIndex_df160 9 (.return_) 1 := dJ0_checkIndex_df160_9
theorem DJ1_charAt_3b067_0 : xd M_J1_charAt_3b067 0 (.iload_n 1) 1 := dJ1_charAt_3b067_0
theorem DJ1_charAt_3b067_1 : xd M_J1_charAt_3b067 1 (.aload_n 0) 1 := dJ1_charAt_3b067_1
theorem DJ1_charAt_3b067_2 : xd M_J1_charAt_3b067 2 (.arraylength) 1 := dJ1_charAt_3b067_2
theorem DJ1_charAt_3b067_3 : xd M_J1_charAt_3b067 3 (.invokestatic 9) 3 := dJ1_charAt_3b067_3
theorem DJ1_charAt_3b067_6 : xd M_J1_charAt_3b067 6 (.aload_n 0) 1 := dJ1_charAt_3b067_6
theorem DJ1_charAt_3b067_7 : xd M_J1_charAt_3b067 7 (.iload_n 1) 1 := dJ1_charAt_3b067_7
theorem DJ1_charAt_3b067_8 : xd M_J1_charAt_3b067 8 (.baload) 1 := dJ1_charAt_3b067_8
theorem DJ1_charAt_3b067_9 : xd M_J1_charAt_3b067 9 (.sipush 255) 3 := dJ1_charAt_3b067_9
theorem DJ1_charAt_3b067_12 : xd M_J1_charAt_3b067 12 (.iand) 1 := dJ1_charAt_3b067_12
theorem DJ1_charAt_3b067_13 : xd M_J1_charAt_3b067 13 (.i2c) 1 := dJ1_charAt_3b067_13
theorem DJ1_charAt_3b067_14 : xd M_J1_charAt_3b067 14 (.ireturn) 1 := dJ1_charAt_3b067_14
theorem DJ3_checkIndex_8e157_0 : xd M_J3_checkIndex_8e157 0 (.iload_n 0) 1 := dJ3_checkIndex_8e157_0
theorem DJ3_checkIndex_8e157_1 : xd M_J3_checkIndex_8e157 1 (.ifCond .lt 8) 3 := dJ3_checkIndex_8e157_1
theorem DJ3_checkIndex_8e157_4 : xd M_J3_checkIndex_8e157 4 (.iload_n 0) 1 := dJ3_checkIndex_8e157_4
theorem DJ3_checkIndex_8e157_5 : xd M_J3_checkIndex_8e157 5 (.iload_n 1) 1 := dJ3_checkIndex_8e157_5
theorem DJ3_checkIndex_8e157_6 : xd M_J3_checkIndex_8e157 6 (.if_icmp .lt 10) 3 := dJ3_checkIndex_8e157_6
theorem DJ3_checkIndex_8e157_9 : xd M_J3_checkIndex_8e157 9 (.aload_n 2) 1 := dJ3_checkIndex_8e157_9
theorem DJ3_checkIndex_8e157_10 : xd M_J3_checkIndex_8e157 10 (.iload_n 0) 1 := dJ3_checkIndex_8e157_10
theorem DJ3_checkIndex_8e157_11 : xd M_J3_checkIndex_8e157 11 (.iload_n 1) 1 := dJ3_checkIndex_8e157_11
theorem DJ3_checkIndex_8e157_12 : xd M_J3_checkIndex_8e157 12 (.invokestatic 95) 3 := dJ3_checkIndex_8e157_12
theorem DJ3_checkIndex_8e157_15 : xd M_J3_checkIndex_8e157 15 (.athrow) 1 := dJ3_checkIndex_8e157_15
theorem DJ3_checkIndex_8e157_16 : xd M_J3_checkIndex_8e157 16 (.iload_n 0) 1 := dJ3_checkIndex_8e157_16
theorem DJ3_checkIndex_8e157_17 : xd M_J3_checkIndex_8e157 17 (.ireturn) 1 := dJ3_checkIndex_8e157_17
theorem C_J0_335 : xCV RJ0 335 yJ0_coder_7d493 M_J0_coder_7d493 0 := ⟨x_in 643 (by decide +kernel) rfl, x_in 644 (by decide +kernel) rfl, x_in 645 (by decide +kernel) rfl, x_in 92 (by decide +kernel) rfl, x_in 646 (by decide +kernel) rfl, by decide +kernel⟩
theorem C_J0_492 : xCV RJ0 492 yJ0_isLatin1_aae02 M_J0_isLatin1_aae02 0 := ⟨x_in 653 (by decide +kernel) rfl, x_in 654 (by decide +kernel) rfl, x_in 655 (by decide +kernel) rfl, x_in 92 (by decide +kernel) rfl, x_in 656 (by decide +kernel) rfl, by decide +kernel⟩
theorem C_J0_495 : xCS RJ0 495 yJ1_charAt_3b067 M_J1_charAt_3b067 2 := ⟨x_in 657 (by decide +kernel) rfl, x_in 658 (by decide +kernel) rfl, x_in 93 (by decide +kernel) rfl, x_in 659 (by decide +kernel) rfl, by decide +kernel⟩
theorem C_J1_9 : xCS RJ1 9 yJ0_checkIndex_df160 M_J0_checkIndex_df160 2 := ⟨x_in 660 (by decide +kernel) rfl, x_in 661 (by decide +kernel) rfl, x_in 92 (by decide +kernel) rfl, x_in 662 (by decide +kernel) rfl, by decide +kernel⟩
theorem C_J0_1059 : xCS RJ0 1059 yJ3_checkIndex_8e157 M_J3_checkIndex_8e157 3 := ⟨x_in 665 (by decide +kernel) rfl, x_in 666 (by decide +kernel) rfl, x_in 94 (by decide +kernel) rfl, x_in 667 (by decide +kernel) rfl, by decide +kernel⟩
theorem S_9 : Cond.fieldLink RJ0 9 "java/lang/String" "value" "[B" ∈ xtb := x_in 1346 (by decide +kernel) rfl
theorem S_15 : Cond.fieldLink RJ0 15 "java/lang/String" "coder" "B" ∈ xtb := x_in 1347 (by decide +kernel) rfl
theorem S_38 : Cond.fieldLink RJ0 38 "java/lang/String" "COMPACT_STRINGS" "Z" ∈ xtb := x_in 647 (by decide +kernel) rfl
theorem S_1053 : Cond.fieldLink RJ0 1053 "jdk/internal/util/Preconditions" "SIOOBE_FORMATTER" "Ljava/util/function/BiFunction;" ∈ xtb := x_in 663 (by decide +kernel) rfl
section STRS
variable {l : Launch} {g : xG} {h : Nat} {M : xM} {pc : Nat} {L : List (Option Value)} {S : List Value} {s s' : xS} {R : Option Value × xS}
theorem r_sval {index i : Nat} (d : xd M pc (.getfield index) 3) (hi : i < 10) (hf : Cond.fieldLink M.2.2.2 index "java/lang/String" "value" "[B" ∈ xtb) (k : Rx l g h M (pc + 3) L (.ref (g.2.2.2.1 i) :: S) s R) : Rx l g h M pc L (.ref (xk g i) :: S) s R := by
  intro p e u m args below meth c H locs ls hC hP hD hS hl
  exact vk_getf hC.1 hC.2.1 (hC.2.2.2.2.2.2.2.2.1.1 i hi).2.2.1 hS hC.2.2.2.2.1 (hC.2.2.2.2.2.1 _ hf) (fun _ q => q) d (k p e u m args below meth c H locs ls hC hP hD hS hl)
theorem r_scod {index i : Nat} (d : xd M pc (.getfield index) 3) (hi : i < 10) (hf : Cond.fieldLink M.2.2.2 index "java/lang/String" "coder" "B" ∈ xtb) (k : Rx l g h M (pc + 3) L (.int 0 :: S) s R) : Rx l g h M pc L (.ref (xk g i) :: S) s R := by
  intro p e u m args below meth c H locs ls hC hP hD hS hl
  exact vk_getf hC.1 hC.2.1 (hC.2.2.2.2.2.2.2.2.1.1 i hi).2.1 hS hC.2.2.2.2.1 (hC.2.2.2.2.2.1 _ hf) (fun _ q => q) d (k p e u m args below meth c H locs ls hC hP hD hS hl)
theorem r_slen {i : Nat} (d : xd M pc (.arraylength) 1) (hi : i < 10) (k : Rx l g h M (pc + 1) L (.int (nI (xsLen.getD i 0)) :: S) s R) : Rx l g h M pc L (.ref (g.2.2.2.1 i) :: S) s R := by
  intro p e u m args below meth c H locs ls hC hP hD hS hl
  exact va_tlen hC.1 hC.2.1 (hC.2.2.2.2.2.2.2.2.1.1 i hi).2.2.2 hS rfl d (k p e u m args below meth c H locs ls hC hP hD hS hl)
theorem r_sald {i : Nat} {x : Int32} (d : xd M pc (.baload) 1) (hi : i < 10) (hin : vp_in x (xsLen.getD i 0)) (k : Rx l g h M (pc + 1) L (.int ((xsByt.getD i []).getD x.toNatClampNeg 0) :: S) s R) : Rx l g h M pc L (.int x :: .ref (g.2.2.2.1 i) :: S) s R := by
  intro p e u m args below meth c H locs ls hC hP hD hS hl
  exact va_tb hC.1 hC.2.1 (hC.2.2.2.2.2.2.2.2.1.1 i hi).2.2.2 hS hin rfl d (k p e u m args below meth c H locs ls hC hP hD hS hl)
theorem r_gets1 {index : Nat} (d : xd M pc (.getstatic index) 3) (hf : Cond.fieldLink M.2.2.2 index "java/lang/String" "COMPACT_STRINGS" "Z" ∈ xtb) (k : Rx l g h M (pc + 3) L (.int 1 :: S) s R) : Rx l g h M pc L S s R := by
  intro p e u m args below meth c H locs ls hC hP hD hS hl
  exact va_gets hC.1 hC.2.1 hC.2.2.2.2.2.2.2.2.2.2.1 hS hC.2.2.2.2.1 (hC.2.2.2.2.2.1 _ hf) (fun _ q => q) d (k p e u m args below meth c H locs ls hC hP hD hS hl)
theorem r_getsq {index : Nat} (d : xd M pc (.getstatic index) 3) (hf : Cond.fieldLink M.2.2.2 index "jdk/internal/util/Preconditions" "SIOOBE_FORMATTER" "Ljava/util/function/BiFunction;" ∈ xtb) (k0 : Rx l g h M (pc + 3) L (.null :: S) s R) (k1 : ∀ t, Rx l g h M (pc + 3) L (.ref t :: S) s R) : Rx l g h M pc L S s R := by
  intro p e u m args below meth c H locs ls hC hP hD hS hl
  rcases hC.2.2.2.2.2.2.2.2.2.2.2 with z | ⟨t, z⟩
  · exact va_gets hC.1 hC.2.1 z hS hC.2.2.2.2.1 (hC.2.2.2.2.2.1 _ hf) (fun _ q => q) d (k0 p e u m args below meth c H locs ls hC hP hD hS hl)
  · exact va_gets hC.1 hC.2.1 z hS hC.2.2.2.2.1 (hC.2.2.2.2.2.1 _ hf) (fun _ q => q) d (k1 t p e u m args below meth c H locs ls hC hP hD hS hl)
theorem r_callVS {y : MethodName} {M' : xM} {index h' i : Nat} {As S0 : List Value} {v : Value} {n : Nat} (d : xd M pc (.invokevirtual index) 3) (hi : i < 10) (hy : "java/lang/String" = y.cls) (hc : xCV M.2.2.2 index y M' n) (hh : h' + 1 ≤ h) (hm : M'.2.1 ≤ 21) (hS0 : (S.map fun v => v.category).sum ≤ 8) (E : Ev l g h' y M' (.ref (xk g i) :: As) s (some v, s'))
    (hst : As.reverse ++ .ref (xk g i) :: S = S0) (k : Rx l g h M (pc + 3) L (v :: S) s' R) (hn : As.length = n := by rfl) : Rx l g h M pc L S0 s R := by
  subst hn
  intro p e u m args below meth c H locs ls hC hP hD hS hl
  subst hst
  obtain ⟨c1, c2, c3, c4, c5, c6⟩ := hc
  have hG : GoodIn xtb (wsV M.2.2.2 index y.cls y (.code y M'.1 M'.2.1 M'.2.2.1 :: xtb)) := x_goodIn (by
    intro w hw
    rcases List.mem_append.mp hw with z | z
    · simp only [List.mem_cons, List.not_mem_nil, or_false] at z
      rcases z with rfl | rfl | rfl | rfl <;> assumption
    · rcases List.mem_cons.mp z with rfl | z
      · exact c5
      · exact z)
  have hrecv := vk_recv hC.2.2.2.2.2.2.2.2.1 hi hS
  rw [hy] at hrecv
  refine x_after hD hS (va_runV (C := y.cls) (As := As) (rest := S) (n := As.length) ⟨hC.1, hC.2.1, hC.2.2.1, hC.2.2.2.2.1, hC.2.2.2.2.2.1⟩ (E H.size) (cwV As.length hC.2.2.2.2.2.1 hG rfl rfl rfl ⟨rfl, c6⟩ ⟨hh, by show 8 + (M'.2.1 + 11) + 40 * h' ≤ 40 * h; omega⟩) ⟨x_blind, hrecv, fun U hU hW => x_pre hC.2.2.2.2.2.2.2.1 hC.2.2.2.2.2.2.2.2 hP hD hS hU hW⟩ rfl rfl hl.1 rfl (lv_room hS0) d ⟨Nat.le_refl _, Nat.le_refl _⟩) (fun H1 locs1 hP1 hD1 hS1 => k p e u m args below meth c H1 locs1 ls hC hP1 hD1 hS1 hl)
theorem t_scoder {i : Nat} (hi : i < 10) : Ev l g 0 yJ0_coder_7d493 M_J0_coder_7d493 [.ref (xk g i)] s (some (.int 0), s) := by
  refine Ev.of 0 (L0 := [some (.ref (xk g i))]) (by decide) rfl (Nat.le_of_ble_eq_true rfl) rfl ?_
  refine r_gets1 DJ0_coder_7d493_0 S_38 ?_
  refine r_if_eq DJ0_coder_7d493_3 (tgt := 13) (by decide) (fun c => absurd c (by decide)) (fun _ => ?_)
  refine r_aload_n DJ0_coder_7d493_6 (i := 0) rfl rfl ?_
  refine r_scod DJ0_coder_7d493_7 hi S_15 ?_
  refine r_goto DJ0_coder_7d493_10 (tgt := 14) (by decide) ?_
  exact r_zret DJ0_coder_7d493_14 rfl (by decide) rfl
theorem t_sisLatin {i : Nat} (hi : i < 10) : Ev l g 0 yJ0_isLatin1_aae02 M_J0_isLatin1_aae02 [.ref (xk g i)] s (some (.int 1), s) := by
  refine Ev.of 0 (L0 := [some (.ref (xk g i))]) (by decide) rfl (Nat.le_of_ble_eq_true rfl) rfl ?_
  refine r_gets1 DJ0_isLatin1_aae02_0 S_38 ?_
  refine r_if_eq DJ0_isLatin1_aae02_3 (tgt := 17) (by decide) (fun c => absurd c (by decide)) (fun _ => ?_)
  refine r_aload_n DJ0_isLatin1_aae02_6 (i := 0) rfl rfl ?_
  refine r_scod DJ0_isLatin1_aae02_7 hi S_15 ?_
  refine r_if_ne DJ0_isLatin1_aae02_10 (tgt := 17) (by decide) (fun c => absurd rfl c) (fun _ => ?_)
  refine r_iconst DJ0_isLatin1_aae02_13 (v := 1) (by decide) ?_
  refine r_goto DJ0_isLatin1_aae02_14 (tgt := 18) (by decide) ?_
  exact r_zret DJ0_isLatin1_aae02_18 rfl (by decide) rfl
theorem x_shr0 : ∀ i, i < 10 → (nI (xsLen.getD i 0)) >>> ((0 : Int32) &&& 31) = nI (xsLen.getD i 0) := by decide +kernel
theorem t_slength {i : Nat} (hi : i < 10) : Ev l g 1 yJ0_length_8abf5 M_J0_length_8abf5 [.ref (xk g i)] s (some (.int (f_strlen i)), s) := by
  refine Ev.of 0 (L0 := [some (.ref (xk g i))]) (by decide) rfl (Nat.le_of_ble_eq_true rfl) rfl ?_
  refine r_aload_n DJ0_length_8abf5_0 (i := 0) rfl rfl ?_
  refine r_sval DJ0_length_8abf5_1 hi S_9 ?_
  refine r_slen DJ0_length_8abf5_4 hi ?_
  refine r_aload_n DJ0_length_8abf5_5 (i := 0) rfl rfl ?_
  refine r_callVS (As := []) (S := [.int (nI (xsLen.getD i 0))]) DJ0_length_8abf5_6 hi rfl C_J0_335 (by decide) (by decide) (Nat.le_of_ble_eq_true rfl) (t_scoder hi) rfl ?_
  refine r_ishr DJ0_length_8abf5_9 ?_
  rw [x_shr0 i hi]
  exact r_iret DJ0_length_8abf5_10 rfl rfl
theorem r_pcheck {x n : Int32} {v : Value} (h1 : ¬ x < 0) (h2 : x < n) : Rx l g 0 M_J3_checkIndex_8e157 0 [some (.int x), some (.int n), some v] [] s (some (.int x), s) := by
  refine r_iload_n DJ3_checkIndex_8e157_0 (i := 0) rfl rfl ?_
  refine r_if_lt DJ3_checkIndex_8e157_1 (tgt := 9) (by decide) (fun c => absurd c h1) (fun _ => ?_)
  refine r_iload_n DJ3_checkIndex_8e157_4 (i := 0) rfl rfl ?_
  refine r_iload_n DJ3_checkIndex_8e157_5 (i := 1) rfl rfl ?_
  refine r_icmp_lt DJ3_checkIndex_8e157_6 (tgt := 16) (by decide) (fun _ => ?_) (fun c => absurd h2 c)
  refine r_iload_n DJ3_checkIndex_8e157_16 (i := 0) rfl rfl ?_
  exact r_iret DJ3_checkIndex_8e157_17 rfl rfl
theorem t_pcheckN {x n : Int32} (h1 : ¬ x < 0) (h2 : x < n) : Ev l g 0 yJ3_checkIndex_8e157 M_J3_checkIndex_8e157 [.int x, .int n, .null] s (some (.int x), s) := Ev.of 0 (L0 := [some (.int x), some (.int n), some .null]) (by decide) rfl (Nat.le_of_ble_eq_true rfl) rfl (r_pcheck h1 h2)
theorem t_pcheckR {x n : Int32} {t : Nat} (h1 : ¬ x < 0) (h2 : x < n) : Ev l g 0 yJ3_checkIndex_8e157 M_J3_checkIndex_8e157 [.int x, .int n, .ref t] s (some (.int x), s) := Ev.of 0 (L0 := [some (.int x), some (.int n), some (.ref t)]) (by decide) rfl (Nat.le_of_ble_eq_true rfl) rfl (r_pcheck h1 h2)
theorem t_scheck {x n : Int32} (h1 : ¬ x < 0) (h2 : x < n) : Ev l g 1 yJ0_checkIndex_df160 M_J0_checkIndex_df160 [.int x, .int n] s (none, s) := by
  refine Ev.of 0 (L0 := [some (.int x), some (.int n)]) (by decide) rfl (Nat.le_of_ble_eq_true rfl) rfl ?_
  refine r_iload_n DJ0_checkIndex_df160_0 (i := 0) rfl rfl ?_
  refine r_iload_n DJ0_checkIndex_df160_1 (i := 1) rfl rfl ?_
  refine r_getsq DJ0_checkIndex_df160_2 S_1053 ?_ (fun t => ?_)
  · refine r_callS1 (As := [.int x, .int n, .null]) (S := []) DJ0_checkIndex_df160_5 C_J0_1059 (by decide) (by decide) (Nat.le_of_ble_eq_true rfl) (t_pcheckN h1 h2) rfl ?_
    refine r_pop DJ0_checkIndex_df160_8 rfl ?_
    exact r_vret DJ0_checkIndex_df160_9 rfl rfl
  · refine r_callS1 (As := [.int x, .int n, .ref t]) (S := []) DJ0_checkIndex_df160_5 C_J0_1059 (by decide) (by decide) (Nat.le_of_ble_eq_true rfl) (t_pcheckR h1 h2) rfl ?_
    refine r_pop DJ0_checkIndex_df160_8 rfl ?_
    exact r_vret DJ0_checkIndex_df160_9 rfl rfl
theorem x_chr : ∀ i, i < 10 → ∀ j, j < xsLen.getD i 0 → ((((xsByt.getD i []).getD j 0) &&& 255).toUInt32 % 65536).toInt32 = (xsByt.getD i []).getD j 0 ∧ narrow .char (.int ((xsByt.getD i []).getD j 0)) = .int ((xsByt.getD i []).getD j 0) := by decide +kernel
theorem x_len31 : ∀ i, i < 10 → xsLen.getD i 0 < 100 := by decide +kernel
theorem x_inlt {x : Int32} {n : Nat} (hx : xin x n) (hn : n < 2 ^ 31) : ¬ x < 0 ∧ x < nI n ∧ x.toNatClampNeg < n := by
  have h0 : ¬ x < 0 := fun z => hx (Or.inl z)
  have h1 : x.toNatClampNeg < n := by
    rcases Nat.lt_or_ge x.toNatClampNeg n with z | z
    · exact z
    · exact absurd (Or.inr z) hx
  obtain ⟨j, hj, rfl⟩ := vp_in_of hx hn
  exact ⟨h0, nI_lt hj hn, h1⟩
theorem t_latchr {i : Nat} {x : Int32} (hi : i < 10) (hx : xin x (xsLen.getD i 0)) : Ev l g 2 yJ1_charAt_3b067 M_J1_charAt_3b067 [.ref (g.2.2.2.1 i), .int x] s (some (.int ((xsByt.getD i []).getD x.toNatClampNeg 0)), s) := by
  have hn : xsLen.getD i 0 < 2 ^ 31 := Nat.lt_trans (x_len31 i hi) (by decide)
  obtain ⟨h1, h2, h3⟩ := x_inlt hx hn
  have hc := x_chr i hi _ h3
  refine Ev.of 0 (L0 := [some (.ref (g.2.2.2.1 i)), some (.int x)]) (by decide) rfl (Nat.le_of_ble_eq_true rfl) rfl ?_
  refine r_iload_n DJ1_charAt_3b067_0 (i := 1) rfl rfl ?_
  refine r_aload_n DJ1_charAt_3b067_1 (i := 0) rfl rfl ?_
  refine r_slen DJ1_charAt_3b067_2 hi ?_
  refine r_callS0 (As := [.int x, .int (nI (xsLen.getD i 0))]) (S := []) DJ1_charAt_3b067_3 C_J1_9 (by decide) (by decide) (Nat.le_of_ble_eq_true rfl) (t_scheck h1 h2) rfl ?_
  refine r_aload_n DJ1_charAt_3b067_6 (i := 0) rfl rfl ?_
  refine r_iload_n DJ1_charAt_3b067_7 (i := 1) rfl rfl ?_
  refine r_sald DJ1_charAt_3b067_8 hi hx ?_
  refine r_sipush DJ1_charAt_3b067_9 (v := 255) (by decide) ?_
  refine r_iand DJ1_charAt_3b067_12 ?_
  refine r_i2c DJ1_charAt_3b067_13 ?_
  rw [hc.1]
  exact r_zret DJ1_charAt_3b067_14 rfl hc.2 rfl
theorem t_schr {i : Nat} {x : Int32} (hi : i < 10) (hx : xin x (xsLen.getD i 0)) : Ev l g 3 yJ0_charAt_5068e M_J0_charAt_5068e [.ref (xk g i), .int x] s (some (.int ((xsByt.getD i []).getD x.toNatClampNeg 0)), s) := by
  have hn : xsLen.getD i 0 < 2 ^ 31 := Nat.lt_trans (x_len31 i hi) (by decide)
  have hc := x_chr i hi _ (x_inlt hx hn).2.2
  refine Ev.of 0 (L0 := [some (.ref (xk g i)), some (.int x)]) (by decide) rfl (Nat.le_of_ble_eq_true rfl) rfl ?_
  refine r_aload_n DJ0_charAt_5068e_0 (i := 0) rfl rfl ?_
  refine r_callVS (As := []) (S := []) DJ0_charAt_5068e_1 hi rfl C_J0_492 (by decide) (by decide) (Nat.le_of_ble_eq_true rfl) (t_sisLatin hi) rfl ?_
  refine r_if_eq DJ0_charAt_5068e_4 (tgt := 16) (by decide) (fun c => absurd c (by decide)) (fun _ => ?_)
  refine r_aload_n DJ0_charAt_5068e_7 (i := 0) rfl rfl ?_
  refine r_sval DJ0_charAt_5068e_8 hi S_9 ?_
  refine r_iload_n DJ0_charAt_5068e_11 (i := 1) rfl rfl ?_
  refine r_callS1 (As := [.ref (g.2.2.2.1 i), .int x]) (S := []) DJ0_charAt_5068e_12 C_J0_495 (by decide) (by decide) (Nat.le_of_ble_eq_true rfl) (t_latchr hi hx) rfl ?_
  exact r_zret DJ0_charAt_5068e_15 rfl hc.2 rfl
theorem r_strlen {index i : Nat} (d : xd M pc (.invokevirtual index) 3) (hi : i < 10) (hc : xCV M.2.2.2 index yJ0_length_8abf5 M_J0_length_8abf5 0) (hh : 4 ≤ h) (hS0 : (S.map fun v => v.category).sum ≤ 8) (k : Rx l g h M (pc + 3) L (.int (f_strlen i) :: S) s R) : Rx l g h M pc L (.ref (xk g i) :: S) s R :=
  r_callVS (As := []) (S := S) d hi rfl hc (by omega) (by decide) hS0 (t_slength hi) rfl k
theorem r_strchr {index i : Nat} {x r : Int32} (d : xd M pc (.invokevirtual index) 3) (hi : i < 10) (hc : xCV M.2.2.2 index yJ0_charAt_5068e M_J0_charAt_5068e 1) (hh : 4 ≤ h) (hS0 : (S.map fun v => v.category).sum ≤ 8) (e : f_strchr i x = some r) (k : Rx l g h M (pc + 3) L (.int r :: S) s R) : Rx l g h M pc L (.int x :: .ref (xk g i) :: S) s R := by
  unfold f_strchr at e
  obtain ⟨hx, e⟩ := x_grd e
  obtain rfl := Option.some.inj e
  exact r_callVS (As := [.int x]) (S := S) d hi rfl hc (by omega) (by decide) hS0 (t_schr hi hx) rfl k
end STRS
