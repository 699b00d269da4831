set_option maxRecDepth 100000 in
set_option maxHeartbeats 4000000 in
theorem t_X8_is {l : Launch} {g : xG} {a : xT} (v1 : Int32) (b : xT)  {r : Int32} (e : f_X8_is v1 b = some r) : Ev l g 0 yX8_is M_X8_is [.ref (xa g 44), .int v1] (a, b) (some (.int r), (a, b)) := by
  unfold f_X8_is at e
  refine Ev.of 0 (L0 := [some (.ref (xa g 44)), some (.int v1)]) (by decide) rfl (Nat.le_of_ble_eq_true rfl) rfl ?_
  refine r_iload_n DX8_is_0 (i := 1) rfl rfl ?_
  by_cases c1_0 : v1 = 0
  · replace e := x_ift c1_0 e
    refine r_tsIn DX8_is_1 (tgt := 32) (by rw [c1_0]; decide) (by rw [c1_0]; decide) (by rw [c1_0]; rfl) (by decide) ?_
    refine r_aload_n DX8_is_32 (i := 0) rfl rfl ?_
    refine r_get (v := .int (gI b 0)) DX8_is_33 F_X8_7 e_44 rfl ?_
    obtain rfl := Option.some.inj e
    exact r_iret DX8_is_36 rfl rfl
  replace e := x_iff c1_0 e
  by_cases c1_1 : v1 = 1
  · replace e := x_ift c1_1 e
    refine r_tsIn DX8_is_1 (tgt := 37) (by rw [c1_1]; decide) (by rw [c1_1]; decide) (by rw [c1_1]; rfl) (by decide) ?_
    refine r_aload_n DX8_is_37 (i := 0) rfl rfl ?_
    refine r_get (v := .int (gI b 1)) DX8_is_38 F_X8_88 e_44 rfl ?_
    obtain rfl := Option.some.inj e
    exact r_iret DX8_is_41 rfl rfl
  replace e := x_iff c1_1 e
  by_cases c1_2 : v1 = 2
  · replace e := x_ift c1_2 e
    refine r_tsIn DX8_is_1 (tgt := 42) (by rw [c1_2]; decide) (by rw [c1_2]; decide) (by rw [c1_2]; rfl) (by decide) ?_
    refine r_aload_n DX8_is_42 (i := 0) rfl rfl ?_
    refine r_get (v := .int (gI b 2)) DX8_is_43 F_X8_13 e_44 rfl ?_
    obtain rfl := Option.some.inj e
    exact r_iret DX8_is_46 rfl rfl
  replace e := x_iff c1_2 e
  by_cases c1_3 : v1 = 3
  · replace e := x_ift c1_3 e
    refine r_tsIn DX8_is_1 (tgt := 47) (by rw [c1_3]; decide) (by rw [c1_3]; decide) (by rw [c1_3]; rfl) (by decide) ?_
    refine r_aload_n DX8_is_47 (i := 0) rfl rfl ?_
    refine r_get (v := .int (gI b 3)) DX8_is_48 F_X8_91 e_44 rfl ?_
    obtain rfl := Option.some.inj e
    exact r_iret DX8_is_51 rfl rfl
  replace e := x_iff c1_3 e
  refine r_tsOut DX8_is_1 (tgt := 52) (x_out0_3 (x_ne c1_0) (x_ne c1_1) (x_ne c1_2) (x_ne c1_3)) (by decide) ?_
  refine r_sipush DX8_is_52 (v := (-1002)) (by decide) ?_
  obtain rfl := Option.some.inj e
  exact r_iret DX8_is_55 rfl rfl

set_option maxRecDepth 100000 in
set_option maxHeartbeats 4000000 in
theorem t_X8_isSeen {l : Launch} {g : xG} {a : xT} (v1 : Int32) (v2 : Int32) (b : xT)  {r : Int32} (e : f_X8_isSeen v1 v2 b = some r) : Ev l g 2 yX8_isSeen M_X8_isSeen [.ref (xa g 44), .int v1, .int v2] (a, b) (some (.int r), (a, b)) := by
  unfold f_X8_isSeen at e
  refine Ev.of 0 (L0 := [some (.ref (xa g 44)), some (.int v1), some (.int v2)]) (by decide) rfl (Nat.le_of_ble_eq_true rfl) rfl ?_
  refine r_aload_n DX8_isSeen_0 (i := 0) rfl rfl ?_
  refine r_iload_n DX8_isSeen_1 (i := 1) rfl rfl ?_
  obtain ⟨q2, e2, e⟩ := x_bnd e
  refine r_callV1 (As := [.int v1]) (S := []) DX8_isSeen_2 C_X8_94 (ci := 8) rfl rfl e_44 (by decide) (by decide) (Nat.le_of_ble_eq_true rfl) (t_X8_isMark v1 b e2) rfl ?_
  refine r_if_eq DX8_isSeen_5 (tgt := 26) (by decide) (fun c5 => ?_) (fun c5 => ?_)
  · replace e := x_ift c5 e
    refine r_iconst DX8_isSeen_26 (v := 0) (by decide) ?_
    obtain rfl := Option.some.inj e
    exact r_zret DX8_isSeen_27 rfl (by decide) rfl
  · replace e := x_iff c5 e
    refine r_aload_n DX8_isSeen_8 (i := 0) rfl rfl ?_
    refine r_iload_n DX8_isSeen_9 (i := 2) rfl rfl ?_
    obtain ⟨q10, e10, e⟩ := x_bnd e
    refine r_callV1 (As := [.int v2]) (S := []) DX8_isSeen_10 C_X8_94 (ci := 8) rfl rfl e_44 (by decide) (by decide) (Nat.le_of_ble_eq_true rfl) (t_X8_isMark v2 b e10) rfl ?_
    refine r_if_eq DX8_isSeen_13 (tgt := 26) (by decide) (fun c13 => ?_) (fun c13 => ?_)
    · replace e := x_ift c13 e
      refine r_iconst DX8_isSeen_26 (v := 0) (by decide) ?_
      obtain rfl := Option.some.inj e
      exact r_zret DX8_isSeen_27 rfl (by decide) rfl
    · replace e := x_iff c13 e
      refine r_iload_n DX8_isSeen_16 (i := 1) rfl rfl ?_
      refine r_iload_n DX8_isSeen_17 (i := 2) rfl rfl ?_
      refine r_iand DX8_isSeen_18 ?_
      refine r_if_ne DX8_isSeen_19 (tgt := 26) (by decide) (fun c19 => ?_) (fun c19 => ?_)
      · replace e := x_iff c19 e
        refine r_iconst DX8_isSeen_26 (v := 0) (by decide) ?_
        obtain rfl := Option.some.inj e
        exact r_zret DX8_isSeen_27 rfl (by decide) rfl
      · replace e := x_ift c19 e
        refine r_iconst DX8_isSeen_22 (v := 1) (by decide) ?_
        refine r_goto DX8_isSeen_23 (tgt := 27) (by decide) ?_
        obtain rfl := Option.some.inj e
        exact r_zret DX8_isSeen_27 rfl (by decide) rfl

set_option maxRecDepth 100000 in
set_option maxHeartbeats 4000000 in
theorem t_X8_island {l : Launch} {g : xG} {a : xT} (v1 : Int32) (v2 : Int32) (v3 : Int32) (b : xT)  {r : (Int32 × xT)} (e : f_X8_island v1 v2 v3 b = some r) : Ev l g 1 yX8_island M_X8_island [.ref (xa g 44), .int v1, .int v2, .int v3] (a, b) (some (.int r.1), (a, r.2)) := by
  unfold f_X8_island at e
  refine Ev.of 0 (L0 := [some (.ref (xa g 44)), some (.int v1), some (.int v2), some (.int v3)]) (by decide) rfl (Nat.le_of_ble_eq_true rfl) rfl ?_
  refine r_iload_n DX8_island_0 (i := 1) rfl rfl ?_
  refine r_i2l DX8_island_1 ?_
  refine r_lconst DX8_island_2 (v := 0) (by decide) ?_
  refine r_ldc2 DX8_island_3 K_X8_84 ?_
  obtain ⟨q6, e6, e⟩ := x_bnd e
  refine r_callS1 (As := [.long (Int32.toInt64 v1), .long 0, .long 3]) (S := []) DX8_island_6 C_X8_70 (by decide) (by decide) (Nat.le_of_ble_eq_true rfl) (t_X8_in (Int32.toInt64 v1) 0 3 e6) rfl ?_
  refine r_if_eq DX8_island_9 (tgt := 36) (by decide) (fun c9 => ?_) (fun c9 => ?_)
  · replace e := x_ift c9 e
    refine r_sipush DX8_island_36 (v := (-1002)) (by decide) ?_
    obtain rfl := Option.some.inj e
    exact r_iret DX8_island_39 rfl rfl
  · replace e := x_iff c9 e
    refine r_iload_n DX8_island_12 (i := 2) rfl rfl ?_
    refine r_i2l DX8_island_13 ?_
    refine r_lconst DX8_island_14 (v := 0) (by decide) ?_
    refine r_ldc2 DX8_island_15 K_X8_86 ?_
    obtain ⟨q18, e18, e⟩ := x_bnd e
    refine r_callS1 (As := [.long (Int32.toInt64 v2), .long 0, .long 4]) (S := []) DX8_island_18 C_X8_70 (by decide) (by decide) (Nat.le_of_ble_eq_true rfl) (t_X8_in (Int32.toInt64 v2) 0 4 e18) rfl ?_
    refine r_if_eq DX8_island_21 (tgt := 36) (by decide) (fun c21 => ?_) (fun c21 => ?_)
    · replace e := x_ift c21 e
      refine r_sipush DX8_island_36 (v := (-1002)) (by decide) ?_
      obtain rfl := Option.some.inj e
      exact r_iret DX8_island_39 rfl rfl
    · replace e := x_iff c21 e
      refine r_iload_n DX8_island_24 (i := 3) rfl rfl ?_
      refine r_i2l DX8_island_25 ?_
      refine r_lconst DX8_island_26 (v := 0) (by decide) ?_
      refine r_ldc2 DX8_island_27 K_X8_86 ?_
      obtain ⟨q30, e30, e⟩ := x_bnd e
      refine r_callS1 (As := [.long (Int32.toInt64 v3), .long 0, .long 4]) (S := []) DX8_island_30 C_X8_70 (by decide) (by decide) (Nat.le_of_ble_eq_true rfl) (t_X8_in (Int32.toInt64 v3) 0 4 e30) rfl ?_
      refine r_if_ne DX8_island_33 (tgt := 40) (by decide) (fun c33 => ?_) (fun c33 => ?_)
      · replace e := x_iff c33 e
        refine r_aload_n DX8_island_40 (i := 0) rfl rfl ?_
        refine r_iload_n DX8_island_41 (i := 1) rfl rfl ?_
        refine r_put (ty := .int) DX8_island_42 F_X8_88 Fp_8_1 e_44 rfl rfl (Nat.le_of_ble_eq_true rfl) p_44_1 ?_
        refine r_aload_n DX8_island_45 (i := 0) rfl rfl ?_
        refine r_iload_n DX8_island_46 (i := 2) rfl rfl ?_
        refine r_put (ty := .int) DX8_island_47 F_X8_13 Fp_8_2 e_44 rfl rfl (Nat.le_of_ble_eq_true rfl) p_44_2 ?_
        refine r_aload_n DX8_island_50 (i := 0) rfl rfl ?_
        refine r_iload_n DX8_island_51 (i := 3) rfl rfl ?_
        refine r_put (ty := .int) DX8_island_52 F_X8_91 Fp_8_3 e_44 rfl rfl (Nat.le_of_ble_eq_true rfl) p_44_3 ?_
        refine r_iconst DX8_island_55 (v := 1) (by decide) ?_
        obtain rfl := Option.some.inj e
        exact r_iret DX8_island_56 rfl rfl
      · replace e := x_ift c33 e
        refine r_sipush DX8_island_36 (v := (-1002)) (by decide) ?_
        obtain rfl := Option.some.inj e
        exact r_iret DX8_island_39 rfl rfl

set_option maxRecDepth 100000 in
set_option maxHeartbeats 4000000 in
theorem lp_X8_join_L33 {l : Launch} {g : xG} {a : xT} {R : Option Value × xS} (N : Nat) (v1 : Int32) (v2 : Int32) (v3 : Int32) : ∀ (n : Nat) (v4 : Int32) (b : xT) (r : (xT)), f_X8_join_L33 N v1 v2 v3 n v4 b = some r → Rx l g 2 M_X8_join 61 [some (.ref (xa g 44)), some (.int v1), none, some (.int v3), none] [] (a, r) R → Rx l g 2 M_X8_join 33 [some (.ref (xa g 44)), some (.int v1), some (.int v2), some (.int v3), some (.int v4)] [] (a, b) R := by
  intro n
  induction n with
  | zero => intro v4_ s_ r_ e; cases e
  | succ n ih =>
    intro v4 b r e K0
    rw [f_X8_join_L33] at e
    refine r_iload DX8_join_33 rfl ?_
    refine r_aload_n DX8_join_35 (i := 0) rfl rfl ?_
    refine r_get (v := .ref (xa g 45)) DX8_join_36 F_X8_16 e_44 rfl ?_
    refine r_iload_n DX8_join_39 (i := 2) rfl rfl ?_
    obtain ⟨c40, e⟩ := x_grd e
    refine r_iald (f := (gA b 45)) DX8_join_40 e_45 rfl c40 ?_
    refine r_icmp_ge DX8_join_41 (tgt := 61) (by decide) (fun c41 => ?_) (fun c41 => ?_)
    · replace e := x_ift c41 e
      obtain rfl := Option.some.inj e
      refine r_mask (L' := [some (.ref (xa g 44)), some (.int v1), none, some (.int v3), none]) [true, true, false, true, false] rfl ?_
      exact K0
    · replace e := x_iff c41 e
      refine r_aload_n DX8_join_44 (i := 0) rfl rfl ?_
      refine r_aload_n DX8_join_45 (i := 0) rfl rfl ?_
      refine r_iload_n DX8_join_46 (i := 2) rfl rfl ?_
      refine r_iload DX8_join_47 rfl ?_
      obtain ⟨q49, e49, e⟩ := x_bnd e
      refine r_callV1 (As := [.int v2, .int v4]) (S := [.ref (xa g 44)]) DX8_join_49 C_X8_138 (ci := 8) rfl rfl e_44 (by decide) (by decide) (Nat.le_of_ble_eq_true rfl) (t_X8_at v2 v4 b e49) rfl ?_
      obtain ⟨q52, e52, e⟩ := x_bnd e
      refine r_callV0 (As := [.int q49]) (S := []) DX8_join_52 C_X8_173 (ci := 8) rfl rfl e_44 (by decide) (by decide) (Nat.le_of_ble_eq_true rfl) (t_X8_come N q49 b e52) rfl ?_
      refine r_iinc (L' := [some (.ref (xa g 44)), some (.int v1), some (.int v2), some (.int v3), some (.int (v4 + 1))]) DX8_join_55 (x := v4) (v := (v4 + 1)) rfl rfl (by decide) rfl rfl ?_
      refine r_goto DX8_join_58 (tgt := 33) (by decide) ?_
      exact ih _ _ _ e K0

set_option maxRecDepth 100000 in
set_option maxHeartbeats 4000000 in
theorem lp_X8_join_L64 {l : Launch} {g : xG} {a : xT} {R : Option Value × xS} (N : Nat) (v1 : Int32) (v3 : Int32) : ∀ (n : Nat) (v4 : Int32) (b : xT) (r : (xT)), f_X8_join_L64 N v1 v3 n v4 b = some r → Rx l g 2 M_X8_join 92 [some (.ref (xa g 44)), some (.int v1), none, none, none] [] (a, r) R → Rx l g 2 M_X8_join 64 [some (.ref (xa g 44)), some (.int v1), none, some (.int v3), some (.int v4)] [] (a, b) R := by
  intro n
  induction n with
  | zero => intro v4_ s_ r_ e; cases e
  | succ n ih =>
    intro v4 b r e K0
    rw [f_X8_join_L64] at e
    refine r_iload DX8_join_64 rfl ?_
    refine r_aload_n DX8_join_66 (i := 0) rfl rfl ?_
    refine r_get (v := .ref (xa g 45)) DX8_join_67 F_X8_16 e_44 rfl ?_
    refine r_iload_n DX8_join_70 (i := 3) rfl rfl ?_
    obtain ⟨c71, e⟩ := x_grd e
    refine r_iald (f := (gA b 45)) DX8_join_71 e_45 rfl c71 ?_
    refine r_icmp_ge DX8_join_72 (tgt := 92) (by decide) (fun c72 => ?_) (fun c72 => ?_)
    · replace e := x_ift c72 e
      obtain rfl := Option.some.inj e
      refine r_mask (L' := [some (.ref (xa g 44)), some (.int v1), none, none, none]) [true, true, false, false, false] rfl ?_
      exact K0
    · replace e := x_iff c72 e
      refine r_aload_n DX8_join_75 (i := 0) rfl rfl ?_
      refine r_aload_n DX8_join_76 (i := 0) rfl rfl ?_
      refine r_iload_n DX8_join_77 (i := 3) rfl rfl ?_
      refine r_iload DX8_join_78 rfl ?_
      obtain ⟨q80, e80, e⟩ := x_bnd e
      refine r_callV1 (As := [.int v3, .int v4]) (S := [.ref (xa g 44)]) DX8_join_80 C_X8_138 (ci := 8) rfl rfl e_44 (by decide) (by decide) (Nat.le_of_ble_eq_true rfl) (t_X8_at v3 v4 b e80) rfl ?_
      obtain ⟨q83, e83, e⟩ := x_bnd e
      refine r_callV0 (As := [.int q80]) (S := []) DX8_join_83 C_X8_173 (ci := 8) rfl rfl e_44 (by decide) (by decide) (Nat.le_of_ble_eq_true rfl) (t_X8_come N q80 b e83) rfl ?_
      refine r_iinc (L' := [some (.ref (xa g 44)), some (.int v1), none, some (.int v3), some (.int (v4 + 1))]) DX8_join_86 (x := v4) (v := (v4 + 1)) rfl rfl (by decide) rfl rfl ?_
      refine r_goto DX8_join_89 (tgt := 64) (by decide) ?_
      exact ih _ _ _ e K0

set_option maxRecDepth 100000 in
set_option maxHeartbeats 4000000 in
theorem t_X8_join {l : Launch} {g : xG} {a : xT} (N : Nat) (v1 : Int32) (v2 : Int32) (v3 : Int32) (b : xT)  {r : (Int32 × xT)} (e : f_X8_join N v1 v2 v3 b = some r) : Ev l g 2 yX8_join M_X8_join [.ref (xa g 44), .int v1, .int v2, .int v3] (a, b) (some (.int r.1), (a, r.2)) := by
  unfold f_X8_join at e
  refine Ev.of 1 (L0 := [some (.ref (xa g 44)), some (.int v1), some (.int v2), some (.int v3), none]) (by decide) rfl (Nat.le_of_ble_eq_true rfl) rfl ?_
  refine r_iload_n DX8_join_0 (i := 1) rfl rfl ?_
  obtain ⟨q1, e1, e⟩ := x_bnd e
  refine r_callS1 (As := [.int v1]) (S := []) DX8_join_1 C_X8_76 (by decide) (by decide) (Nat.le_of_ble_eq_true rfl) (t_X8_isList v1 e1) rfl ?_
  refine r_if_eq DX8_join_4 (tgt := 21) (by decide) (fun c4 => ?_) (fun c4 => ?_)
  · replace e := x_ift c4 e
    refine r_sipush DX8_join_21 (v := (-1001)) (by decide) ?_
    obtain rfl := Option.some.inj e
    exact r_iret DX8_join_24 rfl rfl
  · replace e := x_iff c4 e
    refine r_iload_n DX8_join_7 (i := 2) rfl rfl ?_
    obtain ⟨q8, e8, e⟩ := x_bnd e
    refine r_callS1 (As := [.int v2]) (S := []) DX8_join_8 C_X8_76 (by decide) (by decide) (Nat.le_of_ble_eq_true rfl) (t_X8_isList v2 e8) rfl ?_
    refine r_if_eq DX8_join_11 (tgt := 21) (by decide) (fun c11 => ?_) (fun c11 => ?_)
    · replace e := x_ift c11 e
      refine r_sipush DX8_join_21 (v := (-1001)) (by decide) ?_
      obtain rfl := Option.some.inj e
      exact r_iret DX8_join_24 rfl rfl
    · replace e := x_iff c11 e
      refine r_iload_n DX8_join_14 (i := 3) rfl rfl ?_
      obtain ⟨q15, e15, e⟩ := x_bnd e
      refine r_callS1 (As := [.int v3]) (S := []) DX8_join_15 C_X8_76 (by decide) (by decide) (Nat.le_of_ble_eq_true rfl) (t_X8_isList v3 e15) rfl ?_
      refine r_if_ne DX8_join_18 (tgt := 25) (by decide) (fun c18 => ?_) (fun c18 => ?_)
      · replace e := x_iff c18 e
        refine r_aload_n DX8_join_25 (i := 0) rfl rfl ?_
        refine r_iconst DX8_join_26 (v := 0) (by decide) ?_
        refine r_put (ty := .int) DX8_join_27 F_X8_170 Fp_8_11 e_44 rfl rfl (Nat.le_of_ble_eq_true rfl) p_44_11 ?_
        refine r_iconst DX8_join_30 (v := 0) (by decide) ?_
        refine r_istore (L' := [some (.ref (xa g 44)), some (.int v1), some (.int v2), some (.int v3), some (.int 0)]) DX8_join_31 (by decide) rfl rfl ?_
        obtain ⟨q33, e33, e⟩ := x_bnd e
        refine lp_X8_join_L33 N v1 v2 v3 N 0 (sI b 11 0) q33 e33 ?_
        refine r_iconst DX8_join_61 (v := 0) (by decide) ?_
        refine r_istore (L' := [some (.ref (xa g 44)), some (.int v1), none, some (.int v3), some (.int 0)]) DX8_join_62 (by decide) rfl rfl ?_
        obtain ⟨q64, e64, e⟩ := x_bnd e
        refine lp_X8_join_L64 N v1 v3 N 0 q33 q64 e64 ?_
        refine r_aload_n DX8_join_92 (i := 0) rfl rfl ?_
        refine r_iload_n DX8_join_93 (i := 1) rfl rfl ?_
        obtain ⟨q94, e94, e⟩ := x_bnd e
        refine r_callV1 (As := [.int v1]) (S := []) DX8_join_94 C_X8_176 (ci := 8) rfl rfl e_44 (by decide) (by decide) (Nat.le_of_ble_eq_true rfl) (t_X8_keep N v1 q64 e94) rfl ?_
        obtain rfl := Option.some.inj e
        exact r_iret DX8_join_97 rfl rfl
      · replace e := x_ift c18 e
        refine r_sipush DX8_join_21 (v := (-1001)) (by decide) ?_
        obtain rfl := Option.some.inj e
        exact r_iret DX8_join_24 rfl rfl

set_option maxRecDepth 100000 in
set_option maxHeartbeats 4000000 in
theorem lp_X8_lay_L68 {l : Launch} {g : xG} {a : xT} {R : Option Value × xS} (N : Nat) (v1 : Int32) (v2 : Int32) (v3 : Int32) (v4 : Int32) (v5 : Int32) : ∀ (n : Nat) (v6 : Int32) (b : xT) (r : (xT)), f_X8_lay_L68 N v1 v2 v3 v4 v5 n v6 b = some r → Rx l g 2 M_X8_lay 134 [some (.ref (xa g 44)), some (.int v1), some (.int v2), some (.int v3), some (.int v4), some (.int v5), none, none, none] [] (a, r) R → Rx l g 2 M_X8_lay 68 [some (.ref (xa g 44)), some (.int v1), some (.int v2), some (.int v3), some (.int v4), some (.int v5), some (.int v6), none, none] [] (a, b) R := by
  intro n
  induction n with
  | zero => intro v6_ s_ r_ e; cases e
  | succ n ih =>
    intro v6 b r e K0
    rw [f_X8_lay_L68] at e
    refine r_iload DX8_lay_68 rfl ?_
    refine r_aload_n DX8_lay_70 (i := 0) rfl rfl ?_
    refine r_get (v := .ref (xa g 45)) DX8_lay_71 F_X8_16 e_44 rfl ?_
    refine r_iload_n DX8_lay_74 (i := 3) rfl rfl ?_
    obtain ⟨c75, e⟩ := x_grd e
    refine r_iald (f := (gA b 45)) DX8_lay_75 e_45 rfl c75 ?_
    refine r_icmp_ge DX8_lay_76 (tgt := 134) (by decide) (fun c76 => ?_) (fun c76 => ?_)
    · replace e := x_ift c76 e
      obtain rfl := Option.some.inj e
      refine r_mask (L' := [some (.ref (xa g 44)), some (.int v1), some (.int v2), some (.int v3), some (.int v4), some (.int v5), none, none, none]) [true, true, true, true, true, true, false, false, false] rfl ?_
      exact K0
    · replace e := x_iff c76 e
      refine r_aload_n DX8_lay_79 (i := 0) rfl rfl ?_
      refine r_iload_n DX8_lay_80 (i := 2) rfl rfl ?_
      refine r_iload DX8_lay_81 rfl ?_
      obtain ⟨q83, e83, e⟩ := x_bnd e
      refine r_callV1 (As := [.int v2, .int v5]) (S := []) DX8_lay_83 C_X8_138 (ci := 8) rfl rfl e_44 (by decide) (by decide) (Nat.le_of_ble_eq_true rfl) (t_X8_at v2 v5 b e83) rfl ?_
      refine r_iconst DX8_lay_86 (v := 1) (by decide) ?_
      refine r_iload DX8_lay_87 rfl ?_
      refine r_ishl DX8_lay_89 ?_
      refine r_iconst DX8_lay_90 (v := 1) (by decide) ?_
      refine r_isub DX8_lay_91 ?_
      refine r_iand DX8_lay_92 ?_
      refine r_istore (L' := [some (.ref (xa g 44)), some (.int v1), some (.int v2), some (.int v3), some (.int v4), some (.int v5), some (.int v6), some (.int (q83 &&& (((1 : Int32) <<< (v4 &&& 31)) - 1))), none]) DX8_lay_93 (by decide) rfl rfl ?_
      refine r_aload_n DX8_lay_95 (i := 0) rfl rfl ?_
      refine r_iload_n DX8_lay_96 (i := 3) rfl rfl ?_
      refine r_iload DX8_lay_97 rfl ?_
      obtain ⟨q99, e99, e⟩ := x_bnd e
      refine r_callV1 (As := [.int v3, .int v6]) (S := []) DX8_lay_99 C_X8_138 (ci := 8) rfl rfl e_44 (by decide) (by decide) (Nat.le_of_ble_eq_true rfl) (t_X8_at v3 v6 b e99) rfl ?_
      refine r_iconst DX8_lay_102 (v := 1) (by decide) ?_
      refine r_aload_n DX8_lay_103 (i := 0) rfl rfl ?_
      refine r_get (v := .int (gI b 0)) DX8_lay_104 F_X8_7 e_44 rfl ?_
      refine r_iload DX8_lay_107 rfl ?_
      refine r_isub DX8_lay_109 ?_
      refine r_ishl DX8_lay_110 ?_
      refine r_iconst DX8_lay_111 (v := 1) (by decide) ?_
      refine r_isub DX8_lay_112 ?_
      refine r_iand DX8_lay_113 ?_
      obtain ⟨w114, e114, e⟩ := x_bnd e
      refine r_istoreB (L' := [some (.ref (xa g 44)), some (.int v1), some (.int v2), some (.int v3), some (.int v4), some (.int v5), some (.int v6), some (.int (q83 &&& (((1 : Int32) <<< (v4 &&& 31)) - 1))), some (.int w114)]) (w := w114) DX8_lay_114 (Option.some.inj e114) (by decide) rfl rfl ?_
      refine r_aload_n DX8_lay_116 (i := 0) rfl rfl ?_
      refine r_iload DX8_lay_117 rfl ?_
      refine r_iload DX8_lay_119 rfl ?_
      refine r_iload DX8_lay_121 rfl ?_
      refine r_ishl DX8_lay_123 ?_
      refine r_ior DX8_lay_124 ?_
      obtain ⟨q125, e125, e⟩ := x_bnd e
      refine r_callV0 (As := [.int ((q83 &&& (((1 : Int32) <<< (v4 &&& 31)) - 1)) ||| (w114 <<< (v4 &&& 31)))]) (S := []) DX8_lay_125 C_X8_173 (ci := 8) rfl rfl e_44 (by decide) (by decide) (Nat.le_of_ble_eq_true rfl) (t_X8_come N ((q83 &&& (((1 : Int32) <<< (v4 &&& 31)) - 1)) ||| (w114 <<< (v4 &&& 31))) b e125) rfl ?_
      refine r_iinc (L' := [some (.ref (xa g 44)), some (.int v1), some (.int v2), some (.int v3), some (.int v4), some (.int v5), some (.int (v6 + 1)), some (.int (q83 &&& (((1 : Int32) <<< (v4 &&& 31)) - 1))), some (.int w114)]) DX8_lay_128 (x := v6) (v := (v6 + 1)) rfl rfl (by decide) rfl rfl ?_
      refine r_goto DX8_lay_131 (tgt := 68) (by decide) ?_
      refine r_mask (L' := [some (.ref (xa g 44)), some (.int v1), some (.int v2), some (.int v3), some (.int v4), some (.int v5), some (.int (v6 + 1)), none, none]) [true, true, true, true, true, true, true, false, false] rfl ?_
      exact ih _ _ _ e K0

set_option maxRecDepth 100000 in
set_option maxHeartbeats 4000000 in
theorem lp_X8_lay_L54 {l : Launch} {g : xG} {a : xT} {R : Option Value × xS} (N : Nat) (v1 : Int32) (v2 : Int32) (v3 : Int32) (v4 : Int32) : ∀ (n : Nat) (v5 : Int32) (b : xT) (r : (xT)), f_X8_lay_L54 N v1 v2 v3 v4 n v5 b = some r → Rx l g 2 M_X8_lay 140 [some (.ref (xa g 44)), some (.int v1), none, none, none, none, none, none, none] [] (a, r) R → Rx l g 2 M_X8_lay 54 [some (.ref (xa g 44)), some (.int v1), some (.int v2), some (.int v3), some (.int v4), some (.int v5), none, none, none] [] (a, b) R := by
  intro n
  induction n with
  | zero => intro v5_ s_ r_ e; cases e
  | succ n ih =>
    intro v5 b r e K0
    rw [f_X8_lay_L54] at e
    refine r_iload DX8_lay_54 rfl ?_
    refine r_aload_n DX8_lay_56 (i := 0) rfl rfl ?_
    refine r_get (v := .ref (xa g 45)) DX8_lay_57 F_X8_16 e_44 rfl ?_
    refine r_iload_n DX8_lay_60 (i := 2) rfl rfl ?_
    obtain ⟨c61, e⟩ := x_grd e
    refine r_iald (f := (gA b 45)) DX8_lay_61 e_45 rfl c61 ?_
    refine r_icmp_ge DX8_lay_62 (tgt := 140) (by decide) (fun c62 => ?_) (fun c62 => ?_)
    · replace e := x_ift c62 e
      obtain rfl := Option.some.inj e
      refine r_mask (L' := [some (.ref (xa g 44)), some (.int v1), none, none, none, none, none, none, none]) [true, true, false, false, false, false, false, false, false] rfl ?_
      exact K0
    · replace e := x_iff c62 e
      refine r_iconst DX8_lay_65 (v := 0) (by decide) ?_
      refine r_istore (L' := [some (.ref (xa g 44)), some (.int v1), some (.int v2), some (.int v3), some (.int v4), some (.int v5), some (.int 0), none, none]) DX8_lay_66 (by decide) rfl rfl ?_
      obtain ⟨q68, e68, e⟩ := x_bnd e
      refine lp_X8_lay_L68 N v1 v2 v3 v4 v5 N 0 b q68 e68 ?_
      refine r_iinc (L' := [some (.ref (xa g 44)), some (.int v1), some (.int v2), some (.int v3), some (.int v4), some (.int (v5 + 1)), none, none, none]) DX8_lay_134 (x := v5) (v := (v5 + 1)) rfl rfl (by decide) rfl rfl ?_
      refine r_goto DX8_lay_137 (tgt := 54) (by decide) ?_
      exact ih _ _ _ e K0

set_option maxRecDepth 100000 in
set_option maxHeartbeats 4000000 in
theorem t_X8_lay {l : Launch} {g : xG} {a : xT} (N : Nat) (v1 : Int32) (v2 : Int32) (v3 : Int32) (v4 : Int32) (b : xT)  {r : (Int32 × xT)} (e : f_X8_lay N v1 v2 v3 v4 b = some r) : Ev l g 2 yX8_lay M_X8_lay [.ref (xa g 44), .int v1, .int v2, .int v3, .int v4] (a, b) (some (.int r.1), (a, r.2)) := by
  unfold f_X8_lay at e
  refine Ev.of 4 (L0 := [some (.ref (xa g 44)), some (.int v1), some (.int v2), some (.int v3), some (.int v4), none, none, none, none]) (by decide) rfl (Nat.le_of_ble_eq_true rfl) rfl ?_
  refine r_iload_n DX8_lay_0 (i := 1) rfl rfl ?_
  obtain ⟨q1, e1, e⟩ := x_bnd e
  refine r_callS1 (As := [.int v1]) (S := []) DX8_lay_1 C_X8_76 (by decide) (by decide) (Nat.le_of_ble_eq_true rfl) (t_X8_isList v1 e1) rfl ?_
  refine r_if_eq DX8_lay_4 (tgt := 21) (by decide) (fun c4 => ?_) (fun c4 => ?_)
  · replace e := x_ift c4 e
    refine r_sipush DX8_lay_21 (v := (-1001)) (by decide) ?_
    obtain rfl := Option.some.inj e
    exact r_iret DX8_lay_24 rfl rfl
  · replace e := x_iff c4 e
    refine r_iload_n DX8_lay_7 (i := 2) rfl rfl ?_
    obtain ⟨q8, e8, e⟩ := x_bnd e
    refine r_callS1 (As := [.int v2]) (S := []) DX8_lay_8 C_X8_76 (by decide) (by decide) (Nat.le_of_ble_eq_true rfl) (t_X8_isList v2 e8) rfl ?_
    refine r_if_eq DX8_lay_11 (tgt := 21) (by decide) (fun c11 => ?_) (fun c11 => ?_)
    · replace e := x_ift c11 e
      refine r_sipush DX8_lay_21 (v := (-1001)) (by decide) ?_
      obtain rfl := Option.some.inj e
      exact r_iret DX8_lay_24 rfl rfl
    · replace e := x_iff c11 e
      refine r_iload_n DX8_lay_14 (i := 3) rfl rfl ?_
      obtain ⟨q15, e15, e⟩ := x_bnd e
      refine r_callS1 (As := [.int v3]) (S := []) DX8_lay_15 C_X8_76 (by decide) (by decide) (Nat.le_of_ble_eq_true rfl) (t_X8_isList v3 e15) rfl ?_
      refine r_if_ne DX8_lay_18 (tgt := 25) (by decide) (fun c18 => ?_) (fun c18 => ?_)
      · replace e := x_iff c18 e
        refine r_iload DX8_lay_25 rfl ?_
        refine r_i2l DX8_lay_27 ?_
        refine r_lconst DX8_lay_28 (v := 1) (by decide) ?_
        refine r_aload_n DX8_lay_29 (i := 0) rfl rfl ?_
        refine r_get (v := .int (gI b 0)) DX8_lay_30 F_X8_7 e_44 rfl ?_
        refine r_iconst DX8_lay_33 (v := 1) (by decide) ?_
        refine r_isub DX8_lay_34 ?_
        refine r_i2l DX8_lay_35 ?_
        obtain ⟨q36, e36, e⟩ := x_bnd e
        refine r_callS1 (As := [.long (Int32.toInt64 v4), .long 1, .long (Int32.toInt64 ((gI b 0) - 1))]) (S := []) DX8_lay_36 C_X8_70 (by decide) (by decide) (Nat.le_of_ble_eq_true rfl) (t_X8_in (Int32.toInt64 v4) 1 (Int32.toInt64 ((gI b 0) - 1)) e36) rfl ?_
        refine r_if_ne DX8_lay_39 (tgt := 46) (by decide) (fun c39 => ?_) (fun c39 => ?_)
        · replace e := x_iff c39 e
          refine r_aload_n DX8_lay_46 (i := 0) rfl rfl ?_
          refine r_iconst DX8_lay_47 (v := 0) (by decide) ?_
          refine r_put (ty := .int) DX8_lay_48 F_X8_170 Fp_8_11 e_44 rfl rfl (Nat.le_of_ble_eq_true rfl) p_44_11 ?_
          refine r_iconst DX8_lay_51 (v := 0) (by decide) ?_
          refine r_istore (L' := [some (.ref (xa g 44)), some (.int v1), some (.int v2), some (.int v3), some (.int v4), some (.int 0), none, none, none]) DX8_lay_52 (by decide) rfl rfl ?_
          obtain ⟨q54, e54, e⟩ := x_bnd e
          refine lp_X8_lay_L54 N v1 v2 v3 v4 N 0 (sI b 11 0) q54 e54 ?_
          refine r_aload_n DX8_lay_140 (i := 0) rfl rfl ?_
          refine r_iload_n DX8_lay_141 (i := 1) rfl rfl ?_
          obtain ⟨q142, e142, e⟩ := x_bnd e
          refine r_callV1 (As := [.int v1]) (S := []) DX8_lay_142 C_X8_176 (ci := 8) rfl rfl e_44 (by decide) (by decide) (Nat.le_of_ble_eq_true rfl) (t_X8_keep N v1 q54 e142) rfl ?_
          obtain rfl := Option.some.inj e
          exact r_iret DX8_lay_145 rfl rfl
        · replace e := x_ift c39 e
          refine r_sipush DX8_lay_42 (v := (-1002)) (by decide) ?_
          obtain rfl := Option.some.inj e
          exact r_iret DX8_lay_45 rfl rfl
      · replace e := x_ift c18 e
        refine r_sipush DX8_lay_21 (v := (-1001)) (by decide) ?_
        obtain rfl := Option.some.inj e
        exact r_iret DX8_lay_24 rfl rfl

set_option maxRecDepth 100000 in
set_option maxHeartbeats 4000000 in
theorem lp_X8_likely_L16 {l : Launch} {g : xG} {a : xT} {R : Option Value × xS} (N : Nat) (v1 : Int32) (v2 : Int32) : ∀ (n : Nat) (v3 : Int32) (v4 : Int32) (b : xT) (r : (Int32 × xT)), f_X8_likely_L16 N v1 v2 n v3 v4 b = some r → Rx l g 2 M_X8_likely 71 [some (.ref (xa g 44)), some (.int v1), some (.int v2), some (.int (r.1)), none, none, none] [] (a, (r.2)) R → Rx l g 2 M_X8_likely 16 [some (.ref (xa g 44)), some (.int v1), some (.int v2), some (.int v3), some (.int v4), none, none] [] (a, b) R := by
  intro n
  induction n with
  | zero => intro v3_ v4_ s_ r_ e; cases e
  | succ n ih =>
    intro v3 v4 b r e K0
    rw [f_X8_likely_L16] at e
    refine r_iload DX8_likely_16 rfl ?_
    refine r_aload_n DX8_likely_18 (i := 0) rfl rfl ?_
    refine r_get (v := .ref (xa g 45)) DX8_likely_19 F_X8_16 e_44 rfl ?_
    refine r_iload_n DX8_likely_22 (i := 1) rfl rfl ?_
    obtain ⟨c23, e⟩ := x_grd e
    refine r_iald (f := (gA b 45)) DX8_likely_23 e_45 rfl c23 ?_
    refine r_icmp_ge DX8_likely_24 (tgt := 71) (by decide) (fun c24 => ?_) (fun c24 => ?_)
    · replace e := x_ift c24 e
      obtain rfl := Option.some.inj e
      refine r_mask (L' := [some (.ref (xa g 44)), some (.int v1), some (.int v2), some (.int v3), none, none, none]) [true, true, true, true, false, false, false] rfl ?_
      exact K0
    · replace e := x_iff c24 e
      refine r_aload_n DX8_likely_27 (i := 0) rfl rfl ?_
      refine r_get (v := .ref (xa g 58)) DX8_likely_28 F_X8_60 e_44 rfl ?_
      refine r_iload DX8_likely_31 rfl ?_
      refine r_aload_n DX8_likely_33 (i := 0) rfl rfl ?_
      refine r_aload_n DX8_likely_34 (i := 0) rfl rfl ?_
      refine r_iload_n DX8_likely_35 (i := 1) rfl rfl ?_
      refine r_iload DX8_likely_36 rfl ?_
      obtain ⟨q38, e38, e⟩ := x_bnd e
      refine r_callV1 (As := [.int v1, .int v4]) (S := [.ref (xa g 44), .int v4, .ref (xa g 58)]) DX8_likely_38 C_X8_138 (ci := 8) rfl rfl e_44 (by decide) (by decide) (Nat.le_of_ble_eq_true rfl) (t_X8_at v1 v4 b e38) rfl ?_
      obtain ⟨q41, e41, e⟩ := x_bnd e
      refine r_callV1 (As := [.int q38]) (S := [.int v4, .ref (xa g 58)]) DX8_likely_41 C_X8_277 (ci := 8) rfl rfl e_44 (by decide) (by decide) (Nat.le_of_ble_eq_true rfl) (t_X8_chanceOf N q38 b e41) rfl ?_
      obtain ⟨c44, e⟩ := x_grd e
      refine r_last (f := (gB b 58)) DX8_likely_44 e_58 rfl c44 p_58 ?_
      refine r_iload_n DX8_likely_45 (i := 3) rfl rfl ?_
      refine r_aload_n DX8_likely_46 (i := 0) rfl rfl ?_
      refine r_get (v := .ref (xa g 58)) DX8_likely_47 F_X8_60 e_44 rfl ?_
      refine r_iload DX8_likely_50 rfl ?_
      obtain ⟨c52, e⟩ := x_grd e
      refine r_lald (f := (vp_updL (gB b 58) (Int32.toNatClampNeg v4) q41)) DX8_likely_52 e_58 rfl c52 ?_
      refine r_lconst DX8_likely_53 (v := 0) (by decide) ?_
      refine r_lcmp_le DX8_likely_54 DX8_likely_55 (tgt := 62) (by decide) (fun c54 => ?_) (fun c54 => ?_)
      · replace e := x_ift c54 e
        refine r_iconst DX8_likely_62 (v := 0) (by decide) ?_
        refine r_iadd DX8_likely_63 ?_
        refine r_istore_n (L' := [some (.ref (xa g 44)), some (.int v1), some (.int v2), some (.int (v3 + 0)), some (.int v4), none, none]) DX8_likely_64 (i := 3) rfl (by decide) rfl rfl ?_
        refine r_iinc (L' := [some (.ref (xa g 44)), some (.int v1), some (.int v2), some (.int (v3 + 0)), some (.int (v4 + 1)), none, none]) DX8_likely_65 (x := v4) (v := (v4 + 1)) rfl rfl (by decide) rfl rfl ?_
        refine r_goto DX8_likely_68 (tgt := 16) (by decide) ?_
        exact ih _ _ _ _ e K0
      · replace e := x_iff c54 e
        refine r_iconst DX8_likely_58 (v := 1) (by decide) ?_
        refine r_goto DX8_likely_59 (tgt := 63) (by decide) ?_
        refine r_iadd DX8_likely_63 ?_
        refine r_istore_n (L' := [some (.ref (xa g 44)), some (.int v1), some (.int v2), some (.int (v3 + 1)), some (.int v4), none, none]) DX8_likely_64 (i := 3) rfl (by decide) rfl rfl ?_
        refine r_iinc (L' := [some (.ref (xa g 44)), some (.int v1), some (.int v2), some (.int (v3 + 1)), some (.int (v4 + 1)), none, none]) DX8_likely_65 (x := v4) (v := (v4 + 1)) rfl rfl (by decide) rfl rfl ?_
        refine r_goto DX8_likely_68 (tgt := 16) (by decide) ?_
        exact ih _ _ _ _ e K0

set_option maxRecDepth 100000 in
set_option maxHeartbeats 4000000 in
theorem lp_X8_likely_L113 {l : Launch} {g : xG} {a : xT} {R : Option Value × xS} (v1 : Int32) (v2 : Int32) (v5 : Int32) (b : xT) : ∀ (n : Nat) (v4 : Int32) (v6 : Int32) (r : (Int32)), f_X8_likely_L113 v1 v2 v5 b n v4 v6 = some r → Rx l g 2 M_X8_likely 157 [some (.ref (xa g 44)), some (.int v1), some (.int v2), none, some (.int r), some (.int v5), none] [] (a, b) R → Rx l g 2 M_X8_likely 113 [some (.ref (xa g 44)), some (.int v1), some (.int v2), none, some (.int v4), some (.int v5), some (.int v6)] [] (a, b) R := by
  intro n
  induction n with
  | zero => intro v4_ v6_ r_ e; cases e
  | succ n ih =>
    intro v4 v6 r e K0
    rw [f_X8_likely_L113] at e
    refine r_iload DX8_likely_113 rfl ?_
    refine r_aload_n DX8_likely_115 (i := 0) rfl rfl ?_
    refine r_get (v := .ref (xa g 45)) DX8_likely_116 F_X8_16 e_44 rfl ?_
    refine r_iload_n DX8_likely_119 (i := 1) rfl rfl ?_
    obtain ⟨c120, e⟩ := x_grd e
    refine r_iald (f := (gA b 45)) DX8_likely_120 e_45 rfl c120 ?_
    refine r_icmp_ge DX8_likely_121 (tgt := 157) (by decide) (fun c121 => ?_) (fun c121 => ?_)
    · replace e := x_ift c121 e
      obtain rfl := Option.some.inj e
      refine r_mask (L' := [some (.ref (xa g 44)), some (.int v1), some (.int v2), none, some (.int v4), some (.int v5), none]) [true, true, true, false, true, true, false] rfl ?_
      exact K0
    · replace e := x_iff c121 e
      refine r_aload_n DX8_likely_124 (i := 0) rfl rfl ?_
      refine r_get (v := .ref (xa g 58)) DX8_likely_125 F_X8_60 e_44 rfl ?_
      refine r_iload DX8_likely_128 rfl ?_
      obtain ⟨c130, e⟩ := x_grd e
      refine r_lald (f := (gB b 58)) DX8_likely_130 e_58 rfl c130 ?_
      refine r_aload_n DX8_likely_131 (i := 0) rfl rfl ?_
      refine r_get (v := .ref (xa g 58)) DX8_likely_132 F_X8_60 e_44 rfl ?_
      refine r_iload DX8_likely_135 rfl ?_
      obtain ⟨c137, e⟩ := x_grd e
      refine r_lald (f := (gB b 58)) DX8_likely_137 e_58 rfl c137 ?_
      refine r_lcmp_le DX8_likely_138 DX8_likely_139 (tgt := 147) (by decide) (fun c138 => ?_) (fun c138 => ?_)
      · replace e := x_ift c138 e
        refine r_iload DX8_likely_147 rfl ?_
        refine r_istore (L' := [some (.ref (xa g 44)), some (.int v1), some (.int v2), none, some (.int v4), some (.int v5), some (.int v6)]) DX8_likely_149 (by decide) rfl rfl ?_
        refine r_iinc (L' := [some (.ref (xa g 44)), some (.int v1), some (.int v2), none, some (.int v4), some (.int v5), some (.int (v6 + 1))]) DX8_likely_151 (x := v6) (v := (v6 + 1)) rfl rfl (by decide) rfl rfl ?_
        refine r_goto DX8_likely_154 (tgt := 113) (by decide) ?_
        exact ih _ _ _ e K0
      · replace e := x_iff c138 e
        refine r_iload DX8_likely_142 rfl ?_
        refine r_goto DX8_likely_144 (tgt := 149) (by decide) ?_
        refine r_istore (L' := [some (.ref (xa g 44)), some (.int v1), some (.int v2), none, some (.int v6), some (.int v5), some (.int v6)]) DX8_likely_149 (by decide) rfl rfl ?_
        refine r_iinc (L' := [some (.ref (xa g 44)), some (.int v1), some (.int v2), none, some (.int v6), some (.int v5), some (.int (v6 + 1))]) DX8_likely_151 (x := v6) (v := (v6 + 1)) rfl rfl (by decide) rfl rfl ?_
        refine r_goto DX8_likely_154 (tgt := 113) (by decide) ?_
        exact ih _ _ _ e K0

set_option maxRecDepth 100000 in
set_option maxHeartbeats 4000000 in
theorem lp_X8_likely_L101 {l : Launch} {g : xG} {a : xT} {R : Option Value × xS} (N : Nat) (v1 : Int32) (v2 : Int32) : ∀ (n : Nat) (v4 : Int32) (v5 : Int32) (b : xT) (r : (Int32 × xT)), f_X8_likely_L101 N v1 v2 n v4 v5 b = some r → Rx l g 2 M_X8_likely 187 [none, none, none, none, some (.int (r.1)), none, none] [] (a, (r.2)) R → Rx l g 2 M_X8_likely 101 [some (.ref (xa g 44)), some (.int v1), some (.int v2), none, some (.int v4), some (.int v5), none] [] (a, b) R := by
  intro n
  induction n with
  | zero => intro v4_ v5_ s_ r_ e; cases e
  | succ n ih =>
    intro v4 v5 b r e K0
    rw [f_X8_likely_L101] at e
    refine r_iload DX8_likely_101 rfl ?_
    refine r_iload_n DX8_likely_103 (i := 2) rfl rfl ?_
    refine r_icmp_gt DX8_likely_104 (tgt := 187) (by decide) (fun c104 => ?_) (fun c104 => ?_)
    · replace e := x_ift c104 e
      obtain rfl := Option.some.inj e
      refine r_mask (L' := [none, none, none, none, some (.int v4), none, none]) [false, false, false, false, true, false, false] rfl ?_
      exact K0
    · replace e := x_iff c104 e
      refine r_iconst DX8_likely_107 (v := 0) (by decide) ?_
      refine r_istore (L' := [some (.ref (xa g 44)), some (.int v1), some (.int v2), none, some (.int 0), some (.int v5), none]) DX8_likely_108 (by decide) rfl rfl ?_
      refine r_iconst DX8_likely_110 (v := 1) (by decide) ?_
      refine r_istore (L' := [some (.ref (xa g 44)), some (.int v1), some (.int v2), none, some (.int 0), some (.int v5), some (.int 1)]) DX8_likely_111 (by decide) rfl rfl ?_
      obtain ⟨q113, e113, e⟩ := x_bnd e
      refine lp_X8_likely_L113 v1 v2 v5 b N 0 1 q113 e113 ?_
      refine r_aload_n DX8_likely_157 (i := 0) rfl rfl ?_
      refine r_get (v := .ref (xa g 58)) DX8_likely_158 F_X8_60 e_44 rfl ?_
      refine r_iload DX8_likely_161 rfl ?_
      refine r_iload DX8_likely_163 rfl ?_
      refine r_iload_n DX8_likely_165 (i := 2) rfl rfl ?_
      refine r_icmp_ge DX8_likely_166 (tgt := 173) (by decide) (fun c166 => ?_) (fun c166 => ?_)
      · replace e := x_ift c166 e
        refine r_aload_n DX8_likely_173 (i := 0) rfl rfl ?_
        refine r_get (v := .ref (xa g 58)) DX8_likely_174 F_X8_60 e_44 rfl ?_
        refine r_iload DX8_likely_177 rfl ?_
        obtain ⟨c179, e⟩ := x_grd e
        refine r_lald (f := (gB b 58)) DX8_likely_179 e_58 rfl c179 ?_
        obtain ⟨c180, e⟩ := x_grd e
        refine r_last (f := (gB b 58)) DX8_likely_180 e_58 rfl c180 p_58 ?_
        refine r_iinc (L' := [some (.ref (xa g 44)), some (.int v1), some (.int v2), none, some (.int q113), some (.int (v5 + 1)), none]) DX8_likely_181 (x := v5) (v := (v5 + 1)) rfl rfl (by decide) rfl rfl ?_
        refine r_goto DX8_likely_184 (tgt := 101) (by decide) ?_
        exact ih _ _ _ _ e K0
      · replace e := x_iff c166 e
        refine r_lconst DX8_likely_169 (v := 0) (by decide) ?_
        refine r_goto DX8_likely_170 (tgt := 180) (by decide) ?_
        obtain ⟨c180, e⟩ := x_grd e
        refine r_last (f := (gB b 58)) DX8_likely_180 e_58 rfl c180 p_58 ?_
        refine r_iinc (L' := [some (.ref (xa g 44)), some (.int v1), some (.int v2), none, some (.int q113), some (.int (v5 + 1)), none]) DX8_likely_181 (x := v5) (v := (v5 + 1)) rfl rfl (by decide) rfl rfl ?_
        refine r_goto DX8_likely_184 (tgt := 101) (by decide) ?_
        exact ih _ _ _ _ e K0

set_option maxRecDepth 100000 in
set_option maxHeartbeats 4000000 in
theorem t_X8_likely {l : Launch} {g : xG} {a : xT} (N : Nat) (v1 : Int32) (v2 : Int32) (b : xT)  {r : (Int32 × xT)} (e : f_X8_likely N v1 v2 b = some r) : Ev l g 2 yX8_likely M_X8_likely [.ref (xa g 44), .int v1, .int v2] (a, b) (some (.int r.1), (a, r.2)) := by
  unfold f_X8_likely at e
  refine Ev.of 4 (L0 := [some (.ref (xa g 44)), some (.int v1), some (.int v2), none, none, none, none]) (by decide) rfl (Nat.le_of_ble_eq_true rfl) rfl ?_
  refine r_iload_n DX8_likely_0 (i := 1) rfl rfl ?_
  obtain ⟨q1, e1, e⟩ := x_bnd e
  refine r_callS1 (As := [.int v1]) (S := []) DX8_likely_1 C_X8_76 (by decide) (by decide) (Nat.le_of_ble_eq_true rfl) (t_X8_isList v1 e1) rfl ?_
  refine r_if_ne DX8_likely_4 (tgt := 11) (by decide) (fun c4 => ?_) (fun c4 => ?_)
  · replace e := x_iff c4 e
    refine r_iconst DX8_likely_11 (v := 0) (by decide) ?_
    refine r_istore_n (L' := [some (.ref (xa g 44)), some (.int v1), some (.int v2), some (.int 0), none, none, none]) DX8_likely_12 (i := 3) rfl (by decide) rfl rfl ?_
    refine r_iconst DX8_likely_13 (v := 0) (by decide) ?_
    refine r_istore (L' := [some (.ref (xa g 44)), some (.int v1), some (.int v2), some (.int 0), some (.int 0), none, none]) DX8_likely_14 (by decide) rfl rfl ?_
    obtain ⟨q16, e16, e⟩ := x_bnd e
    refine lp_X8_likely_L16 N v1 v2 N 0 0 b q16 e16 ?_
    refine r_iload_n DX8_likely_71 (i := 2) rfl rfl ?_
    refine r_i2l DX8_likely_72 ?_
    refine r_lconst DX8_likely_73 (v := 0) (by decide) ?_
    refine r_iload_n DX8_likely_74 (i := 3) rfl rfl ?_
    refine r_iconst DX8_likely_75 (v := 1) (by decide) ?_
    refine r_isub DX8_likely_76 ?_
    refine r_i2l DX8_likely_77 ?_
    obtain ⟨q78, e78, e⟩ := x_bnd e
    refine r_callS1 (As := [.long (Int32.toInt64 v2), .long 0, .long (Int32.toInt64 ((q16.1) - 1))]) (S := []) DX8_likely_78 C_X8_70 (by decide) (by decide) (Nat.le_of_ble_eq_true rfl) (t_X8_in (Int32.toInt64 v2) 0 (Int32.toInt64 ((q16.1) - 1)) e78) rfl ?_
    refine r_if_ne DX8_likely_81 (tgt := 95) (by decide) (fun c81 => ?_) (fun c81 => ?_)
    · replace e := x_iff c81 e
      refine r_iconst DX8_likely_95 (v := (-1)) (by decide) ?_
      refine r_istore (L' := [some (.ref (xa g 44)), some (.int v1), some (.int v2), some (.int (q16.1)), some (.int (-1)), none, none]) DX8_likely_96 (by decide) rfl rfl ?_
      refine r_iconst DX8_likely_98 (v := 0) (by decide) ?_
      refine r_istore (L' := [some (.ref (xa g 44)), some (.int v1), some (.int v2), some (.int (q16.1)), some (.int (-1)), some (.int 0), none]) DX8_likely_99 (by decide) rfl rfl ?_
      obtain ⟨q101, e101, e⟩ := x_bnd e
      refine r_mask (L' := [some (.ref (xa g 44)), some (.int v1), some (.int v2), none, some (.int (-1)), some (.int 0), none]) [true, true, true, false, true, true, false] rfl ?_
      refine lp_X8_likely_L101 N v1 v2 N (-1) 0 (q16.2) q101 e101 ?_
      refine r_iload DX8_likely_187 rfl ?_
      obtain rfl := Option.some.inj e
      exact r_iret DX8_likely_189 rfl rfl
    · replace e := x_ift c81 e
      refine r_iload_n DX8_likely_84 (i := 2) rfl rfl ?_
      refine r_iconst DX8_likely_85 (v := (-1)) (by decide) ?_
      refine r_icmp_ne DX8_likely_86 (tgt := 93) (by decide) (fun c86 => ?_) (fun c86 => ?_)
      · replace e := x_iff c86 e
        refine r_iconst DX8_likely_93 (v := (-1)) (by decide) ?_
        obtain rfl := Option.some.inj e
        exact r_iret DX8_likely_94 rfl rfl
      · replace e := x_ift c86 e
        refine r_iload_n DX8_likely_89 (i := 3) rfl rfl ?_
        refine r_goto DX8_likely_90 (tgt := 94) (by decide) ?_
        obtain rfl := Option.some.inj e
        exact r_iret DX8_likely_94 rfl rfl
  · replace e := x_ift c4 e
    refine r_sipush DX8_likely_7 (v := (-1001)) (by decide) ?_
    obtain rfl := Option.some.inj e
    exact r_iret DX8_likely_10 rfl rfl

set_option maxRecDepth 100000 in
set_option maxHeartbeats 4000000 in
theorem t_X8_look {l : Launch} {g : xG} {a : xT} (v1 : Int32) (v2 : Int32) (b : xT)  {r : (Int32 × xT)} (e : f_X8_look v1 v2 b = some r) : Ev l g 1 yX8_look M_X8_look [.ref (xa g 44), .int v1, .int v2] (a, b) (some (.int r.1), (a, r.2)) := by
  unfold f_X8_look at e
  refine Ev.of 1 (L0 := [some (.ref (xa g 44)), some (.int v1), some (.int v2), none]) (by decide) rfl (Nat.le_of_ble_eq_true rfl) rfl ?_
  refine r_iload_n DX8_look_0 (i := 1) rfl rfl ?_
  refine r_i2l DX8_look_1 ?_
  refine r_lconst DX8_look_2 (v := 0) (by decide) ?_
  refine r_aload_n DX8_look_3 (i := 0) rfl rfl ?_
  refine r_get (v := .int (gI b 0)) DX8_look_4 F_X8_7 e_44 rfl ?_
  refine r_iconst DX8_look_7 (v := 1) (by decide) ?_
  refine r_isub DX8_look_8 ?_
  refine r_i2l DX8_look_9 ?_
  obtain ⟨q10, e10, e⟩ := x_bnd e
  refine r_callS1 (As := [.long (Int32.toInt64 v1), .long 0, .long (Int32.toInt64 ((gI b 0) - 1))]) (S := []) DX8_look_10 C_X8_70 (by decide) (by decide) (Nat.le_of_ble_eq_true rfl) (t_X8_in (Int32.toInt64 v1) 0 (Int32.toInt64 ((gI b 0) - 1)) e10) rfl ?_
  refine r_if_eq DX8_look_13 (tgt := 30) (by decide) (fun c13 => ?_) (fun c13 => ?_)
  · replace e := x_ift c13 e
    refine r_sipush DX8_look_30 (v := (-1002)) (by decide) ?_
    obtain rfl := Option.some.inj e
    exact r_iret DX8_look_33 rfl rfl
  · replace e := x_iff c13 e
    refine r_iload_n DX8_look_16 (i := 2) rfl rfl ?_
    refine r_i2l DX8_look_17 ?_
    refine r_ldc2 DX8_look_18 K_X8_164 ?_
    refine r_ldc2 DX8_look_21 K_X8_275 ?_
    obtain ⟨q24, e24, e⟩ := x_bnd e
    refine r_callS1 (As := [.long (Int32.toInt64 v2), .long (-1), .long 9]) (S := []) DX8_look_24 C_X8_70 (by decide) (by decide) (Nat.le_of_ble_eq_true rfl) (t_X8_in (Int32.toInt64 v2) (-1) 9 e24) rfl ?_
    refine r_if_ne DX8_look_27 (tgt := 34) (by decide) (fun c27 => ?_) (fun c27 => ?_)
    · replace e := x_iff c27 e
      refine r_aload_n DX8_look_34 (i := 0) rfl rfl ?_
      refine r_get (v := .ref (xa g 57)) DX8_look_35 F_X8_57 e_44 rfl ?_
      refine r_iload_n DX8_look_38 (i := 1) rfl rfl ?_
      obtain ⟨c39, e⟩ := x_grd e
      refine r_iald (f := (gA b 57)) DX8_look_39 e_57 rfl c39 ?_
      refine r_istore_n (L' := [some (.ref (xa g 44)), some (.int v1), some (.int v2), some (.int ((gA b 57) (Int32.toNatClampNeg v1)))]) DX8_look_40 (i := 3) rfl (by decide) rfl rfl ?_
      refine r_aload_n DX8_look_41 (i := 0) rfl rfl ?_
      refine r_get (v := .ref (xa g 57)) DX8_look_42 F_X8_57 e_44 rfl ?_
      refine r_iload_n DX8_look_45 (i := 1) rfl rfl ?_
      refine r_iload_n DX8_look_46 (i := 2) rfl rfl ?_
      obtain ⟨c47, e⟩ := x_grd e
      refine r_iast (f := (gA b 57)) DX8_look_47 e_57 rfl c47 p_57 ?_
      refine r_iload_n DX8_look_48 (i := 3) rfl rfl ?_
      obtain rfl := Option.some.inj e
      exact r_iret DX8_look_49 rfl rfl
    · replace e := x_ift c27 e
      refine r_sipush DX8_look_30 (v := (-1002)) (by decide) ?_
      obtain rfl := Option.some.inj e
      exact r_iret DX8_look_33 rfl rfl

set_option maxRecDepth 100000 in
set_option maxHeartbeats 4000000 in
theorem t_X8_make {l : Launch} {g : xG} {a : xT} (v1 : Int32) (v2 : Int32) (v3 : Int32) (v4 : Int32) (v5 : Int32) (b : xT)  {r : Int32} (e : f_X8_make v1 v2 v3 v4 v5 b = some r) : Ev l g 3 yX8_make M_X8_make [.ref (xa g 44), .int v1, .int v2, .int v3, .int v4, .int v5] (a, b) (some (.int r), (a, b)) := by
  unfold f_X8_make at e
  refine Ev.of 3 (L0 := [some (.ref (xa g 44)), some (.int v1), some (.int v2), some (.int v3), some (.int v4), some (.int v5), none, none, none]) (by decide) rfl (Nat.le_of_ble_eq_true rfl) rfl ?_
  refine r_aload_n DX8_make_0 (i := 0) rfl rfl ?_
  refine r_iload_n DX8_make_1 (i := 1) rfl rfl ?_
  refine r_iload_n DX8_make_2 (i := 2) rfl rfl ?_
  obtain ⟨q3, e3, e⟩ := x_bnd e
  refine r_callV1 (As := [.int v1, .int v2]) (S := []) DX8_make_3 C_X8_148 (ci := 8) rfl rfl e_44 (by decide) (by decide) (Nat.le_of_ble_eq_true rfl) (t_X8_isOf v1 v2 b e3) rfl ?_
  refine r_if_eq DX8_make_6 (tgt := 39) (by decide) (fun c6 => ?_) (fun c6 => ?_)
  · replace e := x_ift c6 e
    refine r_sipush DX8_make_39 (v := (-1001)) (by decide) ?_
    obtain rfl := Option.some.inj e
    exact r_iret DX8_make_42 rfl rfl
  · replace e := x_iff c6 e
    refine r_iload_n DX8_make_9 (i := 3) rfl rfl ?_
    refine r_iconst DX8_make_10 (v := (-1)) (by decide) ?_
    refine r_icmp_eq DX8_make_11 (tgt := 23) (by decide) (fun c11 => ?_) (fun c11 => ?_)
    · replace e := x_ift c11 e
      refine r_iload DX8_make_23 rfl ?_
      refine r_iconst DX8_make_25 (v := (-1)) (by decide) ?_
      refine r_icmp_eq DX8_make_26 (tgt := 43) (by decide) (fun c26 => ?_) (fun c26 => ?_)
      · replace e := x_ift c26 e
        refine r_aload_n DX8_make_43 (i := 0) rfl rfl ?_
        refine r_iload DX8_make_44 rfl ?_
        obtain ⟨q46, e46, e⟩ := x_bnd e
        refine r_callV1 (As := [.int v5]) (S := []) DX8_make_46 C_X8_94 (ci := 8) rfl rfl e_44 (by decide) (by decide) (Nat.le_of_ble_eq_true rfl) (t_X8_isMark v5 b e46) rfl ?_
        refine r_if_ne DX8_make_49 (tgt := 56) (by decide) (fun c49 => ?_) (fun c49 => ?_)
        · replace e := x_iff c49 e
          refine r_aload_n DX8_make_56 (i := 0) rfl rfl ?_
          refine r_iload_n DX8_make_57 (i := 1) rfl rfl ?_
          refine r_iload_n DX8_make_58 (i := 2) rfl rfl ?_
          obtain ⟨q59, e59, e⟩ := x_bnd e
          refine r_callV1 (As := [.int v1, .int v2]) (S := []) DX8_make_59 C_X8_138 (ci := 8) rfl rfl e_44 (by decide) (by decide) (Nat.le_of_ble_eq_true rfl) (t_X8_at v1 v2 b e59) rfl ?_
          refine r_istore (L' := [some (.ref (xa g 44)), some (.int v1), some (.int v2), some (.int v3), some (.int v4), some (.int v5), some (.int q59), none, none]) DX8_make_62 (by decide) rfl rfl ?_
          refine r_iload_n DX8_make_64 (i := 3) rfl rfl ?_
          refine r_iconst DX8_make_65 (v := (-1)) (by decide) ?_
          refine r_icmp_ne DX8_make_66 (tgt := 74) (by decide) (fun c66 => ?_) (fun c66 => ?_)
          · replace e := x_iff c66 e
            refine r_aload_n DX8_make_74 (i := 0) rfl rfl ?_
            refine r_iload_n DX8_make_75 (i := 1) rfl rfl ?_
            refine r_iload_n DX8_make_76 (i := 3) rfl rfl ?_
            obtain ⟨q77, e77, e⟩ := x_bnd e
            refine r_callV1 (As := [.int v1, .int v3]) (S := []) DX8_make_77 C_X8_138 (ci := 8) rfl rfl e_44 (by decide) (by decide) (Nat.le_of_ble_eq_true rfl) (t_X8_at v1 v3 b e77) rfl ?_
            refine r_istore (L' := [some (.ref (xa g 44)), some (.int v1), some (.int v2), some (.int v3), some (.int v4), some (.int v5), some (.int q59), some (.int q77), none]) DX8_make_80 (by decide) rfl rfl ?_
            refine r_iload DX8_make_82 rfl ?_
            refine r_iconst DX8_make_84 (v := (-1)) (by decide) ?_
            refine r_icmp_ne DX8_make_85 (tgt := 93) (by decide) (fun c85 => ?_) (fun c85 => ?_)
            · replace e := x_iff c85 e
              refine r_aload_n DX8_make_93 (i := 0) rfl rfl ?_
              refine r_iload_n DX8_make_94 (i := 1) rfl rfl ?_
              refine r_iload DX8_make_95 rfl ?_
              obtain ⟨q97, e97, e⟩ := x_bnd e
              refine r_callV1 (As := [.int v1, .int v4]) (S := []) DX8_make_97 C_X8_138 (ci := 8) rfl rfl e_44 (by decide) (by decide) (Nat.le_of_ble_eq_true rfl) (t_X8_at v1 v4 b e97) rfl ?_
              refine r_istore (L' := [some (.ref (xa g 44)), some (.int v1), some (.int v2), some (.int v3), some (.int v4), some (.int v5), some (.int q59), some (.int q77), some (.int q97)]) DX8_make_100 (by decide) rfl rfl ?_
              refine r_iload DX8_make_102 rfl ?_
              refine r_iload DX8_make_104 rfl ?_
              refine r_iand DX8_make_106 ?_
              refine r_iload DX8_make_107 rfl ?_
              refine r_iand DX8_make_109 ?_
              refine r_iload DX8_make_110 rfl ?_
              refine r_iload DX8_make_112 rfl ?_
              refine r_ior DX8_make_114 ?_
              refine r_iload DX8_make_115 rfl ?_
              refine r_ior DX8_make_117 ?_
              refine r_iload DX8_make_118 rfl ?_
              obtain ⟨q120, e120, e⟩ := x_bnd e
              refine r_callS1 (As := [.int ((q59 &&& q77) &&& q97), .int ((q59 ||| q77) ||| q97), .int v5]) (S := []) DX8_make_120 C_X8_298 (by decide) (by decide) (Nat.le_of_ble_eq_true rfl) (t_X8_canMake ((q59 &&& q77) &&& q97) ((q59 ||| q77) ||| q97) v5 e120) rfl ?_
              refine r_if_eq DX8_make_123 (tgt := 130) (by decide) (fun c123 => ?_) (fun c123 => ?_)
              · replace e := x_ift c123 e
                refine r_iconst DX8_make_130 (v := 0) (by decide) ?_
                obtain rfl := Option.some.inj e
                exact r_iret DX8_make_131 rfl rfl
              · replace e := x_iff c123 e
                refine r_iconst DX8_make_126 (v := 1) (by decide) ?_
                refine r_goto DX8_make_127 (tgt := 131) (by decide) ?_
                obtain rfl := Option.some.inj e
                exact r_iret DX8_make_131 rfl rfl
            · replace e := x_ift c85 e
              refine r_iload DX8_make_88 rfl ?_
              refine r_goto DX8_make_90 (tgt := 100) (by decide) ?_
              refine r_istore (L' := [some (.ref (xa g 44)), some (.int v1), some (.int v2), some (.int v3), some (.int v4), some (.int v5), some (.int q59), some (.int q77), some (.int q59)]) DX8_make_100 (by decide) rfl rfl ?_
              refine r_iload DX8_make_102 rfl ?_
              refine r_iload DX8_make_104 rfl ?_
              refine r_iand DX8_make_106 ?_
              refine r_iload DX8_make_107 rfl ?_
              refine r_iand DX8_make_109 ?_
              refine r_iload DX8_make_110 rfl ?_
              refine r_iload DX8_make_112 rfl ?_
              refine r_ior DX8_make_114 ?_
              refine r_iload DX8_make_115 rfl ?_
              refine r_ior DX8_make_117 ?_
              refine r_iload DX8_make_118 rfl ?_
              obtain ⟨q120, e120, e⟩ := x_bnd e
              refine r_callS1 (As := [.int ((q59 &&& q77) &&& q59), .int ((q59 ||| q77) ||| q59), .int v5]) (S := []) DX8_make_120 C_X8_298 (by decide) (by decide) (Nat.le_of_ble_eq_true rfl) (t_X8_canMake ((q59 &&& q77) &&& q59) ((q59 ||| q77) ||| q59) v5 e120) rfl ?_
              refine r_if_eq DX8_make_123 (tgt := 130) (by decide) (fun c123 => ?_) (fun c123 => ?_)
              · replace e := x_ift c123 e
                refine r_iconst DX8_make_130 (v := 0) (by decide) ?_
                obtain rfl := Option.some.inj e
                exact r_iret DX8_make_131 rfl rfl
              · replace e := x_iff c123 e
                refine r_iconst DX8_make_126 (v := 1) (by decide) ?_
                refine r_goto DX8_make_127 (tgt := 131) (by decide) ?_
                obtain rfl := Option.some.inj e
                exact r_iret DX8_make_131 rfl rfl
          · replace e := x_ift c66 e
            refine r_iload DX8_make_69 rfl ?_
            refine r_goto DX8_make_71 (tgt := 80) (by decide) ?_
            refine r_istore (L' := [some (.ref (xa g 44)), some (.int v1), some (.int v2), some (.int v3), some (.int v4), some (.int v5), some (.int q59), some (.int q59), none]) DX8_make_80 (by decide) rfl rfl ?_
            refine r_iload DX8_make_82 rfl ?_
            refine r_iconst DX8_make_84 (v := (-1)) (by decide) ?_
            refine r_icmp_ne DX8_make_85 (tgt := 93) (by decide) (fun c85 => ?_) (fun c85 => ?_)
            · replace e := x_iff c85 e
              refine r_aload_n DX8_make_93 (i := 0) rfl rfl ?_
              refine r_iload_n DX8_make_94 (i := 1) rfl rfl ?_
              refine r_iload DX8_make_95 rfl ?_
              obtain ⟨q97, e97, e⟩ := x_bnd e
              refine r_callV1 (As := [.int v1, .int v4]) (S := []) DX8_make_97 C_X8_138 (ci := 8) rfl rfl e_44 (by decide) (by decide) (Nat.le_of_ble_eq_true rfl) (t_X8_at v1 v4 b e97) rfl ?_
              refine r_istore (L' := [some (.ref (xa g 44)), some (.int v1), some (.int v2), some (.int v3), some (.int v4), some (.int v5), some (.int q59), some (.int q59), some (.int q97)]) DX8_make_100 (by decide) rfl rfl ?_
              refine r_iload DX8_make_102 rfl ?_
              refine r_iload DX8_make_104 rfl ?_
              refine r_iand DX8_make_106 ?_
              refine r_iload DX8_make_107 rfl ?_
              refine r_iand DX8_make_109 ?_
              refine r_iload DX8_make_110 rfl ?_
              refine r_iload DX8_make_112 rfl ?_
              refine r_ior DX8_make_114 ?_
              refine r_iload DX8_make_115 rfl ?_
              refine r_ior DX8_make_117 ?_
              refine r_iload DX8_make_118 rfl ?_
              obtain ⟨q120, e120, e⟩ := x_bnd e
              refine r_callS1 (As := [.int ((q59 &&& q59) &&& q97), .int ((q59 ||| q59) ||| q97), .int v5]) (S := []) DX8_make_120 C_X8_298 (by decide) (by decide) (Nat.le_of_ble_eq_true rfl) (t_X8_canMake ((q59 &&& q59) &&& q97) ((q59 ||| q59) ||| q97) v5 e120) rfl ?_
              refine r_if_eq DX8_make_123 (tgt := 130) (by decide) (fun c123 => ?_) (fun c123 => ?_)
              · replace e := x_ift c123 e
                refine r_iconst DX8_make_130 (v := 0) (by decide) ?_
                obtain rfl := Option.some.inj e
                exact r_iret DX8_make_131 rfl rfl
              · replace e := x_iff c123 e
                refine r_iconst DX8_make_126 (v := 1) (by decide) ?_
                refine r_goto DX8_make_127 (tgt := 131) (by decide) ?_
                obtain rfl := Option.some.inj e
                exact r_iret DX8_make_131 rfl rfl
            · replace e := x_ift c85 e
              refine r_iload DX8_make_88 rfl ?_
              refine r_goto DX8_make_90 (tgt := 100) (by decide) ?_
              refine r_istore (L' := [some (.ref (xa g 44)), some (.int v1), some (.int v2), some (.int v3), some (.int v4), some (.int v5), some (.int q59), some (.int q59), some (.int q59)]) DX8_make_100 (by decide) rfl rfl ?_
              refine r_iload DX8_make_102 rfl ?_
              refine r_iload DX8_make_104 rfl ?_
              refine r_iand DX8_make_106 ?_
              refine r_iload DX8_make_107 rfl ?_
              refine r_iand DX8_make_109 ?_
              refine r_iload DX8_make_110 rfl ?_
              refine r_iload DX8_make_112 rfl ?_
              refine r_ior DX8_make_114 ?_
              refine r_iload DX8_make_115 rfl ?_
              refine r_ior DX8_make_117 ?_
              refine r_iload DX8_make_118 rfl ?_
              obtain ⟨q120, e120, e⟩ := x_bnd e
              refine r_callS1 (As := [.int ((q59 &&& q59) &&& q59), .int ((q59 ||| q59) ||| q59), .int v5]) (S := []) DX8_make_120 C_X8_298 (by decide) (by decide) (Nat.le_of_ble_eq_true rfl) (t_X8_canMake ((q59 &&& q59) &&& q59) ((q59 ||| q59) ||| q59) v5 e120) rfl ?_
              refine r_if_eq DX8_make_123 (tgt := 130) (by decide) (fun c123 => ?_) (fun c123 => ?_)
              · replace e := x_ift c123 e
                refine r_iconst DX8_make_130 (v := 0) (by decide) ?_
                obtain rfl := Option.some.inj e
                exact r_iret DX8_make_131 rfl rfl
              · replace e := x_iff c123 e
                refine r_iconst DX8_make_126 (v := 1) (by decide) ?_
                refine r_goto DX8_make_127 (tgt := 131) (by decide) ?_
                obtain rfl := Option.some.inj e
                exact r_iret DX8_make_131 rfl rfl
        · replace e := x_ift c49 e
          refine r_sipush DX8_make_52 (v := (-1002)) (by decide) ?_
          obtain rfl := Option.some.inj e
          exact r_iret DX8_make_55 rfl rfl
      · replace e := x_iff c26 e
        refine r_aload_n DX8_make_29 (i := 0) rfl rfl ?_
        refine r_iload_n DX8_make_30 (i := 1) rfl rfl ?_
        refine r_iload DX8_make_31 rfl ?_
        obtain ⟨q33, e33, e⟩ := x_bnd e
        refine r_callV1 (As := [.int v1, .int v4]) (S := []) DX8_make_33 C_X8_148 (ci := 8) rfl rfl e_44 (by decide) (by decide) (Nat.le_of_ble_eq_true rfl) (t_X8_isOf v1 v4 b e33) rfl ?_
        refine r_if_ne DX8_make_36 (tgt := 43) (by decide) (fun c36 => ?_) (fun c36 => ?_)
        · replace e := x_iff c36 e
          refine r_aload_n DX8_make_43 (i := 0) rfl rfl ?_
          refine r_iload DX8_make_44 rfl ?_
          obtain ⟨q46, e46, e⟩ := x_bnd e
          refine r_callV1 (As := [.int v5]) (S := []) DX8_make_46 C_X8_94 (ci := 8) rfl rfl e_44 (by decide) (by decide) (Nat.le_of_ble_eq_true rfl) (t_X8_isMark v5 b e46) rfl ?_
          refine r_if_ne DX8_make_49 (tgt := 56) (by decide) (fun c49 => ?_) (fun c49 => ?_)
          · replace e := x_iff c49 e
            refine r_aload_n DX8_make_56 (i := 0) rfl rfl ?_
            refine r_iload_n DX8_make_57 (i := 1) rfl rfl ?_
            refine r_iload_n DX8_make_58 (i := 2) rfl rfl ?_
            obtain ⟨q59, e59, e⟩ := x_bnd e
            refine r_callV1 (As := [.int v1, .int v2]) (S := []) DX8_make_59 C_X8_138 (ci := 8) rfl rfl e_44 (by decide) (by decide) (Nat.le_of_ble_eq_true rfl) (t_X8_at v1 v2 b e59) rfl ?_
            refine r_istore (L' := [some (.ref (xa g 44)), some (.int v1), some (.int v2), some (.int v3), some (.int v4), some (.int v5), some (.int q59), none, none]) DX8_make_62 (by decide) rfl rfl ?_
            refine r_iload_n DX8_make_64 (i := 3) rfl rfl ?_
            refine r_iconst DX8_make_65 (v := (-1)) (by decide) ?_
            refine r_icmp_ne DX8_make_66 (tgt := 74) (by decide) (fun c66 => ?_) (fun c66 => ?_)
            · replace e := x_iff c66 e
              refine r_aload_n DX8_make_74 (i := 0) rfl rfl ?_
              refine r_iload_n DX8_make_75 (i := 1) rfl rfl ?_
              refine r_iload_n DX8_make_76 (i := 3) rfl rfl ?_
              obtain ⟨q77, e77, e⟩ := x_bnd e
              refine r_callV1 (As := [.int v1, .int v3]) (S := []) DX8_make_77 C_X8_138 (ci := 8) rfl rfl e_44 (by decide) (by decide) (Nat.le_of_ble_eq_true rfl) (t_X8_at v1 v3 b e77) rfl ?_
              refine r_istore (L' := [some (.ref (xa g 44)), some (.int v1), some (.int v2), some (.int v3), some (.int v4), some (.int v5), some (.int q59), some (.int q77), none]) DX8_make_80 (by decide) rfl rfl ?_
              refine r_iload DX8_make_82 rfl ?_
              refine r_iconst DX8_make_84 (v := (-1)) (by decide) ?_
              refine r_icmp_ne DX8_make_85 (tgt := 93) (by decide) (fun c85 => ?_) (fun c85 => ?_)
              · replace e := x_iff c85 e
                refine r_aload_n DX8_make_93 (i := 0) rfl rfl ?_
                refine r_iload_n DX8_make_94 (i := 1) rfl rfl ?_
                refine r_iload DX8_make_95 rfl ?_
                obtain ⟨q97, e97, e⟩ := x_bnd e
                refine r_callV1 (As := [.int v1, .int v4]) (S := []) DX8_make_97 C_X8_138 (ci := 8) rfl rfl e_44 (by decide) (by decide) (Nat.le_of_ble_eq_true rfl) (t_X8_at v1 v4 b e97) rfl ?_
                refine r_istore (L' := [some (.ref (xa g 44)), some (.int v1), some (.int v2), some (.int v3), some (.int v4), some (.int v5), some (.int q59), some (.int q77), some (.int q97)]) DX8_make_100 (by decide) rfl rfl ?_
                refine r_iload DX8_make_102 rfl ?_
                refine r_iload DX8_make_104 rfl ?_
                refine r_iand DX8_make_106 ?_
                refine r_iload DX8_make_107 rfl ?_
                refine r_iand DX8_make_109 ?_
                refine r_iload DX8_make_110 rfl ?_
                refine r_iload DX8_make_112 rfl ?_
                refine r_ior DX8_make_114 ?_
                refine r_iload DX8_make_115 rfl ?_
                refine r_ior DX8_make_117 ?_
                refine r_iload DX8_make_118 rfl ?_
                obtain ⟨q120, e120, e⟩ := x_bnd e
                refine r_callS1 (As := [.int ((q59 &&& q77) &&& q97), .int ((q59 ||| q77) ||| q97), .int v5]) (S := []) DX8_make_120 C_X8_298 (by decide) (by decide) (Nat.le_of_ble_eq_true rfl) (t_X8_canMake ((q59 &&& q77) &&& q97) ((q59 ||| q77) ||| q97) v5 e120) rfl ?_
                refine r_if_eq DX8_make_123 (tgt := 130) (by decide) (fun c123 => ?_) (fun c123 => ?_)
                · replace e := x_ift c123 e
                  refine r_iconst DX8_make_130 (v := 0) (by decide) ?_
                  obtain rfl := Option.some.inj e
                  exact r_iret DX8_make_131 rfl rfl
                · replace e := x_iff c123 e
                  refine r_iconst DX8_make_126 (v := 1) (by decide) ?_
                  refine r_goto DX8_make_127 (tgt := 131) (by decide) ?_
                  obtain rfl := Option.some.inj e
                  exact r_iret DX8_make_131 rfl rfl
              · replace e := x_ift c85 e
                refine r_iload DX8_make_88 rfl ?_
                refine r_goto DX8_make_90 (tgt := 100) (by decide) ?_
                refine r_istore (L' := [some (.ref (xa g 44)), some (.int v1), some (.int v2), some (.int v3), some (.int v4), some (.int v5), some (.int q59), some (.int q77), some (.int q59)]) DX8_make_100 (by decide) rfl rfl ?_
                refine r_iload DX8_make_102 rfl ?_
                refine r_iload DX8_make_104 rfl ?_
                refine r_iand DX8_make_106 ?_
                refine r_iload DX8_make_107 rfl ?_
                refine r_iand DX8_make_109 ?_
                refine r_iload DX8_make_110 rfl ?_
                refine r_iload DX8_make_112 rfl ?_
                refine r_ior DX8_make_114 ?_
                refine r_iload DX8_make_115 rfl ?_
                refine r_ior DX8_make_117 ?_
                refine r_iload DX8_make_118 rfl ?_
                obtain ⟨q120, e120, e⟩ := x_bnd e
                refine r_callS1 (As := [.int ((q59 &&& q77) &&& q59), .int ((q59 ||| q77) ||| q59), .int v5]) (S := []) DX8_make_120 C_X8_298 (by decide) (by decide) (Nat.le_of_ble_eq_true rfl) (t_X8_canMake ((q59 &&& q77) &&& q59) ((q59 ||| q77) ||| q59) v5 e120) rfl ?_
                refine r_if_eq DX8_make_123 (tgt := 130) (by decide) (fun c123 => ?_) (fun c123 => ?_)
                · replace e := x_ift c123 e
                  refine r_iconst DX8_make_130 (v := 0) (by decide) ?_
                  obtain rfl := Option.some.inj e
                  exact r_iret DX8_make_131 rfl rfl
                · replace e := x_iff c123 e
                  refine r_iconst DX8_make_126 (v := 1) (by decide) ?_
                  refine r_goto DX8_make_127 (tgt := 131) (by decide) ?_
                  obtain rfl := Option.some.inj e
                  exact r_iret DX8_make_131 rfl rfl
            · replace e := x_ift c66 e
              refine r_iload DX8_make_69 rfl ?_
              refine r_goto DX8_make_71 (tgt := 80) (by decide) ?_
              refine r_istore (L' := [some (.ref (xa g 44)), some (.int v1), some (.int v2), some (.int v3), some (.int v4), some (.int v5), some (.int q59), some (.int q59), none]) DX8_make_80 (by decide) rfl rfl ?_
              refine r_iload DX8_make_82 rfl ?_
              refine r_iconst DX8_make_84 (v := (-1)) (by decide) ?_
              refine r_icmp_ne DX8_make_85 (tgt := 93) (by decide) (fun c85 => ?_) (fun c85 => ?_)
              · replace e := x_iff c85 e
                refine r_aload_n DX8_make_93 (i := 0) rfl rfl ?_
                refine r_iload_n DX8_make_94 (i := 1) rfl rfl ?_
                refine r_iload DX8_make_95 rfl ?_
                obtain ⟨q97, e97, e⟩ := x_bnd e
                refine r_callV1 (As := [.int v1, .int v4]) (S := []) DX8_make_97 C_X8_138 (ci := 8) rfl rfl e_44 (by decide) (by decide) (Nat.le_of_ble_eq_true rfl) (t_X8_at v1 v4 b e97) rfl ?_
                refine r_istore (L' := [some (.ref (xa g 44)), some (.int v1), some (.int v2), some (.int v3), some (.int v4), some (.int v5), some (.int q59), some (.int q59), some (.int q97)]) DX8_make_100 (by decide) rfl rfl ?_
                refine r_iload DX8_make_102 rfl ?_
                refine r_iload DX8_make_104 rfl ?_
                refine r_iand DX8_make_106 ?_
                refine r_iload DX8_make_107 rfl ?_
                refine r_iand DX8_make_109 ?_
                refine r_iload DX8_make_110 rfl ?_
                refine r_iload DX8_make_112 rfl ?_
                refine r_ior DX8_make_114 ?_
                refine r_iload DX8_make_115 rfl ?_
                refine r_ior DX8_make_117 ?_
                refine r_iload DX8_make_118 rfl ?_
                obtain ⟨q120, e120, e⟩ := x_bnd e
                refine r_callS1 (As := [.int ((q59 &&& q59) &&& q97), .int ((q59 ||| q59) ||| q97), .int v5]) (S := []) DX8_make_120 C_X8_298 (by decide) (by decide) (Nat.le_of_ble_eq_true rfl) (t_X8_canMake ((q59 &&& q59) &&& q97) ((q59 ||| q59) ||| q97) v5 e120) rfl ?_
                refine r_if_eq DX8_make_123 (tgt := 130) (by decide) (fun c123 => ?_) (fun c123 => ?_)
                · replace e := x_ift c123 e
                  refine r_iconst DX8_make_130 (v := 0) (by decide) ?_
                  obtain rfl := Option.some.inj e
                  exact r_iret DX8_make_131 rfl rfl
                · replace e := x_iff c123 e
                  refine r_iconst DX8_make_126 (v := 1) (by decide) ?_
                  refine r_goto DX8_make_127 (tgt := 131) (by decide) ?_
                  obtain rfl := Option.some.inj e
                  exact r_iret DX8_make_131 rfl rfl
              · replace e := x_ift c85 e
                refine r_iload DX8_make_88 rfl ?_
                refine r_goto DX8_make_90 (tgt := 100) (by decide) ?_
                refine r_istore (L' := [some (.ref (xa g 44)), some (.int v1), some (.int v2), some (.int v3), some (.int v4), some (.int v5), some (.int q59), some (.int q59), some (.int q59)]) DX8_make_100 (by decide) rfl rfl ?_
                refine r_iload DX8_make_102 rfl ?_
                refine r_iload DX8_make_104 rfl ?_
                refine r_iand DX8_make_106 ?_
                refine r_iload DX8_make_107 rfl ?_
                refine r_iand DX8_make_109 ?_
                refine r_iload DX8_make_110 rfl ?_
                refine r_iload DX8_make_112 rfl ?_
                refine r_ior DX8_make_114 ?_
                refine r_iload DX8_make_115 rfl ?_
                refine r_ior DX8_make_117 ?_
                refine r_iload DX8_make_118 rfl ?_
                obtain ⟨q120, e120, e⟩ := x_bnd e
                refine r_callS1 (As := [.int ((q59 &&& q59) &&& q59), .int ((q59 ||| q59) ||| q59), .int v5]) (S := []) DX8_make_120 C_X8_298 (by decide) (by decide) (Nat.le_of_ble_eq_true rfl) (t_X8_canMake ((q59 &&& q59) &&& q59) ((q59 ||| q59) ||| q59) v5 e120) rfl ?_
                refine r_if_eq DX8_make_123 (tgt := 130) (by decide) (fun c123 => ?_) (fun c123 => ?_)
                · replace e := x_ift c123 e
                  refine r_iconst DX8_make_130 (v := 0) (by decide) ?_
                  obtain rfl := Option.some.inj e
                  exact r_iret DX8_make_131 rfl rfl
                · replace e := x_iff c123 e
                  refine r_iconst DX8_make_126 (v := 1) (by decide) ?_
                  refine r_goto DX8_make_127 (tgt := 131) (by decide) ?_
                  obtain rfl := Option.some.inj e
                  exact r_iret DX8_make_131 rfl rfl
          · replace e := x_ift c49 e
            refine r_sipush DX8_make_52 (v := (-1002)) (by decide) ?_
            obtain rfl := Option.some.inj e
            exact r_iret DX8_make_55 rfl rfl
        · replace e := x_ift c36 e
          refine r_sipush DX8_make_39 (v := (-1001)) (by decide) ?_
          obtain rfl := Option.some.inj e
          exact r_iret DX8_make_42 rfl rfl
    · replace e := x_iff c11 e
      refine r_aload_n DX8_make_14 (i := 0) rfl rfl ?_
      refine r_iload_n DX8_make_15 (i := 1) rfl rfl ?_
      refine r_iload_n DX8_make_16 (i := 3) rfl rfl ?_
      obtain ⟨q17, e17, e⟩ := x_bnd e
      refine r_callV1 (As := [.int v1, .int v3]) (S := []) DX8_make_17 C_X8_148 (ci := 8) rfl rfl e_44 (by decide) (by decide) (Nat.le_of_ble_eq_true rfl) (t_X8_isOf v1 v3 b e17) rfl ?_
      refine r_if_eq DX8_make_20 (tgt := 39) (by decide) (fun c20 => ?_) (fun c20 => ?_)
      · replace e := x_ift c20 e
        refine r_sipush DX8_make_39 (v := (-1001)) (by decide) ?_
        obtain rfl := Option.some.inj e
        exact r_iret DX8_make_42 rfl rfl
      · replace e := x_iff c20 e
        refine r_iload DX8_make_23 rfl ?_
        refine r_iconst DX8_make_25 (v := (-1)) (by decide) ?_
        refine r_icmp_eq DX8_make_26 (tgt := 43) (by decide) (fun c26 => ?_) (fun c26 => ?_)
        · replace e := x_ift c26 e
          refine r_aload_n DX8_make_43 (i := 0) rfl rfl ?_
          refine r_iload DX8_make_44 rfl ?_
          obtain ⟨q46, e46, e⟩ := x_bnd e
          refine r_callV1 (As := [.int v5]) (S := []) DX8_make_46 C_X8_94 (ci := 8) rfl rfl e_44 (by decide) (by decide) (Nat.le_of_ble_eq_true rfl) (t_X8_isMark v5 b e46) rfl ?_
          refine r_if_ne DX8_make_49 (tgt := 56) (by decide) (fun c49 => ?_) (fun c49 => ?_)
          · replace e := x_iff c49 e
            refine r_aload_n DX8_make_56 (i := 0) rfl rfl ?_
            refine r_iload_n DX8_make_57 (i := 1) rfl rfl ?_
            refine r_iload_n DX8_make_58 (i := 2) rfl rfl ?_
            obtain ⟨q59, e59, e⟩ := x_bnd e
            refine r_callV1 (As := [.int v1, .int v2]) (S := []) DX8_make_59 C_X8_138 (ci := 8) rfl rfl e_44 (by decide) (by decide) (Nat.le_of_ble_eq_true rfl) (t_X8_at v1 v2 b e59) rfl ?_
            refine r_istore (L' := [some (.ref (xa g 44)), some (.int v1), some (.int v2), some (.int v3), some (.int v4), some (.int v5), some (.int q59), none, none]) DX8_make_62 (by decide) rfl rfl ?_
            refine r_iload_n DX8_make_64 (i := 3) rfl rfl ?_
            refine r_iconst DX8_make_65 (v := (-1)) (by decide) ?_
            refine r_icmp_ne DX8_make_66 (tgt := 74) (by decide) (fun c66 => ?_) (fun c66 => ?_)
            · replace e := x_iff c66 e
              refine r_aload_n DX8_make_74 (i := 0) rfl rfl ?_
              refine r_iload_n DX8_make_75 (i := 1) rfl rfl ?_
              refine r_iload_n DX8_make_76 (i := 3) rfl rfl ?_
              obtain ⟨q77, e77, e⟩ := x_bnd e
              refine r_callV1 (As := [.int v1, .int v3]) (S := []) DX8_make_77 C_X8_138 (ci := 8) rfl rfl e_44 (by decide) (by decide) (Nat.le_of_ble_eq_true rfl) (t_X8_at v1 v3 b e77) rfl ?_
              refine r_istore (L' := [some (.ref (xa g 44)), some (.int v1), some (.int v2), some (.int v3), some (.int v4), some (.int v5), some (.int q59), some (.int q77), none]) DX8_make_80 (by decide) rfl rfl ?_
              refine r_iload DX8_make_82 rfl ?_
              refine r_iconst DX8_make_84 (v := (-1)) (by decide) ?_
              refine r_icmp_ne DX8_make_85 (tgt := 93) (by decide) (fun c85 => ?_) (fun c85 => ?_)
              · replace e := x_iff c85 e
                refine r_aload_n DX8_make_93 (i := 0) rfl rfl ?_
                refine r_iload_n DX8_make_94 (i := 1) rfl rfl ?_
                refine r_iload DX8_make_95 rfl ?_
                obtain ⟨q97, e97, e⟩ := x_bnd e
                refine r_callV1 (As := [.int v1, .int v4]) (S := []) DX8_make_97 C_X8_138 (ci := 8) rfl rfl e_44 (by decide) (by decide) (Nat.le_of_ble_eq_true rfl) (t_X8_at v1 v4 b e97) rfl ?_
                refine r_istore (L' := [some (.ref (xa g 44)), some (.int v1), some (.int v2), some (.int v3), some (.int v4), some (.int v5), some (.int q59), some (.int q77), some (.int q97)]) DX8_make_100 (by decide) rfl rfl ?_
                refine r_iload DX8_make_102 rfl ?_
                refine r_iload DX8_make_104 rfl ?_
                refine r_iand DX8_make_106 ?_
                refine r_iload DX8_make_107 rfl ?_
                refine r_iand DX8_make_109 ?_
                refine r_iload DX8_make_110 rfl ?_
                refine r_iload DX8_make_112 rfl ?_
                refine r_ior DX8_make_114 ?_
                refine r_iload DX8_make_115 rfl ?_
                refine r_ior DX8_make_117 ?_
                refine r_iload DX8_make_118 rfl ?_
                obtain ⟨q120, e120, e⟩ := x_bnd e
                refine r_callS1 (As := [.int ((q59 &&& q77) &&& q97), .int ((q59 ||| q77) ||| q97), .int v5]) (S := []) DX8_make_120 C_X8_298 (by decide) (by decide) (Nat.le_of_ble_eq_true rfl) (t_X8_canMake ((q59 &&& q77) &&& q97) ((q59 ||| q77) ||| q97) v5 e120) rfl ?_
                refine r_if_eq DX8_make_123 (tgt := 130) (by decide) (fun c123 => ?_) (fun c123 => ?_)
                · replace e := x_ift c123 e
                  refine r_iconst DX8_make_130 (v := 0) (by decide) ?_
                  obtain rfl := Option.some.inj e
                  exact r_iret DX8_make_131 rfl rfl
                · replace e := x_iff c123 e
                  refine r_iconst DX8_make_126 (v := 1) (by decide) ?_
                  refine r_goto DX8_make_127 (tgt := 131) (by decide) ?_
                  obtain rfl := Option.some.inj e
                  exact r_iret DX8_make_131 rfl rfl
              · replace e := x_ift c85 e
                refine r_iload DX8_make_88 rfl ?_
                refine r_goto DX8_make_90 (tgt := 100) (by decide) ?_
                refine r_istore (L' := [some (.ref (xa g 44)), some (.int v1), some (.int v2), some (.int v3), some (.int v4), some (.int v5), some (.int q59), some (.int q77), some (.int q59)]) DX8_make_100 (by decide) rfl rfl ?_
                refine r_iload DX8_make_102 rfl ?_
                refine r_iload DX8_make_104 rfl ?_
                refine r_iand DX8_make_106 ?_
                refine r_iload DX8_make_107 rfl ?_
                refine r_iand DX8_make_109 ?_
                refine r_iload DX8_make_110 rfl ?_
                refine r_iload DX8_make_112 rfl ?_
                refine r_ior DX8_make_114 ?_
                refine r_iload DX8_make_115 rfl ?_
                refine r_ior DX8_make_117 ?_
                refine r_iload DX8_make_118 rfl ?_
                obtain ⟨q120, e120, e⟩ := x_bnd e
                refine r_callS1 (As := [.int ((q59 &&& q77) &&& q59), .int ((q59 ||| q77) ||| q59), .int v5]) (S := []) DX8_make_120 C_X8_298 (by decide) (by decide) (Nat.le_of_ble_eq_true rfl) (t_X8_canMake ((q59 &&& q77) &&& q59) ((q59 ||| q77) ||| q59) v5 e120) rfl ?_
                refine r_if_eq DX8_make_123 (tgt := 130) (by decide) (fun c123 => ?_) (fun c123 => ?_)
                · replace e := x_ift c123 e
                  refine r_iconst DX8_make_130 (v := 0) (by decide) ?_
                  obtain rfl := Option.some.inj e
                  exact r_iret DX8_make_131 rfl rfl
                · replace e := x_iff c123 e
                  refine r_iconst DX8_make_126 (v := 1) (by decide) ?_
                  refine r_goto DX8_make_127 (tgt := 131) (by decide) ?_
                  obtain rfl := Option.some.inj e
                  exact r_iret DX8_make_131 rfl rfl
            · replace e := x_ift c66 e
              refine r_iload DX8_make_69 rfl ?_
              refine r_goto DX8_make_71 (tgt := 80) (by decide) ?_
              refine r_istore (L' := [some (.ref (xa g 44)), some (.int v1), some (.int v2), some (.int v3), some (.int v4), some (.int v5), some (.int q59), some (.int q59), none]) DX8_make_80 (by decide) rfl rfl ?_
              refine r_iload DX8_make_82 rfl ?_
              refine r_iconst DX8_make_84 (v := (-1)) (by decide) ?_
              refine r_icmp_ne DX8_make_85 (tgt := 93) (by decide) (fun c85 => ?_) (fun c85 => ?_)
              · replace e := x_iff c85 e
                refine r_aload_n DX8_make_93 (i := 0) rfl rfl ?_
                refine r_iload_n DX8_make_94 (i := 1) rfl rfl ?_
                refine r_iload DX8_make_95 rfl ?_
                obtain ⟨q97, e97, e⟩ := x_bnd e
                refine r_callV1 (As := [.int v1, .int v4]) (S := []) DX8_make_97 C_X8_138 (ci := 8) rfl rfl e_44 (by decide) (by decide) (Nat.le_of_ble_eq_true rfl) (t_X8_at v1 v4 b e97) rfl ?_
                refine r_istore (L' := [some (.ref (xa g 44)), some (.int v1), some (.int v2), some (.int v3), some (.int v4), some (.int v5), some (.int q59), some (.int q59), some (.int q97)]) DX8_make_100 (by decide) rfl rfl ?_
                refine r_iload DX8_make_102 rfl ?_
                refine r_iload DX8_make_104 rfl ?_
                refine r_iand DX8_make_106 ?_
                refine r_iload DX8_make_107 rfl ?_
                refine r_iand DX8_make_109 ?_
                refine r_iload DX8_make_110 rfl ?_
                refine r_iload DX8_make_112 rfl ?_
                refine r_ior DX8_make_114 ?_
                refine r_iload DX8_make_115 rfl ?_
                refine r_ior DX8_make_117 ?_
                refine r_iload DX8_make_118 rfl ?_
                obtain ⟨q120, e120, e⟩ := x_bnd e
                refine r_callS1 (As := [.int ((q59 &&& q59) &&& q97), .int ((q59 ||| q59) ||| q97), .int v5]) (S := []) DX8_make_120 C_X8_298 (by decide) (by decide) (Nat.le_of_ble_eq_true rfl) (t_X8_canMake ((q59 &&& q59) &&& q97) ((q59 ||| q59) ||| q97) v5 e120) rfl ?_
                refine r_if_eq DX8_make_123 (tgt := 130) (by decide) (fun c123 => ?_) (fun c123 => ?_)
                · replace e := x_ift c123 e
                  refine r_iconst DX8_make_130 (v := 0) (by decide) ?_
                  obtain rfl := Option.some.inj e
                  exact r_iret DX8_make_131 rfl rfl
                · replace e := x_iff c123 e
                  refine r_iconst DX8_make_126 (v := 1) (by decide) ?_
                  refine r_goto DX8_make_127 (tgt := 131) (by decide) ?_
                  obtain rfl := Option.some.inj e
                  exact r_iret DX8_make_131 rfl rfl
              · replace e := x_ift c85 e
                refine r_iload DX8_make_88 rfl ?_
                refine r_goto DX8_make_90 (tgt := 100) (by decide) ?_
                refine r_istore (L' := [some (.ref (xa g 44)), some (.int v1), some (.int v2), some (.int v3), some (.int v4), some (.int v5), some (.int q59), some (.int q59), some (.int q59)]) DX8_make_100 (by decide) rfl rfl ?_
                refine r_iload DX8_make_102 rfl ?_
                refine r_iload DX8_make_104 rfl ?_
                refine r_iand DX8_make_106 ?_
                refine r_iload DX8_make_107 rfl ?_
                refine r_iand DX8_make_109 ?_
                refine r_iload DX8_make_110 rfl ?_
                refine r_iload DX8_make_112 rfl ?_
                refine r_ior DX8_make_114 ?_
                refine r_iload DX8_make_115 rfl ?_
                refine r_ior DX8_make_117 ?_
                refine r_iload DX8_make_118 rfl ?_
                obtain ⟨q120, e120, e⟩ := x_bnd e
                refine r_callS1 (As := [.int ((q59 &&& q59) &&& q59), .int ((q59 ||| q59) ||| q59), .int v5]) (S := []) DX8_make_120 C_X8_298 (by decide) (by decide) (Nat.le_of_ble_eq_true rfl) (t_X8_canMake ((q59 &&& q59) &&& q59) ((q59 ||| q59) ||| q59) v5 e120) rfl ?_
                refine r_if_eq DX8_make_123 (tgt := 130) (by decide) (fun c123 => ?_) (fun c123 => ?_)
                · replace e := x_ift c123 e
                  refine r_iconst DX8_make_130 (v := 0) (by decide) ?_
                  obtain rfl := Option.some.inj e
                  exact r_iret DX8_make_131 rfl rfl
                · replace e := x_iff c123 e
                  refine r_iconst DX8_make_126 (v := 1) (by decide) ?_
                  refine r_goto DX8_make_127 (tgt := 131) (by decide) ?_
                  obtain rfl := Option.some.inj e
                  exact r_iret DX8_make_131 rfl rfl
          · replace e := x_ift c49 e
            refine r_sipush DX8_make_52 (v := (-1002)) (by decide) ?_
            obtain rfl := Option.some.inj e
            exact r_iret DX8_make_55 rfl rfl
        · replace e := x_iff c26 e
          refine r_aload_n DX8_make_29 (i := 0) rfl rfl ?_
          refine r_iload_n DX8_make_30 (i := 1) rfl rfl ?_
          refine r_iload DX8_make_31 rfl ?_
          obtain ⟨q33, e33, e⟩ := x_bnd e
          refine r_callV1 (As := [.int v1, .int v4]) (S := []) DX8_make_33 C_X8_148 (ci := 8) rfl rfl e_44 (by decide) (by decide) (Nat.le_of_ble_eq_true rfl) (t_X8_isOf v1 v4 b e33) rfl ?_
          refine r_if_ne DX8_make_36 (tgt := 43) (by decide) (fun c36 => ?_) (fun c36 => ?_)
          · replace e := x_iff c36 e
            refine r_aload_n DX8_make_43 (i := 0) rfl rfl ?_
            refine r_iload DX8_make_44 rfl ?_
            obtain ⟨q46, e46, e⟩ := x_bnd e
            refine r_callV1 (As := [.int v5]) (S := []) DX8_make_46 C_X8_94 (ci := 8) rfl rfl e_44 (by decide) (by decide) (Nat.le_of_ble_eq_true rfl) (t_X8_isMark v5 b e46) rfl ?_
            refine r_if_ne DX8_make_49 (tgt := 56) (by decide) (fun c49 => ?_) (fun c49 => ?_)
            · replace e := x_iff c49 e
              refine r_aload_n DX8_make_56 (i := 0) rfl rfl ?_
              refine r_iload_n DX8_make_57 (i := 1) rfl rfl ?_
              refine r_iload_n DX8_make_58 (i := 2) rfl rfl ?_
              obtain ⟨q59, e59, e⟩ := x_bnd e
              refine r_callV1 (As := [.int v1, .int v2]) (S := []) DX8_make_59 C_X8_138 (ci := 8) rfl rfl e_44 (by decide) (by decide) (Nat.le_of_ble_eq_true rfl) (t_X8_at v1 v2 b e59) rfl ?_
              refine r_istore (L' := [some (.ref (xa g 44)), some (.int v1), some (.int v2), some (.int v3), some (.int v4), some (.int v5), some (.int q59), none, none]) DX8_make_62 (by decide) rfl rfl ?_
              refine r_iload_n DX8_make_64 (i := 3) rfl rfl ?_
              refine r_iconst DX8_make_65 (v := (-1)) (by decide) ?_
              refine r_icmp_ne DX8_make_66 (tgt := 74) (by decide) (fun c66 => ?_) (fun c66 => ?_)
              · replace e := x_iff c66 e
                refine r_aload_n DX8_make_74 (i := 0) rfl rfl ?_
                refine r_iload_n DX8_make_75 (i := 1) rfl rfl ?_
                refine r_iload_n DX8_make_76 (i := 3) rfl rfl ?_
                obtain ⟨q77, e77, e⟩ := x_bnd e
                refine r_callV1 (As := [.int v1, .int v3]) (S := []) DX8_make_77 C_X8_138 (ci := 8) rfl rfl e_44 (by decide) (by decide) (Nat.le_of_ble_eq_true rfl) (t_X8_at v1 v3 b e77) rfl ?_
                refine r_istore (L' := [some (.ref (xa g 44)), some (.int v1), some (.int v2), some (.int v3), some (.int v4), some (.int v5), some (.int q59), some (.int q77), none]) DX8_make_80 (by decide) rfl rfl ?_
                refine r_iload DX8_make_82 rfl ?_
                refine r_iconst DX8_make_84 (v := (-1)) (by decide) ?_
                refine r_icmp_ne DX8_make_85 (tgt := 93) (by decide) (fun c85 => ?_) (fun c85 => ?_)
                · replace e := x_iff c85 e
                  refine r_aload_n DX8_make_93 (i := 0) rfl rfl ?_
                  refine r_iload_n DX8_make_94 (i := 1) rfl rfl ?_
                  refine r_iload DX8_make_95 rfl ?_
                  obtain ⟨q97, e97, e⟩ := x_bnd e
                  refine r_callV1 (As := [.int v1, .int v4]) (S := []) DX8_make_97 C_X8_138 (ci := 8) rfl rfl e_44 (by decide) (by decide) (Nat.le_of_ble_eq_true rfl) (t_X8_at v1 v4 b e97) rfl ?_
                  refine r_istore (L' := [some (.ref (xa g 44)), some (.int v1), some (.int v2), some (.int v3), some (.int v4), some (.int v5), some (.int q59), some (.int q77), some (.int q97)]) DX8_make_100 (by decide) rfl rfl ?_
                  refine r_iload DX8_make_102 rfl ?_
                  refine r_iload DX8_make_104 rfl ?_
                  refine r_iand DX8_make_106 ?_
                  refine r_iload DX8_make_107 rfl ?_
                  refine r_iand DX8_make_109 ?_
                  refine r_iload DX8_make_110 rfl ?_
                  refine r_iload DX8_make_112 rfl ?_
                  refine r_ior DX8_make_114 ?_
                  refine r_iload DX8_make_115 rfl ?_
                  refine r_ior DX8_make_117 ?_
                  refine r_iload DX8_make_118 rfl ?_
                  obtain ⟨q120, e120, e⟩ := x_bnd e
                  refine r_callS1 (As := [.int ((q59 &&& q77) &&& q97), .int ((q59 ||| q77) ||| q97), .int v5]) (S := []) DX8_make_120 C_X8_298 (by decide) (by decide) (Nat.le_of_ble_eq_true rfl) (t_X8_canMake ((q59 &&& q77) &&& q97) ((q59 ||| q77) ||| q97) v5 e120) rfl ?_
                  refine r_if_eq DX8_make_123 (tgt := 130) (by decide) (fun c123 => ?_) (fun c123 => ?_)
                  · replace e := x_ift c123 e
                    refine r_iconst DX8_make_130 (v := 0) (by decide) ?_
                    obtain rfl := Option.some.inj e
                    exact r_iret DX8_make_131 rfl rfl
                  · replace e := x_iff c123 e
                    refine r_iconst DX8_make_126 (v := 1) (by decide) ?_
                    refine r_goto DX8_make_127 (tgt := 131) (by decide) ?_
                    obtain rfl := Option.some.inj e
                    exact r_iret DX8_make_131 rfl rfl
                · replace e := x_ift c85 e
                  refine r_iload DX8_make_88 rfl ?_
                  refine r_goto DX8_make_90 (tgt := 100) (by decide) ?_
                  refine r_istore (L' := [some (.ref (xa g 44)), some (.int v1), some (.int v2), some (.int v3), some (.int v4), some (.int v5), some (.int q59), some (.int q77), some (.int q59)]) DX8_make_100 (by decide) rfl rfl ?_
                  refine r_iload DX8_make_102 rfl ?_
                  refine r_iload DX8_make_104 rfl ?_
                  refine r_iand DX8_make_106 ?_
                  refine r_iload DX8_make_107 rfl ?_
                  refine r_iand DX8_make_109 ?_
                  refine r_iload DX8_make_110 rfl ?_
                  refine r_iload DX8_make_112 rfl ?_
                  refine r_ior DX8_make_114 ?_
                  refine r_iload DX8_make_115 rfl ?_
                  refine r_ior DX8_make_117 ?_
                  refine r_iload DX8_make_118 rfl ?_
                  obtain ⟨q120, e120, e⟩ := x_bnd e
                  refine r_callS1 (As := [.int ((q59 &&& q77) &&& q59), .int ((q59 ||| q77) ||| q59), .int v5]) (S := []) DX8_make_120 C_X8_298 (by decide) (by decide) (Nat.le_of_ble_eq_true rfl) (t_X8_canMake ((q59 &&& q77) &&& q59) ((q59 ||| q77) ||| q59) v5 e120) rfl ?_
                  refine r_if_eq DX8_make_123 (tgt := 130) (by decide) (fun c123 => ?_) (fun c123 => ?_)
                  · replace e := x_ift c123 e
                    refine r_iconst DX8_make_130 (v := 0) (by decide) ?_
                    obtain rfl := Option.some.inj e
                    exact r_iret DX8_make_131 rfl rfl
                  · replace e := x_iff c123 e
                    refine r_iconst DX8_make_126 (v := 1) (by decide) ?_
                    refine r_goto DX8_make_127 (tgt := 131) (by decide) ?_
                    obtain rfl := Option.some.inj e
                    exact r_iret DX8_make_131 rfl rfl
              · replace e := x_ift c66 e
                refine r_iload DX8_make_69 rfl ?_
                refine r_goto DX8_make_71 (tgt := 80) (by decide) ?_
                refine r_istore (L' := [some (.ref (xa g 44)), some (.int v1), some (.int v2), some (.int v3), some (.int v4), some (.int v5), some (.int q59), some (.int q59), none]) DX8_make_80 (by decide) rfl rfl ?_
                refine r_iload DX8_make_82 rfl ?_
                refine r_iconst DX8_make_84 (v := (-1)) (by decide) ?_
                refine r_icmp_ne DX8_make_85 (tgt := 93) (by decide) (fun c85 => ?_) (fun c85 => ?_)
                · replace e := x_iff c85 e
                  refine r_aload_n DX8_make_93 (i := 0) rfl rfl ?_
                  refine r_iload_n DX8_make_94 (i := 1) rfl rfl ?_
                  refine r_iload DX8_make_95 rfl ?_
                  obtain ⟨q97, e97, e⟩ := x_bnd e
                  refine r_callV1 (As := [.int v1, .int v4]) (S := []) DX8_make_97 C_X8_138 (ci := 8) rfl rfl e_44 (by decide) (by decide) (Nat.le_of_ble_eq_true rfl) (t_X8_at v1 v4 b e97) rfl ?_
                  refine r_istore (L' := [some (.ref (xa g 44)), some (.int v1), some (.int v2), some (.int v3), some (.int v4), some (.int v5), some (.int q59), some (.int q59), some (.int q97)]) DX8_make_100 (by decide) rfl rfl ?_
                  refine r_iload DX8_make_102 rfl ?_
                  refine r_iload DX8_make_104 rfl ?_
                  refine r_iand DX8_make_106 ?_
                  refine r_iload DX8_make_107 rfl ?_
                  refine r_iand DX8_make_109 ?_
                  refine r_iload DX8_make_110 rfl ?_
                  refine r_iload DX8_make_112 rfl ?_
                  refine r_ior DX8_make_114 ?_
                  refine r_iload DX8_make_115 rfl ?_
                  refine r_ior DX8_make_117 ?_
                  refine r_iload DX8_make_118 rfl ?_
                  obtain ⟨q120, e120, e⟩ := x_bnd e
                  refine r_callS1 (As := [.int ((q59 &&& q59) &&& q97), .int ((q59 ||| q59) ||| q97), .int v5]) (S := []) DX8_make_120 C_X8_298 (by decide) (by decide) (Nat.le_of_ble_eq_true rfl) (t_X8_canMake ((q59 &&& q59) &&& q97) ((q59 ||| q59) ||| q97) v5 e120) rfl ?_
                  refine r_if_eq DX8_make_123 (tgt := 130) (by decide) (fun c123 => ?_) (fun c123 => ?_)
                  · replace e := x_ift c123 e
                    refine r_iconst DX8_make_130 (v := 0) (by decide) ?_
                    obtain rfl := Option.some.inj e
                    exact r_iret DX8_make_131 rfl rfl
                  · replace e := x_iff c123 e
                    refine r_iconst DX8_make_126 (v := 1) (by decide) ?_
                    refine r_goto DX8_make_127 (tgt := 131) (by decide) ?_
                    obtain rfl := Option.some.inj e
                    exact r_iret DX8_make_131 rfl rfl
                · replace e := x_ift c85 e
                  refine r_iload DX8_make_88 rfl ?_
                  refine r_goto DX8_make_90 (tgt := 100) (by decide) ?_
                  refine r_istore (L' := [some (.ref (xa g 44)), some (.int v1), some (.int v2), some (.int v3), some (.int v4), some (.int v5), some (.int q59), some (.int q59), some (.int q59)]) DX8_make_100 (by decide) rfl rfl ?_
                  refine r_iload DX8_make_102 rfl ?_
                  refine r_iload DX8_make_104 rfl ?_
                  refine r_iand DX8_make_106 ?_
                  refine r_iload DX8_make_107 rfl ?_
                  refine r_iand DX8_make_109 ?_
                  refine r_iload DX8_make_110 rfl ?_
                  refine r_iload DX8_make_112 rfl ?_
                  refine r_ior DX8_make_114 ?_
                  refine r_iload DX8_make_115 rfl ?_
                  refine r_ior DX8_make_117 ?_
                  refine r_iload DX8_make_118 rfl ?_
                  obtain ⟨q120, e120, e⟩ := x_bnd e
                  refine r_callS1 (As := [.int ((q59 &&& q59) &&& q59), .int ((q59 ||| q59) ||| q59), .int v5]) (S := []) DX8_make_120 C_X8_298 (by decide) (by decide) (Nat.le_of_ble_eq_true rfl) (t_X8_canMake ((q59 &&& q59) &&& q59) ((q59 ||| q59) ||| q59) v5 e120) rfl ?_
                  refine r_if_eq DX8_make_123 (tgt := 130) (by decide) (fun c123 => ?_) (fun c123 => ?_)
                  · replace e := x_ift c123 e
                    refine r_iconst DX8_make_130 (v := 0) (by decide) ?_
                    obtain rfl := Option.some.inj e
                    exact r_iret DX8_make_131 rfl rfl
                  · replace e := x_iff c123 e
                    refine r_iconst DX8_make_126 (v := 1) (by decide) ?_
                    refine r_goto DX8_make_127 (tgt := 131) (by decide) ?_
                    obtain rfl := Option.some.inj e
                    exact r_iret DX8_make_131 rfl rfl
            · replace e := x_ift c49 e
              refine r_sipush DX8_make_52 (v := (-1002)) (by decide) ?_
              obtain rfl := Option.some.inj e
              exact r_iret DX8_make_55 rfl rfl
          · replace e := x_ift c36 e
            refine r_sipush DX8_make_39 (v := (-1001)) (by decide) ?_
            obtain rfl := Option.some.inj e
            exact r_iret DX8_make_42 rfl rfl

set_option maxRecDepth 100000 in
set_option maxHeartbeats 4000000 in
theorem t_X8_mark {l : Launch} {g : xG} {a : xT} (v1 : Int32) (v2 : Int32) (b : xT)  {r : Int32} (e : f_X8_mark v1 v2 b = some r) : Ev l g 3 yX8_mark M_X8_mark [.ref (xa g 44), .int v1, .int v2] (a, b) (some (.int r), (a, b)) := by
  unfold f_X8_mark at e
  refine Ev.of 0 (L0 := [some (.ref (xa g 44)), some (.int v1), some (.int v2)]) (by decide) rfl (Nat.le_of_ble_eq_true rfl) rfl ?_
  refine r_iload_n DX8_mark_0 (i := 1) rfl rfl ?_
  obtain ⟨q1, e1, e⟩ := x_bnd e
  refine r_callS1 (As := [.int v1]) (S := []) DX8_mark_1 C_X8_76 (by decide) (by decide) (Nat.le_of_ble_eq_true rfl) (t_X8_isList v1 e1) rfl ?_
  refine r_if_eq DX8_mark_4 (tgt := 21) (by decide) (fun c4 => ?_) (fun c4 => ?_)
  · replace e := x_ift c4 e
    refine r_sipush DX8_mark_21 (v := (-1001)) (by decide) ?_
    obtain rfl := Option.some.inj e
    exact r_iret DX8_mark_24 rfl rfl
  · replace e := x_iff c4 e
    refine r_iload_n DX8_mark_7 (i := 2) rfl rfl ?_
    refine r_iconst DX8_mark_8 (v := (-1)) (by decide) ?_
    refine r_icmp_eq DX8_mark_9 (tgt := 25) (by decide) (fun c9 => ?_) (fun c9 => ?_)
    · replace e := x_ift c9 e
      refine r_iload_n DX8_mark_25 (i := 2) rfl rfl ?_
      refine r_iconst DX8_mark_26 (v := (-1)) (by decide) ?_
      refine r_icmp_ne DX8_mark_27 (tgt := 39) (by decide) (fun c27 => ?_) (fun c27 => ?_)
      · replace e := x_iff c27 e
        refine r_aload_n DX8_mark_39 (i := 0) rfl rfl ?_
        refine r_iload_n DX8_mark_40 (i := 1) rfl rfl ?_
        refine r_iload_n DX8_mark_41 (i := 2) rfl rfl ?_
        obtain ⟨q42, e42, e⟩ := x_bnd e
        refine r_callV1 (As := [.int v1, .int v2]) (S := []) DX8_mark_42 C_X8_138 (ci := 8) rfl rfl e_44 (by decide) (by decide) (Nat.le_of_ble_eq_true rfl) (t_X8_at v1 v2 b e42) rfl ?_
        obtain rfl := Option.some.inj e
        exact r_iret DX8_mark_45 rfl rfl
      · replace e := x_ift c27 e
        refine r_aload_n DX8_mark_30 (i := 0) rfl rfl ?_
        refine r_get (v := .ref (xa g 45)) DX8_mark_31 F_X8_16 e_44 rfl ?_
        refine r_iload_n DX8_mark_34 (i := 1) rfl rfl ?_
        obtain ⟨c35, e⟩ := x_grd e
        refine r_iald (f := (gA b 45)) DX8_mark_35 e_45 rfl c35 ?_
        refine r_goto DX8_mark_36 (tgt := 45) (by decide) ?_
        obtain rfl := Option.some.inj e
        exact r_iret DX8_mark_45 rfl rfl
    · replace e := x_iff c9 e
      refine r_aload_n DX8_mark_12 (i := 0) rfl rfl ?_
      refine r_iload_n DX8_mark_13 (i := 1) rfl rfl ?_
      refine r_iload_n DX8_mark_14 (i := 2) rfl rfl ?_
      obtain ⟨q15, e15, e⟩ := x_bnd e
      refine r_callV1 (As := [.int v1, .int v2]) (S := []) DX8_mark_15 C_X8_148 (ci := 8) rfl rfl e_44 (by decide) (by decide) (Nat.le_of_ble_eq_true rfl) (t_X8_isOf v1 v2 b e15) rfl ?_
      refine r_if_ne DX8_mark_18 (tgt := 25) (by decide) (fun c18 => ?_) (fun c18 => ?_)
      · replace e := x_iff c18 e
        refine r_iload_n DX8_mark_25 (i := 2) rfl rfl ?_
        refine r_iconst DX8_mark_26 (v := (-1)) (by decide) ?_
        refine r_icmp_ne DX8_mark_27 (tgt := 39) (by decide) (fun c27 => ?_) (fun c27 => ?_)
        · replace e := x_iff c27 e
          refine r_aload_n DX8_mark_39 (i := 0) rfl rfl ?_
          refine r_iload_n DX8_mark_40 (i := 1) rfl rfl ?_
          refine r_iload_n DX8_mark_41 (i := 2) rfl rfl ?_
          obtain ⟨q42, e42, e⟩ := x_bnd e
          refine r_callV1 (As := [.int v1, .int v2]) (S := []) DX8_mark_42 C_X8_138 (ci := 8) rfl rfl e_44 (by decide) (by decide) (Nat.le_of_ble_eq_true rfl) (t_X8_at v1 v2 b e42) rfl ?_
          obtain rfl := Option.some.inj e
          exact r_iret DX8_mark_45 rfl rfl
        · replace e := x_ift c27 e
          refine r_aload_n DX8_mark_30 (i := 0) rfl rfl ?_
          refine r_get (v := .ref (xa g 45)) DX8_mark_31 F_X8_16 e_44 rfl ?_
          refine r_iload_n DX8_mark_34 (i := 1) rfl rfl ?_
          obtain ⟨c35, e⟩ := x_grd e
          refine r_iald (f := (gA b 45)) DX8_mark_35 e_45 rfl c35 ?_
          refine r_goto DX8_mark_36 (tgt := 45) (by decide) ?_
          obtain rfl := Option.some.inj e
          exact r_iret DX8_mark_45 rfl rfl
      · replace e := x_ift c18 e
        refine r_sipush DX8_mark_21 (v := (-1001)) (by decide) ?_
        obtain rfl := Option.some.inj e
        exact r_iret DX8_mark_24 rfl rfl

set_option maxRecDepth 100000 in
set_option maxHeartbeats 4000000 in
theorem t_X8_may {l : Launch} {g : xG} {a : xT} (N : Nat) (v1 : Int32) (v2 : Int32) (v3 : Int32) (b : xT)  {r : Int32} (e : f_X8_may N v1 v2 v3 b = some r) : Ev l g 3 yX8_may M_X8_may [.ref (xa g 44), .int v1, .int v2, .int v3] (a, b) (some (.int r), (a, b)) := by
  unfold f_X8_may at e
  refine Ev.of 0 (L0 := [some (.ref (xa g 44)), some (.int v1), some (.int v2), some (.int v3)]) (by decide) rfl (Nat.le_of_ble_eq_true rfl) rfl ?_
  refine r_aload_n DX8_may_0 (i := 0) rfl rfl ?_
  refine r_iload_n DX8_may_1 (i := 1) rfl rfl ?_
  obtain ⟨q2, e2, e⟩ := x_bnd e
  refine r_callV1 (As := [.int v1]) (S := []) DX8_may_2 C_X8_94 (ci := 8) rfl rfl e_44 (by decide) (by decide) (Nat.le_of_ble_eq_true rfl) (t_X8_isMark v1 b e2) rfl ?_
  refine r_if_eq DX8_may_5 (tgt := 17) (by decide) (fun c5 => ?_) (fun c5 => ?_)
  · replace e := x_ift c5 e
    refine r_sipush DX8_may_17 (v := (-1002)) (by decide) ?_
    obtain rfl := Option.some.inj e
    exact r_iret DX8_may_20 rfl rfl
  · replace e := x_iff c5 e
    refine r_aload_n DX8_may_8 (i := 0) rfl rfl ?_
    refine r_iload_n DX8_may_9 (i := 2) rfl rfl ?_
    refine r_iload_n DX8_may_10 (i := 3) rfl rfl ?_
    obtain ⟨q11, e11, e⟩ := x_bnd e
    refine r_callV1 (As := [.int v2, .int v3]) (S := []) DX8_may_11 C_X8_108 (ci := 8) rfl rfl e_44 (by decide) (by decide) (Nat.le_of_ble_eq_true rfl) (t_X8_isSeen v2 v3 b e11) rfl ?_
    refine r_if_ne DX8_may_14 (tgt := 21) (by decide) (fun c14 => ?_) (fun c14 => ?_)
    · replace e := x_iff c14 e
      refine r_aload_n DX8_may_21 (i := 0) rfl rfl ?_
      refine r_iload_n DX8_may_22 (i := 1) rfl rfl ?_
      refine r_iload_n DX8_may_23 (i := 2) rfl rfl ?_
      refine r_iload_n DX8_may_24 (i := 3) rfl rfl ?_
      obtain ⟨q25, e25, e⟩ := x_bnd e
      refine r_callV1 (As := [.int v1, .int v2, .int v3]) (S := []) DX8_may_25 C_X8_111 (ci := 8) rfl rfl e_44 (by decide) (by decide) (Nat.le_of_ble_eq_true rfl) (t_X8_maySee N v1 v2 v3 b e25) rfl ?_
      refine r_if_eq DX8_may_28 (tgt := 35) (by decide) (fun c28 => ?_) (fun c28 => ?_)
      · replace e := x_ift c28 e
        refine r_iconst DX8_may_35 (v := 0) (by decide) ?_
        obtain rfl := Option.some.inj e
        exact r_iret DX8_may_36 rfl rfl
      · replace e := x_iff c28 e
        refine r_iconst DX8_may_31 (v := 1) (by decide) ?_
        refine r_goto DX8_may_32 (tgt := 36) (by decide) ?_
        obtain rfl := Option.some.inj e
        exact r_iret DX8_may_36 rfl rfl
    · replace e := x_ift c14 e
      refine r_sipush DX8_may_17 (v := (-1002)) (by decide) ?_
      obtain rfl := Option.some.inj e
      exact r_iret DX8_may_20 rfl rfl

set_option maxRecDepth 100000 in
set_option maxHeartbeats 4000000 in
theorem t_X8_most {l : Launch} {g : xG} {a : xT} (N : Nat) (v1 : Int32) (v2 : Int32) (b : xT)  {r : (Int32 × xT)} (e : f_X8_most N v1 v2 b = some r) : Ev l g 4 yX8_most M_X8_most [.ref (xa g 44), .int v1, .int v2] (a, b) (some (.int r.1), (a, r.2)) := by
  unfold f_X8_most at e
  refine Ev.of 0 (L0 := [some (.ref (xa g 44)), some (.int v1), some (.int v2)]) (by decide) rfl (Nat.le_of_ble_eq_true rfl) rfl ?_
  refine r_iload_n DX8_most_0 (i := 1) rfl rfl ?_
  refine r_i2l DX8_most_1 ?_
  refine r_ldc2 DX8_most_2 K_X8_164 ?_
  refine r_ldc2 DX8_most_5 K_X8_74 ?_
  obtain ⟨q8, e8, e⟩ := x_bnd e
  refine r_callS1 (As := [.long (Int32.toInt64 v1), .long (-1), .long 5]) (S := []) DX8_most_8 C_X8_70 (by decide) (by decide) (Nat.le_of_ble_eq_true rfl) (t_X8_in (Int32.toInt64 v1) (-1) 5 e8) rfl ?_
  refine r_if_ne DX8_most_11 (tgt := 18) (by decide) (fun c11 => ?_) (fun c11 => ?_)
  · replace e := x_iff c11 e
    refine r_aload_n DX8_most_18 (i := 0) rfl rfl ?_
    refine r_get (v := .int (gI b 0)) DX8_most_19 F_X8_7 e_44 rfl ?_
    refine r_iconst DX8_most_22 (v := 5) (by decide) ?_
    refine r_icmp_le DX8_most_23 (tgt := 30) (by decide) (fun c23 => ?_) (fun c23 => ?_)
    · replace e := x_ift c23 e
      refine r_aload_n DX8_most_30 (i := 0) rfl rfl ?_
      refine r_iload_n DX8_most_31 (i := 1) rfl rfl ?_
      obtain ⟨q32, e32, e⟩ := x_bnd e
      refine r_callV0 (As := [.int v1]) (S := []) DX8_most_32 C_X8_166 (ci := 8) rfl rfl e_44 (by decide) (by decide) (Nat.le_of_ble_eq_true rfl) (t_X8_findMost N v1 b e32) rfl ?_
      refine r_iload_n DX8_most_35 (i := 2) rfl rfl ?_
      refine r_iconst DX8_most_36 (v := (-1)) (by decide) ?_
      refine r_icmp_ne DX8_most_37 (tgt := 47) (by decide) (fun c37 => ?_) (fun c37 => ?_)
      · replace e := x_iff c37 e
        refine r_iload_n DX8_most_47 (i := 2) rfl rfl ?_
        refine r_i2l DX8_most_48 ?_
        refine r_lconst DX8_most_49 (v := 0) (by decide) ?_
        refine r_aload_n DX8_most_50 (i := 0) rfl rfl ?_
        refine r_get (v := .int (gI q32 9)) DX8_most_51 F_X8_158 e_44 rfl ?_
        refine r_iconst DX8_most_54 (v := 1) (by decide) ?_
        refine r_isub DX8_most_55 ?_
        refine r_i2l DX8_most_56 ?_
        obtain ⟨q57, e57, e⟩ := x_bnd e
        refine r_callS1 (As := [.long (Int32.toInt64 v2), .long 0, .long (Int32.toInt64 ((gI q32 9) - 1))]) (S := []) DX8_most_57 C_X8_70 (by decide) (by decide) (Nat.le_of_ble_eq_true rfl) (t_X8_in (Int32.toInt64 v2) 0 (Int32.toInt64 ((gI q32 9) - 1)) e57) rfl ?_
        refine r_if_eq DX8_most_60 (tgt := 72) (by decide) (fun c60 => ?_) (fun c60 => ?_)
        · replace e := x_ift c60 e
          refine r_iconst DX8_most_72 (v := (-1)) (by decide) ?_
          obtain rfl := Option.some.inj e
          exact r_iret DX8_most_73 rfl rfl
        · replace e := x_iff c60 e
          refine r_aload_n DX8_most_63 (i := 0) rfl rfl ?_
          refine r_get (v := .ref (xa g 49)) DX8_most_64 F_X8_29 e_44 rfl ?_
          refine r_iload_n DX8_most_67 (i := 2) rfl rfl ?_
          obtain ⟨c68, e⟩ := x_grd e
          refine r_iald (f := (gA q32 49)) DX8_most_68 e_49 rfl c68 ?_
          refine r_goto DX8_most_69 (tgt := 73) (by decide) ?_
          obtain rfl := Option.some.inj e
          exact r_iret DX8_most_73 rfl rfl
      · replace e := x_ift c37 e
        refine r_aload_n DX8_most_40 (i := 0) rfl rfl ?_
        refine r_get (v := .int (gI q32 9)) DX8_most_41 F_X8_158 e_44 rfl ?_
        refine r_goto DX8_most_44 (tgt := 73) (by decide) ?_
        obtain rfl := Option.some.inj e
        exact r_iret DX8_most_73 rfl rfl
    · replace e := x_iff c23 e
      refine r_sipush DX8_most_26 (v := (-1005)) (by decide) ?_
      obtain rfl := Option.some.inj e
      exact r_iret DX8_most_29 rfl rfl
  · replace e := x_ift c11 e
    refine r_sipush DX8_most_14 (v := (-1002)) (by decide) ?_
    obtain rfl := Option.some.inj e
    exact r_iret DX8_most_17 rfl rfl

set_option maxRecDepth 100000 in
set_option maxHeartbeats 4000000 in
theorem lp_X8_owner_L30 {l : Launch} {g : xG} {a : xT} {R : Option Value × xS} (N : Nat) (v1 : Int32) (v2 : Int32) (v3 : Int32) (v4 : Int32) (b : xT) : ∀ (n : Nat) (v5 : Int32) (v6 : Int32) (r : ((Int32) ⊕ (Int32))), f_X8_owner_L30 N v1 v2 v3 v4 b n v5 v6 = some r → (∀ z, r = (.inl z) → Rx l g 3 M_X8_owner 76 [none, none, none, none, some (.int v4), some (.int z), none] [] (a, b) R) → (∀ z, r = (.inr (z)) → Rx l g 3 M_X8_owner 64 [none, none, none, none, none, none, some (.int z)] [] (a, b) R) → Rx l g 3 M_X8_owner 30 [some (.ref (xa g 44)), some (.int v1), some (.int v2), some (.int v3), some (.int v4), some (.int v5), some (.int v6)] [] (a, b) R := by
  intro n
  induction n with
  | zero => intro v5_ v6_ r_ e; cases e
  | succ n ih =>
    intro v5 v6 r e K0 K1
    rw [f_X8_owner_L30] at e
    refine r_iload DX8_owner_30 rfl ?_
    refine r_aload_n DX8_owner_32 (i := 0) rfl rfl ?_
    refine r_get (v := .ref (xa g 45)) DX8_owner_33 F_X8_16 e_44 rfl ?_
    refine r_iload_n DX8_owner_36 (i := 1) rfl rfl ?_
    obtain ⟨c37, e⟩ := x_grd e
    refine r_iald (f := (gA b 45)) DX8_owner_37 e_45 rfl c37 ?_
    refine r_icmp_ge DX8_owner_38 (tgt := 76) (by decide) (fun c38 => ?_) (fun c38 => ?_)
    · replace e := x_ift c38 e
      obtain rfl := Option.some.inj e
      refine r_mask (L' := [none, none, none, none, some (.int v4), some (.int v5), none]) [false, false, false, false, true, true, false] rfl ?_
      exact K0 _ rfl
    · replace e := x_iff c38 e
      refine r_aload_n DX8_owner_41 (i := 0) rfl rfl ?_
      refine r_aload_n DX8_owner_42 (i := 0) rfl rfl ?_
      refine r_iload_n DX8_owner_43 (i := 1) rfl rfl ?_
      refine r_iload DX8_owner_44 rfl ?_
      obtain ⟨q46, e46, e⟩ := x_bnd e
      refine r_callV1 (As := [.int v1, .int v6]) (S := [.ref (xa g 44)]) DX8_owner_46 C_X8_138 (ci := 8) rfl rfl e_44 (by decide) (by decide) (Nat.le_of_ble_eq_true rfl) (t_X8_at v1 v6 b e46) rfl ?_
      refine r_iload_n DX8_owner_49 (i := 2) rfl rfl ?_
      refine r_iload_n DX8_owner_50 (i := 3) rfl rfl ?_
      obtain ⟨q51, e51, e⟩ := x_bnd e
      refine r_callV1 (As := [.int q46, .int v2, .int v3]) (S := []) DX8_owner_51 C_X8_111 (ci := 8) rfl rfl e_44 (by decide) (by decide) (Nat.le_of_ble_eq_true rfl) (t_X8_maySee N q46 v2 v3 b e51) rfl ?_
      refine r_if_eq DX8_owner_54 (tgt := 70) (by decide) (fun c54 => ?_) (fun c54 => ?_)
      · replace e := x_ift c54 e
        refine r_iinc (L' := [some (.ref (xa g 44)), some (.int v1), some (.int v2), some (.int v3), some (.int v4), some (.int v5), some (.int (v6 + 1))]) DX8_owner_70 (x := v6) (v := (v6 + 1)) rfl rfl (by decide) rfl rfl ?_
        refine r_goto DX8_owner_73 (tgt := 30) (by decide) ?_
        exact ih _ _ _ e K0 K1
      · replace e := x_iff c54 e
        refine r_iload DX8_owner_57 rfl ?_
        refine r_iload DX8_owner_59 rfl ?_
        refine r_icmp_ne DX8_owner_61 (tgt := 67) (by decide) (fun c61 => ?_) (fun c61 => ?_)
        · replace e := x_iff c61 e
          refine r_iinc (L' := [some (.ref (xa g 44)), some (.int v1), some (.int v2), some (.int v3), some (.int v4), some (.int (v5 + 1)), some (.int v6)]) DX8_owner_67 (x := v5) (v := (v5 + 1)) rfl rfl (by decide) rfl rfl ?_
          refine r_iinc (L' := [some (.ref (xa g 44)), some (.int v1), some (.int v2), some (.int v3), some (.int v4), some (.int (v5 + 1)), some (.int (v6 + 1))]) DX8_owner_70 (x := v6) (v := (v6 + 1)) rfl rfl (by decide) rfl rfl ?_
          refine r_goto DX8_owner_73 (tgt := 30) (by decide) ?_
          exact ih _ _ _ e K0 K1
        · replace e := x_ift c61 e
          obtain rfl := Option.some.inj e
          refine r_mask (L' := [none, none, none, none, none, none, some (.int v6)]) [false, false, false, false, false, false, true] rfl ?_
          exact K1 _ rfl

set_option maxRecDepth 100000 in
set_option maxHeartbeats 4000000 in
theorem t_X8_owner {l : Launch} {g : xG} {a : xT} (N : Nat) (v1 : Int32) (v2 : Int32) (v3 : Int32) (v4 : Int32) (b : xT)  {r : Int32} (e : f_X8_owner N v1 v2 v3 v4 b = some r) : Ev l g 3 yX8_owner M_X8_owner [.ref (xa g 44), .int v1, .int v2, .int v3, .int v4] (a, b) (some (.int r), (a, b)) := by
  unfold f_X8_owner at e
  refine Ev.of 2 (L0 := [some (.ref (xa g 44)), some (.int v1), some (.int v2), some (.int v3), some (.int v4), none, none]) (by decide) rfl (Nat.le_of_ble_eq_true rfl) rfl ?_
  refine r_iload_n DX8_owner_0 (i := 1) rfl rfl ?_
  obtain ⟨q1, e1, e⟩ := x_bnd e
  refine r_callS1 (As := [.int v1]) (S := []) DX8_owner_1 C_X8_76 (by decide) (by decide) (Nat.le_of_ble_eq_true rfl) (t_X8_isList v1 e1) rfl ?_
  refine r_if_ne DX8_owner_4 (tgt := 11) (by decide) (fun c4 => ?_) (fun c4 => ?_)
  · replace e := x_iff c4 e
    refine r_aload_n DX8_owner_11 (i := 0) rfl rfl ?_
    refine r_iload_n DX8_owner_12 (i := 2) rfl rfl ?_
    refine r_iload_n DX8_owner_13 (i := 3) rfl rfl ?_
    obtain ⟨q14, e14, e⟩ := x_bnd e
    refine r_callV1 (As := [.int v2, .int v3]) (S := []) DX8_owner_14 C_X8_108 (ci := 8) rfl rfl e_44 (by decide) (by decide) (Nat.le_of_ble_eq_true rfl) (t_X8_isSeen v2 v3 b e14) rfl ?_
    refine r_if_ne DX8_owner_17 (tgt := 24) (by decide) (fun c17 => ?_) (fun c17 => ?_)
    · replace e := x_iff c17 e
      refine r_iconst DX8_owner_24 (v := 0) (by decide) ?_
      refine r_istore (L' := [some (.ref (xa g 44)), some (.int v1), some (.int v2), some (.int v3), some (.int v4), some (.int 0), none]) DX8_owner_25 (by decide) rfl rfl ?_
      refine r_iconst DX8_owner_27 (v := 0) (by decide) ?_
      refine r_istore (L' := [some (.ref (xa g 44)), some (.int v1), some (.int v2), some (.int v3), some (.int v4), some (.int 0), some (.int 0)]) DX8_owner_28 (by decide) rfl rfl ?_
      obtain ⟨q30, e30, e⟩ := x_bnd e
      refine lp_X8_owner_L30 N v1 v2 v3 v4 b N 0 0 q30 e30 (fun z30_76 w30 => ?_) (fun z30_64 w30 => ?_)
      · subst w30
        dsimp only [Sum.elim] at e
        refine r_iload DX8_owner_76 rfl ?_
        refine r_iconst DX8_owner_78 (v := (-1)) (by decide) ?_
        refine r_icmp_ne DX8_owner_79 (tgt := 87) (by decide) (fun c79 => ?_) (fun c79 => ?_)
        · replace e := x_iff c79 e
          refine r_iconst DX8_owner_87 (v := (-1)) (by decide) ?_
          obtain rfl := Option.some.inj e
          exact r_iret DX8_owner_88 rfl rfl
        · replace e := x_ift c79 e
          refine r_iload DX8_owner_82 rfl ?_
          refine r_goto DX8_owner_84 (tgt := 88) (by decide) ?_
          obtain rfl := Option.some.inj e
          exact r_iret DX8_owner_88 rfl rfl
      · subst w30
        dsimp only [Sum.elim] at e
        refine r_iload DX8_owner_64 rfl ?_
        obtain rfl := Option.some.inj e
        exact r_iret DX8_owner_66 rfl rfl
    · replace e := x_ift c17 e
      refine r_sipush DX8_owner_20 (v := (-1002)) (by decide) ?_
      obtain rfl := Option.some.inj e
      exact r_iret DX8_owner_23 rfl rfl
  · replace e := x_ift c4 e
    refine r_sipush DX8_owner_7 (v := (-1001)) (by decide) ?_
    obtain rfl := Option.some.inj e
    exact r_iret DX8_owner_10 rfl rfl

set_option maxRecDepth 100000 in
set_option maxHeartbeats 4000000 in
theorem t_X8_places {l : Launch} {g : xG} {a : xT} (N : Nat) (v1 : Int32) (b : xT)  {r : (Int32 × xT)} (e : f_X8_places N v1 b = some r) : Ev l g 1 yX8_places M_X8_places [.ref (xa g 44), .int v1] (a, b) (some (.int r.1), (a, r.2)) := by
  unfold f_X8_places at e
  refine Ev.of 0 (L0 := [some (.ref (xa g 44)), some (.int v1)]) (by decide) rfl (Nat.le_of_ble_eq_true rfl) rfl ?_
  refine r_iload_n DX8_places_0 (i := 1) rfl rfl ?_
  refine r_i2l DX8_places_1 ?_
  refine r_ldc2 DX8_places_2 K_X8_80 ?_
  refine r_ldc2 DX8_places_5 K_X8_82 ?_
  obtain ⟨q8, e8, e⟩ := x_bnd e
  refine r_callS1 (As := [.long (Int32.toInt64 v1), .long 2, .long 12]) (S := []) DX8_places_8 C_X8_70 (by decide) (by decide) (Nat.le_of_ble_eq_true rfl) (t_X8_in (Int32.toInt64 v1) 2 12 e8) rfl ?_
  refine r_if_ne DX8_places_11 (tgt := 18) (by decide) (fun c11 => ?_) (fun c11 => ?_)
  · replace e := x_iff c11 e
    refine r_aload_n DX8_places_18 (i := 0) rfl rfl ?_
    refine r_iload_n DX8_places_19 (i := 1) rfl rfl ?_
    refine r_put (ty := .int) DX8_places_20 F_X8_7 Fp_8_0 e_44 rfl rfl (Nat.le_of_ble_eq_true rfl) p_44_0 ?_
    refine r_aload_n DX8_places_23 (i := 0) rfl rfl ?_
    obtain ⟨q24, e24, e⟩ := x_bnd e
    refine r_callV0 (As := []) (S := []) DX8_places_24 C_X8_67 (ci := 8) rfl rfl e_44 (by decide) (by decide) (Nat.le_of_ble_eq_true rfl) (t_X8_empty N (sI b 0 v1) e24) rfl ?_
    refine r_aload_n DX8_places_27 (i := 0) rfl rfl ?_
    refine r_get (v := .int (gI q24 0)) DX8_places_28 F_X8_7 e_44 rfl ?_
    obtain rfl := Option.some.inj e
    exact r_iret DX8_places_31 rfl rfl
  · replace e := x_ift c11 e
    refine r_sipush DX8_places_14 (v := (-1002)) (by decide) ?_
    obtain rfl := Option.some.inj e
    exact r_iret DX8_places_17 rfl rfl

set_option maxRecDepth 100000 in
set_option maxHeartbeats 4000000 in
theorem lp_X8_readWord_L18 {l : Launch} {g : xG} {a : xT} {R : Option Value × xS}  : ∀ (n : Nat) (b : xT) (r : (xT)), f_X8_readWord_L18 n b = some r → Rx l g 1 M_X8_readWord 108 [none, none] [] (a, r) R → Rx l g 1 M_X8_readWord 18 [some (.ref (xa g 44)), none] [] (a, b) R := by
  intro n
  induction n with
  | zero => intro s_ r_ e; cases e
  | succ n ih =>
    intro b r e K0
    rw [f_X8_readWord_L18] at e
    refine r_aload_n DX8_readWord_18 (i := 0) rfl rfl ?_
    refine r_get (v := .int (gI b 18)) DX8_readWord_19 F_X8_197 e_44 rfl ?_
    refine r_aload_n DX8_readWord_22 (i := 0) rfl rfl ?_
    refine r_get (v := .int (gI b 14)) DX8_readWord_23 F_X8_181 e_44 rfl ?_
    refine r_icmp_ge DX8_readWord_26 (tgt := 108) (by decide) (fun c26 => ?_) (fun c26 => ?_)
    · replace e := x_ift c26 e
      obtain rfl := Option.some.inj e
      refine r_mask (L' := [none, none]) [false, false] rfl ?_
      exact K0
    · replace e := x_iff c26 e
      refine r_aload_n DX8_readWord_29 (i := 0) rfl rfl ?_
      refine r_get (v := .ref (xa g 52)) DX8_readWord_30 F_X8_38 e_44 rfl ?_
      refine r_aload_n DX8_readWord_33 (i := 0) rfl rfl ?_
      refine r_get (v := .int (gI b 18)) DX8_readWord_34 F_X8_197 e_44 rfl ?_
      obtain ⟨c37, e⟩ := x_grd e
      refine r_iald (f := (gA b 52)) DX8_readWord_37 e_52 rfl c37 ?_
      refine r_i2l DX8_readWord_38 ?_
      refine r_ldc2 DX8_readWord_39 K_X8_200 ?_
      refine r_ldc2 DX8_readWord_42 K_X8_202 ?_
      obtain ⟨q45, e45, e⟩ := x_bnd e
      refine r_callS1 (As := [.long (Int32.toInt64 ((gA b 52) (Int32.toNatClampNeg (gI b 18)))), .long 97, .long 122]) (S := []) DX8_readWord_45 C_X8_70 (by decide) (by decide) (Nat.le_of_ble_eq_true rfl) (t_X8_in (Int32.toInt64 ((gA b 52) (Int32.toNatClampNeg (gI b 18)))) 97 122 e45) rfl ?_
      refine r_if_eq DX8_readWord_48 (tgt := 108) (by decide) (fun c48 => ?_) (fun c48 => ?_)
      · replace e := x_ift c48 e
        obtain rfl := Option.some.inj e
        refine r_mask (L' := [none, none]) [false, false] rfl ?_
        exact K0
      · replace e := x_iff c48 e
        refine r_aload_n DX8_readWord_51 (i := 0) rfl rfl ?_
        refine r_aload_n DX8_readWord_52 (i := 0) rfl rfl ?_
        refine r_get (v := .long (gJ b 17)) DX8_readWord_53 F_X8_193 e_44 rfl ?_
        refine r_ldc2 DX8_readWord_56 K_X8_204 ?_
        refine r_lcmp_le DX8_readWord_59 DX8_readWord_60 (tgt := 69) (by decide) (fun c59 => ?_) (fun c59 => ?_)
        · replace e := x_ift c59 e
          refine r_ldc2 DX8_readWord_69 K_X8_208 ?_
          refine r_aload_n DX8_readWord_72 (i := 0) rfl rfl ?_
          refine r_get (v := .long (gJ b 17)) DX8_readWord_73 F_X8_193 e_44 rfl ?_
          refine r_lmul DX8_readWord_76 ?_
          refine r_aload_n DX8_readWord_77 (i := 0) rfl rfl ?_
          refine r_get (v := .ref (xa g 52)) DX8_readWord_78 F_X8_38 e_44 rfl ?_
          refine r_aload_n DX8_readWord_81 (i := 0) rfl rfl ?_
          refine r_get (v := .int (gI b 18)) DX8_readWord_82 F_X8_197 e_44 rfl ?_
          obtain ⟨c85, e⟩ := x_grd e
          refine r_iald (f := (gA b 52)) DX8_readWord_85 e_52 rfl c85 ?_
          refine r_i2l DX8_readWord_86 ?_
          refine r_ladd DX8_readWord_87 ?_
          refine r_ldc2 DX8_readWord_88 K_X8_210 ?_
          refine r_lsub DX8_readWord_91 ?_
          refine r_put (ty := .long) DX8_readWord_92 F_X8_193 Fp_8_17 e_44 rfl rfl (Nat.le_of_ble_eq_true rfl) p_44_17 ?_
          refine r_aload_n DX8_readWord_95 (i := 0) rfl rfl ?_
          refine r_dup DX8_readWord_96 rfl ?_
          refine r_get (v := .int (gI b 18)) DX8_readWord_97 F_X8_197 e_44 rfl ?_
          refine r_iconst DX8_readWord_100 (v := 1) (by decide) ?_
          refine r_iadd DX8_readWord_101 ?_
          refine r_put (ty := .int) DX8_readWord_102 F_X8_197 Fp_8_18 e_44 rfl rfl (Nat.le_of_ble_eq_true rfl) p_44_18 ?_
          refine r_goto DX8_readWord_105 (tgt := 18) (by decide) ?_
          exact ih _ _ e K0
        · replace e := x_iff c59 e
          refine r_ldc2 DX8_readWord_63 K_X8_206 ?_
          refine r_goto DX8_readWord_66 (tgt := 92) (by decide) ?_
          refine r_put (ty := .long) DX8_readWord_92 F_X8_193 Fp_8_17 e_44 rfl rfl (Nat.le_of_ble_eq_true rfl) p_44_17 ?_
          refine r_aload_n DX8_readWord_95 (i := 0) rfl rfl ?_
          refine r_dup DX8_readWord_96 rfl ?_
          refine r_get (v := .int (gI b 18)) DX8_readWord_97 F_X8_197 e_44 rfl ?_
          refine r_iconst DX8_readWord_100 (v := 1) (by decide) ?_
          refine r_iadd DX8_readWord_101 ?_
          refine r_put (ty := .int) DX8_readWord_102 F_X8_197 Fp_8_18 e_44 rfl rfl (Nat.le_of_ble_eq_true rfl) p_44_18 ?_
          refine r_goto DX8_readWord_105 (tgt := 18) (by decide) ?_
          exact ih _ _ e K0

set_option maxRecDepth 100000 in
set_option maxHeartbeats 4000000 in
theorem t_X8_readWord {l : Launch} {g : xG} {a : xT} (N : Nat) (b : xT)  {r : xT} (e : f_X8_readWord N b = some r) : Ev l g 1 yX8_readWord M_X8_readWord [.ref (xa g 44)] (a, b) (none, (a, r)) := by
  unfold f_X8_readWord at e
  refine Ev.of 1 (L0 := [some (.ref (xa g 44)), none]) (by decide) rfl (Nat.le_of_ble_eq_true rfl) rfl ?_
  refine r_aload_n DX8_readWord_0 (i := 0) rfl rfl ?_
  obtain ⟨q1, e1, e⟩ := x_bnd e
  refine r_callV1 (As := []) (S := []) DX8_readWord_1 C_X8_189 (ci := 8) rfl rfl e_44 (by decide) (by decide) (Nat.le_of_ble_eq_true rfl) (t_X8_here N b e1) rfl ?_
  refine r_istore_n (L' := [some (.ref (xa g 44)), some (.int q1.1)]) DX8_readWord_4 (i := 1) rfl (by decide) rfl rfl ?_
  refine r_aload_n DX8_readWord_5 (i := 0) rfl rfl ?_
  refine r_lconst DX8_readWord_6 (v := 0) (by decide) ?_
  refine r_put (ty := .long) DX8_readWord_7 F_X8_193 Fp_8_17 e_44 rfl rfl (Nat.le_of_ble_eq_true rfl) p_44_17 ?_
  refine r_aload_n DX8_readWord_10 (i := 0) rfl rfl ?_
  refine r_aload_n DX8_readWord_11 (i := 0) rfl rfl ?_
  refine r_get (v := .int (gI q1.2 16)) DX8_readWord_12 F_X8_186 e_44 rfl ?_
  refine r_put (ty := .int) DX8_readWord_15 F_X8_197 Fp_8_18 e_44 rfl rfl (Nat.le_of_ble_eq_true rfl) p_44_18 ?_
  obtain ⟨q18, e18, e⟩ := x_bnd e
  refine r_mask (L' := [some (.ref (xa g 44)), none]) [true, false] rfl ?_
  refine lp_X8_readWord_L18  N (sI (sJ q1.2 17 0) 18 (gI q1.2 16)) q18 e18 ?_
  obtain rfl := Option.some.inj e
  exact r_vret DX8_readWord_108 rfl rfl

set_option maxRecDepth 100000 in
set_option maxHeartbeats 4000000 in
theorem t_X8_step {l : Launch} {g : xG} {a : xT} (v1 : Int32) (v2 : Int32) (b : xT)  {r : xT} (e : f_X8_step v1 v2 b = some r) : Ev l g 0 yX8_step M_X8_step [.ref (xa g 44), .int v1, .int v2] (a, b) (none, (a, r)) := by
  unfold f_X8_step at e
  refine Ev.of 0 (L0 := [some (.ref (xa g 44)), some (.int v1), some (.int v2)]) (by decide) rfl (Nat.le_of_ble_eq_true rfl) rfl ?_
  refine r_aload_n DX8_step_0 (i := 0) rfl rfl ?_
  refine r_get (v := .ref (xa g 53)) DX8_step_1 F_X8_44 e_44 rfl ?_
  refine r_aload_n DX8_step_4 (i := 0) rfl rfl ?_
  refine r_get (v := .int (gI b 20)) DX8_step_5 F_X8_222 e_44 rfl ?_
  refine r_iload_n DX8_step_8 (i := 1) rfl rfl ?_
  obtain ⟨c9, e⟩ := x_grd e
  refine r_iast (f := (gA b 53)) DX8_step_9 e_53 rfl c9 p_53 ?_
  refine r_aload_n DX8_step_10 (i := 0) rfl rfl ?_
  refine r_get (v := .ref (xa g 54)) DX8_step_11 F_X8_47 e_44 rfl ?_
  refine r_aload_n DX8_step_14 (i := 0) rfl rfl ?_
  refine r_get (v := .int (gI b 20)) DX8_step_15 F_X8_222 e_44 rfl ?_
  refine r_iload_n DX8_step_18 (i := 2) rfl rfl ?_
  obtain ⟨c19, e⟩ := x_grd e
  refine r_iast (f := (gA b 54)) DX8_step_19 e_54 rfl c19 p_54 ?_
  refine r_aload_n DX8_step_20 (i := 0) rfl rfl ?_
  refine r_dup DX8_step_21 rfl ?_
  refine r_get (v := .int (gI b 20)) DX8_step_22 F_X8_222 e_44 rfl ?_
  refine r_iconst DX8_step_25 (v := 1) (by decide) ?_
  refine r_iadd DX8_step_26 ?_
  refine r_put (ty := .int) DX8_step_27 F_X8_222 Fp_8_20 e_44 rfl rfl (Nat.le_of_ble_eq_true rfl) p_44_20 ?_
  obtain rfl := Option.some.inj e
  exact r_vret DX8_step_30 rfl rfl

set_option maxRecDepth 100000 in
set_option maxHeartbeats 4000000 in
theorem lp_X8_work_L0 {l : Launch} {g : xG} {a : xT} {R : Option Value × xS} (v1 : Int32) : ∀ (n : Nat) (b : xT) (r : (xT)), f_X8_work_L0 v1 n b = some r → Rx l g 1 M_X8_work 64 [none, none] [] (a, r) R → Rx l g 1 M_X8_work 0 [some (.ref (xa g 44)), some (.int v1)] [] (a, b) R := by
  intro n
  induction n with
  | zero => intro s_ r_ e; cases e
  | succ n ih =>
    intro b r e K0
    rw [f_X8_work_L0] at e
    refine r_aload_n DX8_work_0 (i := 0) rfl rfl ?_
    refine r_get (v := .int (gI b 23)) DX8_work_1 F_X8_225 e_44 rfl ?_
    refine r_if_le DX8_work_4 (tgt := 64) (by decide) (fun c4 => ?_) (fun c4 => ?_)
    · replace e := x_ift c4 e
      obtain rfl := Option.some.inj e
      refine r_mask (L' := [none, none]) [false, false] rfl ?_
      exact K0
    · replace e := x_iff c4 e
      refine r_aload_n DX8_work_7 (i := 0) rfl rfl ?_
      refine r_get (v := .ref (xa g 55)) DX8_work_8 F_X8_50 e_44 rfl ?_
      refine r_aload_n DX8_work_11 (i := 0) rfl rfl ?_
      refine r_get (v := .int (gI b 23)) DX8_work_12 F_X8_225 e_44 rfl ?_
      refine r_iconst DX8_work_15 (v := 1) (by decide) ?_
      refine r_isub DX8_work_16 ?_
      obtain ⟨c17, e⟩ := x_grd e
      refine r_iald (f := (gA b 55)) DX8_work_17 e_55 rfl c17 ?_
      refine r_iconst DX8_work_18 (v := 3) (by decide) ?_
      refine r_icmp_eq DX8_work_19 (tgt := 64) (by decide) (fun c19 => ?_) (fun c19 => ?_)
      · replace e := x_ift c19 e
        obtain rfl := Option.some.inj e
        refine r_mask (L' := [none, none]) [false, false] rfl ?_
        exact K0
      · replace e := x_iff c19 e
        refine r_aload_n DX8_work_22 (i := 0) rfl rfl ?_
        refine r_get (v := .ref (xa g 55)) DX8_work_23 F_X8_50 e_44 rfl ?_
        refine r_aload_n DX8_work_26 (i := 0) rfl rfl ?_
        refine r_get (v := .int (gI b 23)) DX8_work_27 F_X8_225 e_44 rfl ?_
        refine r_iconst DX8_work_30 (v := 1) (by decide) ?_
        refine r_isub DX8_work_31 ?_
        obtain ⟨c32, e⟩ := x_grd e
        refine r_iald (f := (gA b 55)) DX8_work_32 e_55 rfl c32 ?_
        refine r_iload_n DX8_work_33 (i := 1) rfl rfl ?_
        refine r_icmp_lt DX8_work_34 (tgt := 64) (by decide) (fun c34 => ?_) (fun c34 => ?_)
        · replace e := x_ift c34 e
          obtain rfl := Option.some.inj e
          refine r_mask (L' := [none, none]) [false, false] rfl ?_
          exact K0
        · replace e := x_iff c34 e
          refine r_aload_n DX8_work_37 (i := 0) rfl rfl ?_
          refine r_dup DX8_work_38 rfl ?_
          refine r_get (v := .int (gI b 23)) DX8_work_39 F_X8_225 e_44 rfl ?_
          refine r_iconst DX8_work_42 (v := 1) (by decide) ?_
          refine r_isub DX8_work_43 ?_
          refine r_put (ty := .int) DX8_work_44 F_X8_225 Fp_8_23 e_44 rfl rfl (Nat.le_of_ble_eq_true rfl) p_44_23 ?_
          refine r_aload_n DX8_work_47 (i := 0) rfl rfl ?_
          refine r_aload_n DX8_work_48 (i := 0) rfl rfl ?_
          refine r_get (v := .ref (xa g 55)) DX8_work_49 F_X8_50 e_44 rfl ?_
          refine r_aload_n DX8_work_52 (i := 0) rfl rfl ?_
          refine r_get (v := .int ((gI b 23) - 1)) DX8_work_53 F_X8_225 e_44 rfl ?_
          obtain ⟨c56, e⟩ := x_grd e
          refine r_iald (f := (gA b 55)) DX8_work_56 e_55 rfl c56 ?_
          refine r_iconst DX8_work_57 (v := 0) (by decide) ?_
          obtain ⟨q58, e58, e⟩ := x_bnd e
          refine r_callV0 (As := [.int ((gA b 55) (Int32.toNatClampNeg ((gI b 23) - 1))), .int 0]) (S := []) DX8_work_58 C_X8_228 (ci := 8) rfl rfl e_44 (by decide) (by decide) (Nat.le_of_ble_eq_true rfl) (t_X8_step ((gA b 55) (Int32.toNatClampNeg ((gI b 23) - 1))) 0 (sI b 23 ((gI b 23) - 1)) e58) rfl ?_
          refine r_goto DX8_work_61 (tgt := 0) (by decide) ?_
          exact ih _ _ e K0

set_option maxRecDepth 100000 in
set_option maxHeartbeats 4000000 in
theorem t_X8_work {l : Launch} {g : xG} {a : xT} (N : Nat) (v1 : Int32) (b : xT)  {r : xT} (e : f_X8_work N v1 b = some r) : Ev l g 1 yX8_work M_X8_work [.ref (xa g 44), .int v1] (a, b) (none, (a, r)) := by
  unfold f_X8_work at e
  refine Ev.of 0 (L0 := [some (.ref (xa g 44)), some (.int v1)]) (by decide) rfl (Nat.le_of_ble_eq_true rfl) rfl ?_
  obtain ⟨q0, e0, e⟩ := x_bnd e
  refine lp_X8_work_L0 v1 N b q0 e0 ?_
  obtain rfl := Option.some.inj e
  exact r_vret DX8_work_64 rfl rfl

set_option maxRecDepth 100000 in
set_option maxHeartbeats 4000000 in
theorem t_X8_readBehind {l : Launch} {g : xG} {a : xT} (N : Nat) (b : xT)  {r : (Int32 × xT)} (e : f_X8_readBehind N b = some r) : Ev l g 2 yX8_readBehind M_X8_readBehind [.ref (xa g 44)] (a, b) (some (.int r.1), (a, r.2)) := by
  unfold f_X8_readBehind at e
  refine Ev.of 1 (L0 := [some (.ref (xa g 44)), none]) (by decide) rfl (Nat.le_of_ble_eq_true rfl) rfl ?_
  refine r_aload_n DX8_readBehind_0 (i := 0) rfl rfl ?_
  obtain ⟨q1, e1, e⟩ := x_bnd e
  refine r_callV0 (As := []) (S := []) DX8_readBehind_1 C_X8_234 (ci := 8) rfl rfl e_44 (by decide) (by decide) (Nat.le_of_ble_eq_true rfl) (t_X8_readWord N b e1) rfl ?_
  refine r_aload_n DX8_readBehind_4 (i := 0) rfl rfl ?_
  refine r_get (v := .long (gJ q1 17)) DX8_readBehind_5 F_X8_193 e_44 rfl ?_
  refine r_bipush DX8_readBehind_8 (v := 97) (by decide) ?_
  refine r_bipush DX8_readBehind_10 (v := 110) (by decide) ?_
  refine r_bipush DX8_readBehind_12 (v := 100) (by decide) ?_
  refine r_iconst DX8_readBehind_14 (v := 0) (by decide) ?_
  refine r_iconst DX8_readBehind_15 (v := 0) (by decide) ?_
  obtain ⟨q16, e16, e⟩ := x_bnd e
  refine r_callS1 (As := [.int 97, .int 110, .int 100, .int 0, .int 0]) (S := [.long (gJ q1 17)]) DX8_readBehind_16 C_X8_237 (by decide) (by decide) (Nat.le_of_ble_eq_true rfl) (t_X8_code 97 110 100 0 0 e16) rfl ?_
  refine r_lcmp_ne DX8_readBehind_19 DX8_readBehind_20 (tgt := 27) (by decide) (fun c19 => ?_) (fun c19 => ?_)
  · replace e := x_iff c19 e
    refine r_iconst DX8_readBehind_27 (v := 0) (by decide) ?_
    refine r_istore_n (L' := [some (.ref (xa g 44)), some (.int 0)]) DX8_readBehind_28 (i := 1) rfl (by decide) rfl rfl ?_
    refine r_iload_n DX8_readBehind_29 (i := 1) rfl rfl ?_
    refine r_if_ne DX8_readBehind_30 (tgt := 51) (by decide) (fun c => absurd rfl c) (fun _ => ?_)
    refine r_aload_n DX8_readBehind_33 (i := 0) rfl rfl ?_
    refine r_get (v := .long (gJ q1 17)) DX8_readBehind_34 F_X8_193 e_44 rfl ?_
    refine r_bipush DX8_readBehind_37 (v := 111) (by decide) ?_
    refine r_bipush DX8_readBehind_39 (v := 114) (by decide) ?_
    refine r_iconst DX8_readBehind_41 (v := 0) (by decide) ?_
    refine r_iconst DX8_readBehind_42 (v := 0) (by decide) ?_
    refine r_iconst DX8_readBehind_43 (v := 0) (by decide) ?_
    obtain ⟨q44, e44, e⟩ := x_bnd e
    refine r_callS1 (As := [.int 111, .int 114, .int 0, .int 0, .int 0]) (S := [.long (gJ q1 17)]) DX8_readBehind_44 C_X8_237 (by decide) (by decide) (Nat.le_of_ble_eq_true rfl) (t_X8_code 111 114 0 0 0 e44) rfl ?_
    refine r_lcmp_ne DX8_readBehind_47 DX8_readBehind_48 (tgt := 92) (by decide) (fun c47 => ?_) (fun c47 => ?_)
    · replace e := x_iff c47 e
      refine r_aload_n DX8_readBehind_92 (i := 0) rfl rfl ?_
      obtain ⟨q93, e93, e⟩ := x_bnd e
      refine r_callV1 (As := []) (S := []) DX8_readBehind_93 C_X8_189 (ci := 8) rfl rfl e_44 (by decide) (by decide) (Nat.le_of_ble_eq_true rfl) (t_X8_here N q1 e93) rfl ?_
      refine r_bipush DX8_readBehind_96 (v := 41) (by decide) ?_
      refine r_icmp_ne DX8_readBehind_98 (tgt := 150) (by decide) (fun c98 => ?_) (fun c98 => ?_)
      · replace e := x_iff c98 e
        refine r_aload_n DX8_readBehind_150 (i := 0) rfl rfl ?_
        refine r_iconst DX8_readBehind_151 (v := 1) (by decide) ?_
        refine r_aload_n DX8_readBehind_152 (i := 0) rfl rfl ?_
        refine r_get (v := .int (gI q93.2 16)) DX8_readBehind_153 F_X8_186 e_44 rfl ?_
        obtain ⟨q156, e156, e⟩ := x_bnd e
        refine r_callV1 (As := [.int 1, .int (gI q93.2 16)]) (S := []) DX8_readBehind_156 C_X8_216 (ci := 8) rfl rfl e_44 (by decide) (by decide) (Nat.le_of_ble_eq_true rfl) (t_X8_fails 1 (gI q93.2 16) q93.2 e156) rfl ?_
        obtain rfl := Option.some.inj e
        exact r_iret DX8_readBehind_159 rfl rfl
      · replace e := x_ift c98 e
        refine r_aload_n DX8_readBehind_101 (i := 0) rfl rfl ?_
        refine r_get (v := .int (gI q93.2 25)) DX8_readBehind_102 F_X8_254 e_44 rfl ?_
        refine r_if_le DX8_readBehind_105 (tgt := 150) (by decide) (fun c105 => ?_) (fun c105 => ?_)
        · replace e := x_ift c105 e
          refine r_aload_n DX8_readBehind_150 (i := 0) rfl rfl ?_
          refine r_iconst DX8_readBehind_151 (v := 1) (by decide) ?_
          refine r_aload_n DX8_readBehind_152 (i := 0) rfl rfl ?_
          refine r_get (v := .int (gI q93.2 16)) DX8_readBehind_153 F_X8_186 e_44 rfl ?_
          obtain ⟨q156, e156, e⟩ := x_bnd e
          refine r_callV1 (As := [.int 1, .int (gI q93.2 16)]) (S := []) DX8_readBehind_156 C_X8_216 (ci := 8) rfl rfl e_44 (by decide) (by decide) (Nat.le_of_ble_eq_true rfl) (t_X8_fails 1 (gI q93.2 16) q93.2 e156) rfl ?_
          obtain rfl := Option.some.inj e
          exact r_iret DX8_readBehind_159 rfl rfl
        · replace e := x_iff c105 e
          refine r_aload_n DX8_readBehind_108 (i := 0) rfl rfl ?_
          refine r_dup DX8_readBehind_109 rfl ?_
          refine r_get (v := .int (gI q93.2 16)) DX8_readBehind_110 F_X8_186 e_44 rfl ?_
          refine r_iconst DX8_readBehind_113 (v := 1) (by decide) ?_
          refine r_iadd DX8_readBehind_114 ?_
          refine r_put (ty := .int) DX8_readBehind_115 F_X8_186 Fp_8_16 e_44 rfl rfl (Nat.le_of_ble_eq_true rfl) p_44_16 ?_
          refine r_aload_n DX8_readBehind_118 (i := 0) rfl rfl ?_
          refine r_dup DX8_readBehind_119 rfl ?_
          refine r_get (v := .int (gI q93.2 25)) DX8_readBehind_120 F_X8_254 e_44 rfl ?_
          refine r_iconst DX8_readBehind_123 (v := 1) (by decide) ?_
          refine r_isub DX8_readBehind_124 ?_
          refine r_put (ty := .int) DX8_readBehind_125 F_X8_254 Fp_8_25 e_44 rfl rfl (Nat.le_of_ble_eq_true rfl) p_44_25 ?_
          refine r_aload_n DX8_readBehind_128 (i := 0) rfl rfl ?_
          refine r_iconst DX8_readBehind_129 (v := 0) (by decide) ?_
          obtain ⟨q130, e130, e⟩ := x_bnd e
          refine r_callV0 (As := [.int 0]) (S := []) DX8_readBehind_130 C_X8_244 (ci := 8) rfl rfl e_44 (by decide) (by decide) (Nat.le_of_ble_eq_true rfl) (t_X8_work N 0 (sI (sI q93.2 16 ((gI q93.2 16) + 1)) 25 ((gI q93.2 25) - 1)) e130) rfl ?_
          refine r_aload_n DX8_readBehind_133 (i := 0) rfl rfl ?_
          refine r_dup DX8_readBehind_134 rfl ?_
          refine r_get (v := .int (gI q130 23)) DX8_readBehind_135 F_X8_225 e_44 rfl ?_
          refine r_iconst DX8_readBehind_138 (v := 1) (by decide) ?_
          refine r_isub DX8_readBehind_139 ?_
          refine r_put (ty := .int) DX8_readBehind_140 F_X8_225 Fp_8_23 e_44 rfl rfl (Nat.le_of_ble_eq_true rfl) p_44_23 ?_
          refine r_aload_n DX8_readBehind_143 (i := 0) rfl rfl ?_
          refine r_iconst DX8_readBehind_144 (v := 2) (by decide) ?_
          obtain ⟨q145, e145, e⟩ := x_bnd e
          refine r_callV0 (As := [.int 2]) (S := []) DX8_readBehind_145 C_X8_244 (ci := 8) rfl rfl e_44 (by decide) (by decide) (Nat.le_of_ble_eq_true rfl) (t_X8_work N 2 (sI q130 23 ((gI q130 23) - 1)) e145) rfl ?_
          refine r_iconst DX8_readBehind_148 (v := 0) (by decide) ?_
          obtain rfl := Option.some.inj e
          exact r_iret DX8_readBehind_149 rfl rfl
    · replace e := x_ift c47 e
      refine r_aload_n DX8_readBehind_51 (i := 0) rfl rfl ?_
      refine r_aload_n DX8_readBehind_52 (i := 0) rfl rfl ?_
      refine r_get (v := .int (gI q1 18)) DX8_readBehind_53 F_X8_197 e_44 rfl ?_
      refine r_put (ty := .int) DX8_readBehind_56 F_X8_186 Fp_8_16 e_44 rfl rfl (Nat.le_of_ble_eq_true rfl) p_44_16 ?_
      refine r_aload_n DX8_readBehind_59 (i := 0) rfl rfl ?_
      refine r_iload_n DX8_readBehind_60 (i := 1) rfl rfl ?_
      refine r_if_eq DX8_readBehind_61 (tgt := 68) (by decide) (fun _ => ?_) (fun c => absurd (by decide) c)
      refine r_iconst DX8_readBehind_68 (v := 0) (by decide) ?_
      obtain ⟨q69, e69, e⟩ := x_bnd e
      refine r_callV0 (As := [.int 0]) (S := []) DX8_readBehind_69 C_X8_244 (ci := 8) rfl rfl e_44 (by decide) (by decide) (Nat.le_of_ble_eq_true rfl) (t_X8_work N 0 (sI q1 16 (gI q1 18)) e69) rfl ?_
      refine r_aload_n DX8_readBehind_72 (i := 0) rfl rfl ?_
      refine r_iload_n DX8_readBehind_73 (i := 1) rfl rfl ?_
      refine r_if_eq DX8_readBehind_74 (tgt := 81) (by decide) (fun _ => ?_) (fun c => absurd (by decide) c)
      refine r_iconst DX8_readBehind_81 (v := 0) (by decide) ?_
      obtain ⟨q82, e82, e⟩ := x_bnd e
      refine r_callV0 (As := [.int 0]) (S := []) DX8_readBehind_82 C_X8_251 (ci := 8) rfl rfl e_44 (by decide) (by decide) (Nat.le_of_ble_eq_true rfl) (t_X8_hold 0 q69 e82) rfl ?_
      refine r_aload_n DX8_readBehind_85 (i := 0) rfl rfl ?_
      refine r_iconst DX8_readBehind_86 (v := 1) (by decide) ?_
      refine r_put (ty := .boolean) DX8_readBehind_87 F_X8_247 Fp_8_26 e_44 (by decide) (by decide) (Nat.le_of_ble_eq_true rfl) p_44_26 ?_
      refine r_iconst DX8_readBehind_90 (v := 0) (by decide) ?_
      obtain rfl := Option.some.inj e
      exact r_iret DX8_readBehind_91 rfl rfl
  · replace e := x_ift c19 e
    refine r_iconst DX8_readBehind_23 (v := 1) (by decide) ?_
    refine r_goto DX8_readBehind_24 (tgt := 28) (by decide) ?_
    refine r_istore_n (L' := [some (.ref (xa g 44)), some (.int 1)]) DX8_readBehind_28 (i := 1) rfl (by decide) rfl rfl ?_
    refine r_iload_n DX8_readBehind_29 (i := 1) rfl rfl ?_
    refine r_if_ne DX8_readBehind_30 (tgt := 51) (by decide) (fun _ => ?_) (fun c => absurd c (by decide))
    refine r_aload_n DX8_readBehind_51 (i := 0) rfl rfl ?_
    refine r_aload_n DX8_readBehind_52 (i := 0) rfl rfl ?_
    refine r_get (v := .int (gI q1 18)) DX8_readBehind_53 F_X8_197 e_44 rfl ?_
    refine r_put (ty := .int) DX8_readBehind_56 F_X8_186 Fp_8_16 e_44 rfl rfl (Nat.le_of_ble_eq_true rfl) p_44_16 ?_
    refine r_aload_n DX8_readBehind_59 (i := 0) rfl rfl ?_
    refine r_iload_n DX8_readBehind_60 (i := 1) rfl rfl ?_
    refine r_if_eq DX8_readBehind_61 (tgt := 68) (by decide) (fun c => absurd c (by decide)) (fun _ => ?_)
    refine r_iconst DX8_readBehind_64 (v := 1) (by decide) ?_
    refine r_goto DX8_readBehind_65 (tgt := 69) (by decide) ?_
    obtain ⟨q69, e69, e⟩ := x_bnd e
    refine r_callV0 (As := [.int 1]) (S := []) DX8_readBehind_69 C_X8_244 (ci := 8) rfl rfl e_44 (by decide) (by decide) (Nat.le_of_ble_eq_true rfl) (t_X8_work N 1 (sI q1 16 (gI q1 18)) e69) rfl ?_
    refine r_aload_n DX8_readBehind_72 (i := 0) rfl rfl ?_
    refine r_iload_n DX8_readBehind_73 (i := 1) rfl rfl ?_
    refine r_if_eq DX8_readBehind_74 (tgt := 81) (by decide) (fun c => absurd c (by decide)) (fun _ => ?_)
    refine r_iconst DX8_readBehind_77 (v := 1) (by decide) ?_
    refine r_goto DX8_readBehind_78 (tgt := 82) (by decide) ?_
    obtain ⟨q82, e82, e⟩ := x_bnd e
    refine r_callV0 (As := [.int 1]) (S := []) DX8_readBehind_82 C_X8_251 (ci := 8) rfl rfl e_44 (by decide) (by decide) (Nat.le_of_ble_eq_true rfl) (t_X8_hold 1 q69 e82) rfl ?_
    refine r_aload_n DX8_readBehind_85 (i := 0) rfl rfl ?_
    refine r_iconst DX8_readBehind_86 (v := 1) (by decide) ?_
    refine r_put (ty := .boolean) DX8_readBehind_87 F_X8_247 Fp_8_26 e_44 (by decide) (by decide) (Nat.le_of_ble_eq_true rfl) p_44_26 ?_
    refine r_iconst DX8_readBehind_90 (v := 0) (by decide) ?_
    obtain rfl := Option.some.inj e
    exact r_iret DX8_readBehind_91 rfl rfl

set_option maxRecDepth 100000 in
set_option maxHeartbeats 4000000 in
theorem lp_X8_readNumber_L40 {l : Launch} {g : xG} {a : xT} {R : Option Value × xS} (v1 : Int32) (v2 : Int32) (v4 : Int32) : ∀ (n : Nat) (b : xT) (r : (xT)), f_X8_readNumber_L40 v1 v2 v4 n b = some r → Rx l g 1 M_X8_readNumber 127 [some (.ref (xa g 44)), some (.int v1), some (.int v2), none, some (.int v4)] [] (a, r) R → Rx l g 1 M_X8_readNumber 40 [some (.ref (xa g 44)), some (.int v1), some (.int v2), none, some (.int v4)] [] (a, b) R := by
  intro n
  induction n with
  | zero => intro s_ r_ e; cases e
  | succ n ih =>
    intro b r e K0
    rw [f_X8_readNumber_L40] at e
    refine r_aload_n DX8_readNumber_40 (i := 0) rfl rfl ?_
    refine r_get (v := .int (gI b 16)) DX8_readNumber_41 F_X8_186 e_44 rfl ?_
    refine r_aload_n DX8_readNumber_44 (i := 0) rfl rfl ?_
    refine r_get (v := .int (gI b 14)) DX8_readNumber_45 F_X8_181 e_44 rfl ?_
    refine r_icmp_ge DX8_readNumber_48 (tgt := 127) (by decide) (fun c48 => ?_) (fun c48 => ?_)
    · replace e := x_ift c48 e
      obtain rfl := Option.some.inj e
      exact K0
    · replace e := x_iff c48 e
      refine r_aload_n DX8_readNumber_51 (i := 0) rfl rfl ?_
      refine r_get (v := .ref (xa g 52)) DX8_readNumber_52 F_X8_38 e_44 rfl ?_
      refine r_aload_n DX8_readNumber_55 (i := 0) rfl rfl ?_
      refine r_get (v := .int (gI b 16)) DX8_readNumber_56 F_X8_186 e_44 rfl ?_
      obtain ⟨c59, e⟩ := x_grd e
      refine r_iald (f := (gA b 52)) DX8_readNumber_59 e_52 rfl c59 ?_
      refine r_i2l DX8_readNumber_60 ?_
      refine r_ldc2 DX8_readNumber_61 K_X8_212 ?_
      refine r_ldc2 DX8_readNumber_64 K_X8_214 ?_
      obtain ⟨q67, e67, e⟩ := x_bnd e
      refine r_callS1 (As := [.long (Int32.toInt64 ((gA b 52) (Int32.toNatClampNeg (gI b 16)))), .long 48, .long 57]) (S := []) DX8_readNumber_67 C_X8_70 (by decide) (by decide) (Nat.le_of_ble_eq_true rfl) (t_X8_in (Int32.toInt64 ((gA b 52) (Int32.toNatClampNeg (gI b 16)))) 48 57 e67) rfl ?_
      refine r_if_eq DX8_readNumber_70 (tgt := 127) (by decide) (fun c70 => ?_) (fun c70 => ?_)
      · replace e := x_ift c70 e
        obtain rfl := Option.some.inj e
        exact K0
      · replace e := x_iff c70 e
        refine r_aload_n DX8_readNumber_73 (i := 0) rfl rfl ?_
        refine r_aload_n DX8_readNumber_74 (i := 0) rfl rfl ?_
        refine r_get (v := .int (gI b 19)) DX8_readNumber_75 F_X8_219 e_44 rfl ?_
        refine r_sipush DX8_readNumber_78 (v := 10000) (by decide) ?_
        refine r_icmp_le DX8_readNumber_81 (tgt := 91) (by decide) (fun c81 => ?_) (fun c81 => ?_)
        · replace e := x_ift c81 e
          refine r_bipush DX8_readNumber_91 (v := 10) (by decide) ?_
          refine r_aload_n DX8_readNumber_93 (i := 0) rfl rfl ?_
          refine r_get (v := .int (gI b 19)) DX8_readNumber_94 F_X8_219 e_44 rfl ?_
          refine r_imul DX8_readNumber_97 ?_
          refine r_aload_n DX8_readNumber_98 (i := 0) rfl rfl ?_
          refine r_get (v := .ref (xa g 52)) DX8_readNumber_99 F_X8_38 e_44 rfl ?_
          refine r_aload_n DX8_readNumber_102 (i := 0) rfl rfl ?_
          refine r_get (v := .int (gI b 16)) DX8_readNumber_103 F_X8_186 e_44 rfl ?_
          obtain ⟨c106, e⟩ := x_grd e
          refine r_iald (f := (gA b 52)) DX8_readNumber_106 e_52 rfl c106 ?_
          refine r_iadd DX8_readNumber_107 ?_
          refine r_bipush DX8_readNumber_108 (v := 48) (by decide) ?_
          refine r_isub DX8_readNumber_110 ?_
          refine r_put (ty := .int) DX8_readNumber_111 F_X8_219 Fp_8_19 e_44 rfl rfl (Nat.le_of_ble_eq_true rfl) p_44_19 ?_
          refine r_aload_n DX8_readNumber_114 (i := 0) rfl rfl ?_
          refine r_dup DX8_readNumber_115 rfl ?_
          refine r_get (v := .int (gI b 16)) DX8_readNumber_116 F_X8_186 e_44 rfl ?_
          refine r_iconst DX8_readNumber_119 (v := 1) (by decide) ?_
          refine r_iadd DX8_readNumber_120 ?_
          refine r_put (ty := .int) DX8_readNumber_121 F_X8_186 Fp_8_16 e_44 rfl rfl (Nat.le_of_ble_eq_true rfl) p_44_16 ?_
          refine r_goto DX8_readNumber_124 (tgt := 40) (by decide) ?_
          exact ih _ _ e K0
        · replace e := x_iff c81 e
          refine r_aload_n DX8_readNumber_84 (i := 0) rfl rfl ?_
          refine r_get (v := .int (gI b 19)) DX8_readNumber_85 F_X8_219 e_44 rfl ?_
          refine r_goto DX8_readNumber_88 (tgt := 111) (by decide) ?_
          refine r_put (ty := .int) DX8_readNumber_111 F_X8_219 Fp_8_19 e_44 rfl rfl (Nat.le_of_ble_eq_true rfl) p_44_19 ?_
          refine r_aload_n DX8_readNumber_114 (i := 0) rfl rfl ?_
          refine r_dup DX8_readNumber_115 rfl ?_
          refine r_get (v := .int (gI b 16)) DX8_readNumber_116 F_X8_186 e_44 rfl ?_
          refine r_iconst DX8_readNumber_119 (v := 1) (by decide) ?_
          refine r_iadd DX8_readNumber_120 ?_
          refine r_put (ty := .int) DX8_readNumber_121 F_X8_186 Fp_8_16 e_44 rfl rfl (Nat.le_of_ble_eq_true rfl) p_44_16 ?_
          refine r_goto DX8_readNumber_124 (tgt := 40) (by decide) ?_
          exact ih _ _ e K0

set_option maxRecDepth 100000 in
set_option maxHeartbeats 4000000 in
theorem t_X8_readNumber {l : Launch} {g : xG} {a : xT} (N : Nat) (v1 : Int32) (v2 : Int32) (b : xT)  {r : (Int32 × xT)} (e : f_X8_readNumber N v1 v2 b = some r) : Ev l g 1 yX8_readNumber M_X8_readNumber [.ref (xa g 44), .int v1, .int v2] (a, b) (some (.int r.1), (a, r.2)) := by
  unfold f_X8_readNumber at e
  refine Ev.of 2 (L0 := [some (.ref (xa g 44)), some (.int v1), some (.int v2), none, none]) (by decide) rfl (Nat.le_of_ble_eq_true rfl) rfl ?_
  refine r_aload_n DX8_readNumber_0 (i := 0) rfl rfl ?_
  obtain ⟨q1, e1, e⟩ := x_bnd e
  refine r_callV1 (As := []) (S := []) DX8_readNumber_1 C_X8_189 (ci := 8) rfl rfl e_44 (by decide) (by decide) (Nat.le_of_ble_eq_true rfl) (t_X8_here N b e1) rfl ?_
  refine r_istore_n (L' := [some (.ref (xa g 44)), some (.int v1), some (.int v2), some (.int q1.1), none]) DX8_readNumber_4 (i := 3) rfl (by decide) rfl rfl ?_
  refine r_iload_n DX8_readNumber_5 (i := 3) rfl rfl ?_
  refine r_i2l DX8_readNumber_6 ?_
  refine r_ldc2 DX8_readNumber_7 K_X8_212 ?_
  refine r_ldc2 DX8_readNumber_10 K_X8_214 ?_
  obtain ⟨q13, e13, e⟩ := x_bnd e
  refine r_callS1 (As := [.long (Int32.toInt64 q1.1), .long 48, .long 57]) (S := []) DX8_readNumber_13 C_X8_70 (by decide) (by decide) (Nat.le_of_ble_eq_true rfl) (t_X8_in (Int32.toInt64 q1.1) 48 57 e13) rfl ?_
  refine r_if_ne DX8_readNumber_16 (tgt := 29) (by decide) (fun c16 => ?_) (fun c16 => ?_)
  · replace e := x_iff c16 e
    refine r_aload_n DX8_readNumber_29 (i := 0) rfl rfl ?_
    refine r_get (v := .int (gI q1.2 16)) DX8_readNumber_30 F_X8_186 e_44 rfl ?_
    refine r_istore (L' := [some (.ref (xa g 44)), some (.int v1), some (.int v2), some (.int q1.1), some (.int (gI q1.2 16))]) DX8_readNumber_33 (by decide) rfl rfl ?_
    refine r_aload_n DX8_readNumber_35 (i := 0) rfl rfl ?_
    refine r_iconst DX8_readNumber_36 (v := 0) (by decide) ?_
    refine r_put (ty := .int) DX8_readNumber_37 F_X8_219 Fp_8_19 e_44 rfl rfl (Nat.le_of_ble_eq_true rfl) p_44_19 ?_
    obtain ⟨q40, e40, e⟩ := x_bnd e
    refine r_mask (L' := [some (.ref (xa g 44)), some (.int v1), some (.int v2), none, some (.int (gI q1.2 16))]) [true, true, true, false, true] rfl ?_
    refine lp_X8_readNumber_L40 v1 v2 (gI q1.2 16) N (sI q1.2 19 0) q40 e40 ?_
    refine r_aload_n DX8_readNumber_127 (i := 0) rfl rfl ?_
    refine r_get (v := .int (gI q40 16)) DX8_readNumber_128 F_X8_186 e_44 rfl ?_
    refine r_iload DX8_readNumber_131 rfl ?_
    refine r_isub DX8_readNumber_133 ?_
    refine r_iconst DX8_readNumber_134 (v := 2) (by decide) ?_
    refine r_icmp_gt DX8_readNumber_135 (tgt := 153) (by decide) (fun c135 => ?_) (fun c135 => ?_)
    · replace e := x_ift c135 e
      refine r_aload_n DX8_readNumber_153 (i := 0) rfl rfl ?_
      refine r_iconst DX8_readNumber_154 (v := 2) (by decide) ?_
      refine r_iload DX8_readNumber_155 rfl ?_
      obtain ⟨q157, e157, e⟩ := x_bnd e
      refine r_callV1 (As := [.int 2, .int (gI q1.2 16)]) (S := []) DX8_readNumber_157 C_X8_216 (ci := 8) rfl rfl e_44 (by decide) (by decide) (Nat.le_of_ble_eq_true rfl) (t_X8_fails 2 (gI q1.2 16) q40 e157) rfl ?_
      refine r_goto DX8_readNumber_160 (tgt := 164) (by decide) ?_
      obtain rfl := Option.some.inj e
      exact r_iret DX8_readNumber_164 rfl rfl
    · replace e := x_iff c135 e
      refine r_aload_n DX8_readNumber_138 (i := 0) rfl rfl ?_
      refine r_get (v := .int (gI q40 19)) DX8_readNumber_139 F_X8_219 e_44 rfl ?_
      refine r_i2l DX8_readNumber_142 ?_
      refine r_iload_n DX8_readNumber_143 (i := 1) rfl rfl ?_
      refine r_i2l DX8_readNumber_144 ?_
      refine r_iload_n DX8_readNumber_145 (i := 2) rfl rfl ?_
      refine r_i2l DX8_readNumber_146 ?_
      obtain ⟨q147, e147, e⟩ := x_bnd e
      refine r_callS1 (As := [.long (Int32.toInt64 (gI q40 19)), .long (Int32.toInt64 v1), .long (Int32.toInt64 v2)]) (S := []) DX8_readNumber_147 C_X8_70 (by decide) (by decide) (Nat.le_of_ble_eq_true rfl) (t_X8_in (Int32.toInt64 (gI q40 19)) (Int32.toInt64 v1) (Int32.toInt64 v2) e147) rfl ?_
      refine r_if_ne DX8_readNumber_150 (tgt := 163) (by decide) (fun c150 => ?_) (fun c150 => ?_)
      · replace e := x_iff c150 e
        refine r_iconst DX8_readNumber_163 (v := 0) (by decide) ?_
        obtain rfl := Option.some.inj e
        exact r_iret DX8_readNumber_164 rfl rfl
      · replace e := x_ift c150 e
        refine r_aload_n DX8_readNumber_153 (i := 0) rfl rfl ?_
        refine r_iconst DX8_readNumber_154 (v := 2) (by decide) ?_
        refine r_iload DX8_readNumber_155 rfl ?_
        obtain ⟨q157, e157, e⟩ := x_bnd e
        refine r_callV1 (As := [.int 2, .int (gI q1.2 16)]) (S := []) DX8_readNumber_157 C_X8_216 (ci := 8) rfl rfl e_44 (by decide) (by decide) (Nat.le_of_ble_eq_true rfl) (t_X8_fails 2 (gI q1.2 16) q40 e157) rfl ?_
        refine r_goto DX8_readNumber_160 (tgt := 164) (by decide) ?_
        obtain rfl := Option.some.inj e
        exact r_iret DX8_readNumber_164 rfl rfl
  · replace e := x_ift c16 e
    refine r_aload_n DX8_readNumber_19 (i := 0) rfl rfl ?_
    refine r_iconst DX8_readNumber_20 (v := 1) (by decide) ?_
    refine r_aload_n DX8_readNumber_21 (i := 0) rfl rfl ?_
    refine r_get (v := .int (gI q1.2 16)) DX8_readNumber_22 F_X8_186 e_44 rfl ?_
    obtain ⟨q25, e25, e⟩ := x_bnd e
    refine r_callV1 (As := [.int 1, .int (gI q1.2 16)]) (S := []) DX8_readNumber_25 C_X8_216 (ci := 8) rfl rfl e_44 (by decide) (by decide) (Nat.le_of_ble_eq_true rfl) (t_X8_fails 1 (gI q1.2 16) q1.2 e25) rfl ?_
    obtain rfl := Option.some.inj e
    exact r_iret DX8_readNumber_28 rfl rfl

set_option maxRecDepth 100000 in
set_option maxHeartbeats 4000000 in
theorem t_X8_readSum {l : Launch} {g : xG} {a : xT} (N : Nat) (b : xT)  {r : (Int32 × xT)} (e : f_X8_readSum N b = some r) : Ev l g 2 yX8_readSum M_X8_readSum [.ref (xa g 44)] (a, b) (some (.int r.1), (a, r.2)) := by
  unfold f_X8_readSum at e
  refine Ev.of 2 (L0 := [some (.ref (xa g 44)), none, none]) (by decide) rfl (Nat.le_of_ble_eq_true rfl) rfl ?_
  refine r_aload_n DX8_readSum_0 (i := 0) rfl rfl ?_
  refine r_iconst DX8_readSum_1 (v := 0) (by decide) ?_
  refine r_bipush DX8_readSum_2 (v := 98) (by decide) ?_
  obtain ⟨q4, e4, e⟩ := x_bnd e
  refine r_callV1 (As := [.int 0, .int 98]) (S := []) DX8_readSum_4 C_X8_231 (ci := 8) rfl rfl e_44 (by decide) (by decide) (Nat.le_of_ble_eq_true rfl) (t_X8_readNumber N 0 98 b e4) rfl ?_
  refine r_istore_n (L' := [some (.ref (xa g 44)), some (.int q4.1), none]) DX8_readSum_7 (i := 1) rfl (by decide) rfl rfl ?_
  refine r_aload_n DX8_readSum_8 (i := 0) rfl rfl ?_
  refine r_get (v := .int (gI q4.2 19)) DX8_readSum_9 F_X8_219 e_44 rfl ?_
  refine r_istore_n (L' := [some (.ref (xa g 44)), some (.int q4.1), some (.int (gI q4.2 19))]) DX8_readSum_12 (i := 2) rfl (by decide) rfl rfl ?_
  refine r_iload_n DX8_readSum_13 (i := 1) rfl rfl ?_
  refine r_if_le DX8_readSum_14 (tgt := 19) (by decide) (fun c14 => ?_) (fun c14 => ?_)
  · replace e := x_ift c14 e
    refine r_aload_n DX8_readSum_19 (i := 0) rfl rfl ?_
    obtain ⟨q20, e20, e⟩ := x_bnd e
    refine r_callV0 (As := []) (S := []) DX8_readSum_20 C_X8_234 (ci := 8) rfl rfl e_44 (by decide) (by decide) (Nat.le_of_ble_eq_true rfl) (t_X8_readWord N q4.2 e20) rfl ?_
    refine r_aload_n DX8_readSum_23 (i := 0) rfl rfl ?_
    refine r_get (v := .long (gJ q20 17)) DX8_readSum_24 F_X8_193 e_44 rfl ?_
    refine r_bipush DX8_readSum_27 (v := 111) (by decide) ?_
    refine r_bipush DX8_readSum_29 (v := 102) (by decide) ?_
    refine r_iconst DX8_readSum_31 (v := 0) (by decide) ?_
    refine r_iconst DX8_readSum_32 (v := 0) (by decide) ?_
    refine r_iconst DX8_readSum_33 (v := 0) (by decide) ?_
    obtain ⟨q34, e34, e⟩ := x_bnd e
    refine r_callS1 (As := [.int 111, .int 102, .int 0, .int 0, .int 0]) (S := [.long (gJ q20 17)]) DX8_readSum_34 C_X8_237 (by decide) (by decide) (Nat.le_of_ble_eq_true rfl) (t_X8_code 111 102 0 0 0 e34) rfl ?_
    refine r_lcmp_eq DX8_readSum_37 DX8_readSum_38 (tgt := 51) (by decide) (fun c37 => ?_) (fun c37 => ?_)
    · replace e := x_ift c37 e
      refine r_aload_n DX8_readSum_51 (i := 0) rfl rfl ?_
      refine r_aload_n DX8_readSum_52 (i := 0) rfl rfl ?_
      refine r_get (v := .int (gI q20 18)) DX8_readSum_53 F_X8_197 e_44 rfl ?_
      refine r_put (ty := .int) DX8_readSum_56 F_X8_186 Fp_8_16 e_44 rfl rfl (Nat.le_of_ble_eq_true rfl) p_44_16 ?_
      refine r_aload_n DX8_readSum_59 (i := 0) rfl rfl ?_
      refine r_iconst DX8_readSum_60 (v := 1) (by decide) ?_
      refine r_bipush DX8_readSum_61 (v := 99) (by decide) ?_
      obtain ⟨q63, e63, e⟩ := x_bnd e
      refine r_callV1 (As := [.int 1, .int 99]) (S := []) DX8_readSum_63 C_X8_231 (ci := 8) rfl rfl e_44 (by decide) (by decide) (Nat.le_of_ble_eq_true rfl) (t_X8_readNumber N 1 99 (sI q20 16 (gI q20 18)) e63) rfl ?_
      refine r_istore_n (L' := [some (.ref (xa g 44)), some (.int q63.1), some (.int (gI q4.2 19))]) DX8_readSum_66 (i := 1) rfl (by decide) rfl rfl ?_
      refine r_aload_n DX8_readSum_67 (i := 0) rfl rfl ?_
      refine r_bipush DX8_readSum_68 (v := 100) (by decide) ?_
      refine r_iload_n DX8_readSum_70 (i := 2) rfl rfl ?_
      refine r_imul DX8_readSum_71 ?_
      refine r_aload_n DX8_readSum_72 (i := 0) rfl rfl ?_
      refine r_get (v := .int (gI q63.2 19)) DX8_readSum_73 F_X8_219 e_44 rfl ?_
      refine r_iadd DX8_readSum_76 ?_
      refine r_put (ty := .int) DX8_readSum_77 F_X8_219 Fp_8_19 e_44 rfl rfl (Nat.le_of_ble_eq_true rfl) p_44_19 ?_
      refine r_iload_n DX8_readSum_80 (i := 1) rfl rfl ?_
      obtain rfl := Option.some.inj e
      exact r_iret DX8_readSum_81 rfl rfl
    · replace e := x_iff c37 e
      refine r_aload_n DX8_readSum_41 (i := 0) rfl rfl ?_
      refine r_iconst DX8_readSum_42 (v := 1) (by decide) ?_
      refine r_aload_n DX8_readSum_43 (i := 0) rfl rfl ?_
      refine r_get (v := .int (gI q20 16)) DX8_readSum_44 F_X8_186 e_44 rfl ?_
      obtain ⟨q47, e47, e⟩ := x_bnd e
      refine r_callV1 (As := [.int 1, .int (gI q20 16)]) (S := []) DX8_readSum_47 C_X8_216 (ci := 8) rfl rfl e_44 (by decide) (by decide) (Nat.le_of_ble_eq_true rfl) (t_X8_fails 1 (gI q20 16) q20 e47) rfl ?_
      obtain rfl := Option.some.inj e
      exact r_iret DX8_readSum_50 rfl rfl
  · replace e := x_iff c14 e
    refine r_iload_n DX8_readSum_17 (i := 1) rfl rfl ?_
    obtain rfl := Option.some.inj e
    exact r_iret DX8_readSum_18 rfl rfl

set_option maxRecDepth 100000 in
set_option maxHeartbeats 4000000 in
theorem t_X8_readLeaf {l : Launch} {g : xG} {a : xT} (N : Nat) (b : xT)  {r : (Int32 × xT)} (e : f_X8_readLeaf N b = some r) : Ev l g 3 yX8_readLeaf M_X8_readLeaf [.ref (xa g 44)] (a, b) (some (.int r.1), (a, r.2)) := by
  unfold f_X8_readLeaf at e
  refine Ev.of 2 (L0 := [some (.ref (xa g 44)), none, none]) (by decide) rfl (Nat.le_of_ble_eq_true rfl) rfl ?_
  refine r_aload_n DX8_readLeaf_0 (i := 0) rfl rfl ?_
  refine r_get (v := .long (gJ b 17)) DX8_readLeaf_1 F_X8_193 e_44 rfl ?_
  refine r_bipush DX8_readLeaf_4 (v := 112) (by decide) ?_
  refine r_bipush DX8_readLeaf_6 (v := 105) (by decide) ?_
  refine r_bipush DX8_readLeaf_8 (v := 110) (by decide) ?_
  refine r_bipush DX8_readLeaf_10 (v := 115) (by decide) ?_
  refine r_iconst DX8_readLeaf_12 (v := 0) (by decide) ?_
  obtain ⟨q13, e13, e⟩ := x_bnd e
  refine r_callS1 (As := [.int 112, .int 105, .int 110, .int 115, .int 0]) (S := [.long (gJ b 17)]) DX8_readLeaf_13 C_X8_237 (by decide) (by decide) (Nat.le_of_ble_eq_true rfl) (t_X8_code 112 105 110 115 0 e13) rfl ?_
  refine r_lcmp_ne DX8_readLeaf_16 DX8_readLeaf_17 (tgt := 24) (by decide) (fun c16 => ?_) (fun c16 => ?_)
  · replace e := x_iff c16 e
    refine r_aload_n DX8_readLeaf_24 (i := 0) rfl rfl ?_
    refine r_get (v := .long (gJ b 17)) DX8_readLeaf_25 F_X8_193 e_44 rfl ?_
    refine r_bipush DX8_readLeaf_28 (v := 115) (by decide) ?_
    refine r_bipush DX8_readLeaf_30 (v := 117) (by decide) ?_
    refine r_bipush DX8_readLeaf_32 (v := 109) (by decide) ?_
    refine r_iconst DX8_readLeaf_34 (v := 0) (by decide) ?_
    refine r_iconst DX8_readLeaf_35 (v := 0) (by decide) ?_
    obtain ⟨q36, e36, e⟩ := x_bnd e
    refine r_callS1 (As := [.int 115, .int 117, .int 109, .int 0, .int 0]) (S := [.long (gJ b 17)]) DX8_readLeaf_36 C_X8_237 (by decide) (by decide) (Nat.le_of_ble_eq_true rfl) (t_X8_code 115 117 109 0 0 e36) rfl ?_
    refine r_lcmp_ne DX8_readLeaf_39 DX8_readLeaf_40 (tgt := 47) (by decide) (fun c39 => ?_) (fun c39 => ?_)
    · replace e := x_iff c39 e
      refine r_aload_n DX8_readLeaf_47 (i := 0) rfl rfl ?_
      refine r_get (v := .long (gJ b 17)) DX8_readLeaf_48 F_X8_193 e_44 rfl ?_
      refine r_bipush DX8_readLeaf_51 (v := 104) (by decide) ?_
      refine r_bipush DX8_readLeaf_53 (v := 97) (by decide) ?_
      refine r_bipush DX8_readLeaf_55 (v := 115) (by decide) ?_
      refine r_iconst DX8_readLeaf_57 (v := 0) (by decide) ?_
      refine r_iconst DX8_readLeaf_58 (v := 0) (by decide) ?_
      obtain ⟨q59, e59, e⟩ := x_bnd e
      refine r_callS1 (As := [.int 104, .int 97, .int 115, .int 0, .int 0]) (S := [.long (gJ b 17)]) DX8_readLeaf_59 C_X8_237 (by decide) (by decide) (Nat.le_of_ble_eq_true rfl) (t_X8_code 104 97 115 0 0 e59) rfl ?_
      refine r_lcmp_ne DX8_readLeaf_62 DX8_readLeaf_63 (tgt := 70) (by decide) (fun c62 => ?_) (fun c62 => ?_)
      · replace e := x_iff c62 e
        refine r_aload_n DX8_readLeaf_70 (i := 0) rfl rfl ?_
        refine r_get (v := .long (gJ b 17)) DX8_readLeaf_71 F_X8_193 e_44 rfl ?_
        refine r_bipush DX8_readLeaf_74 (v := 114) (by decide) ?_
        refine r_bipush DX8_readLeaf_76 (v := 117) (by decide) ?_
        refine r_bipush DX8_readLeaf_78 (v := 110) (by decide) ?_
        refine r_bipush DX8_readLeaf_80 (v := 115) (by decide) ?_
        refine r_iconst DX8_readLeaf_82 (v := 0) (by decide) ?_
        obtain ⟨q83, e83, e⟩ := x_bnd e
        refine r_callS1 (As := [.int 114, .int 117, .int 110, .int 115, .int 0]) (S := [.long (gJ b 17)]) DX8_readLeaf_83 C_X8_237 (by decide) (by decide) (Nat.le_of_ble_eq_true rfl) (t_X8_code 114 117 110 115 0 e83) rfl ?_
        refine r_lcmp_ne DX8_readLeaf_86 DX8_readLeaf_87 (tgt := 95) (by decide) (fun c86 => ?_) (fun c86 => ?_)
        · replace e := x_iff c86 e
          refine r_aload_n DX8_readLeaf_95 (i := 0) rfl rfl ?_
          refine r_get (v := .long (gJ b 17)) DX8_readLeaf_96 F_X8_193 e_44 rfl ?_
          refine r_bipush DX8_readLeaf_99 (v := 116) (by decide) ?_
          refine r_bipush DX8_readLeaf_101 (v := 117) (by decide) ?_
          refine r_bipush DX8_readLeaf_103 (v := 114) (by decide) ?_
          refine r_bipush DX8_readLeaf_105 (v := 110) (by decide) ?_
          refine r_bipush DX8_readLeaf_107 (v := 115) (by decide) ?_
          obtain ⟨q109, e109, e⟩ := x_bnd e
          refine r_callS1 (As := [.int 116, .int 117, .int 114, .int 110, .int 115]) (S := [.long (gJ b 17)]) DX8_readLeaf_109 C_X8_237 (by decide) (by decide) (Nat.le_of_ble_eq_true rfl) (t_X8_code 116 117 114 110 115 e109) rfl ?_
          refine r_lcmp_ne DX8_readLeaf_112 DX8_readLeaf_113 (tgt := 121) (by decide) (fun c112 => ?_) (fun c112 => ?_)
          · replace e := x_iff c112 e
            refine r_aload_n DX8_readLeaf_121 (i := 0) rfl rfl ?_
            refine r_get (v := .long (gJ b 17)) DX8_readLeaf_122 F_X8_193 e_44 rfl ?_
            refine r_bipush DX8_readLeaf_125 (v := 105) (by decide) ?_
            refine r_bipush DX8_readLeaf_127 (v := 110) (by decide) ?_
            refine r_iconst DX8_readLeaf_129 (v := 0) (by decide) ?_
            refine r_iconst DX8_readLeaf_130 (v := 0) (by decide) ?_
            refine r_iconst DX8_readLeaf_131 (v := 0) (by decide) ?_
            obtain ⟨q132, e132, e⟩ := x_bnd e
            refine r_callS1 (As := [.int 105, .int 110, .int 0, .int 0, .int 0]) (S := [.long (gJ b 17)]) DX8_readLeaf_132 C_X8_237 (by decide) (by decide) (Nat.le_of_ble_eq_true rfl) (t_X8_code 105 110 0 0 0 e132) rfl ?_
            refine r_lcmp_ne DX8_readLeaf_135 DX8_readLeaf_136 (tgt := 144) (by decide) (fun c135 => ?_) (fun c135 => ?_)
            · replace e := x_iff c135 e
              refine r_iconst DX8_readLeaf_144 (v := (-1)) (by decide) ?_
              refine r_istore_n (L' := [some (.ref (xa g 44)), some (.int (-1)), none]) DX8_readLeaf_145 (i := 1) rfl (by decide) rfl rfl ?_
              refine r_iload_n DX8_readLeaf_146 (i := 1) rfl rfl ?_
              refine r_if_ge DX8_readLeaf_147 (tgt := 160) (by decide) (fun c => absurd c (by decide)) (fun _ => ?_)
              refine r_aload_n DX8_readLeaf_150 (i := 0) rfl rfl ?_
              refine r_iconst DX8_readLeaf_151 (v := 1) (by decide) ?_
              refine r_aload_n DX8_readLeaf_152 (i := 0) rfl rfl ?_
              refine r_get (v := .int (gI b 16)) DX8_readLeaf_153 F_X8_186 e_44 rfl ?_
              obtain ⟨q156, e156, e⟩ := x_bnd e
              refine r_callV1 (As := [.int 1, .int (gI b 16)]) (S := []) DX8_readLeaf_156 C_X8_216 (ci := 8) rfl rfl e_44 (by decide) (by decide) (Nat.le_of_ble_eq_true rfl) (t_X8_fails 1 (gI b 16) b e156) rfl ?_
              obtain rfl := Option.some.inj e
              exact r_iret DX8_readLeaf_159 rfl rfl
            · replace e := x_ift c135 e
              refine r_bipush DX8_readLeaf_139 (v := 8) (by decide) ?_
              refine r_goto DX8_readLeaf_141 (tgt := 145) (by decide) ?_
              refine r_istore_n (L' := [some (.ref (xa g 44)), some (.int 8), none]) DX8_readLeaf_145 (i := 1) rfl (by decide) rfl rfl ?_
              refine r_iload_n DX8_readLeaf_146 (i := 1) rfl rfl ?_
              refine r_if_ge DX8_readLeaf_147 (tgt := 160) (by decide) (fun _ => ?_) (fun c => absurd (by decide) c)
              refine r_aload_n DX8_readLeaf_160 (i := 0) rfl rfl ?_
              refine r_aload_n DX8_readLeaf_161 (i := 0) rfl rfl ?_
              refine r_get (v := .int (gI b 18)) DX8_readLeaf_162 F_X8_197 e_44 rfl ?_
              refine r_put (ty := .int) DX8_readLeaf_165 F_X8_186 Fp_8_16 e_44 rfl rfl (Nat.le_of_ble_eq_true rfl) p_44_16 ?_
              refine r_iload_n DX8_readLeaf_168 (i := 1) rfl rfl ?_
              refine r_bipush DX8_readLeaf_169 (v := 7) (by decide) ?_
              refine r_icmp_ne DX8_readLeaf_171 (tgt := 178) (by decide) (fun _ => ?_) (fun c => absurd c (by decide))
              refine r_iload_n DX8_readLeaf_178 (i := 1) rfl rfl ?_
              refine r_iconst DX8_readLeaf_179 (v := 4) (by decide) ?_
              refine r_icmp_ne DX8_readLeaf_180 (tgt := 190) (by decide) (fun _ => ?_) (fun c => absurd c (by decide))
              refine r_aload_n DX8_readLeaf_190 (i := 0) rfl rfl ?_
              refine r_iconst DX8_readLeaf_191 (v := 0) (by decide) ?_
              refine r_iload_n DX8_readLeaf_192 (i := 1) rfl rfl ?_
              refine r_iconst DX8_readLeaf_193 (v := 5) (by decide) ?_
              refine r_icmp_ne DX8_readLeaf_194 (tgt := 202) (by decide) (fun _ => ?_) (fun c => absurd c (by decide))
              refine r_iload_n DX8_readLeaf_202 (i := 1) rfl rfl ?_
              refine r_bipush DX8_readLeaf_203 (v := 8) (by decide) ?_
              refine r_icmp_ne DX8_readLeaf_205 (tgt := 212) (by decide) (fun c => absurd rfl c) (fun _ => ?_)
              refine r_iconst DX8_readLeaf_208 (v := 5) (by decide) ?_
              refine r_goto DX8_readLeaf_209 (tgt := 214) (by decide) ?_
              obtain ⟨q214, e214, e⟩ := x_bnd e
              refine r_callV1 (As := [.int 0, .int 5]) (S := []) DX8_readLeaf_214 C_X8_231 (ci := 8) rfl rfl e_44 (by decide) (by decide) (Nat.le_of_ble_eq_true rfl) (t_X8_readNumber N 0 5 (sI b 16 (gI b 18)) e214) rfl ?_
              refine r_istore_n (L' := [some (.ref (xa g 44)), some (.int 8), some (.int q214.1)]) DX8_readLeaf_217 (i := 2) rfl (by decide) rfl rfl ?_
              refine r_iload_n DX8_readLeaf_218 (i := 2) rfl rfl ?_
              refine r_if_ne DX8_readLeaf_219 (tgt := 241) (by decide) (fun c219 => ?_) (fun c219 => ?_)
              · replace e := x_iff c219 e
                refine r_iload_n DX8_readLeaf_241 (i := 2) rfl rfl ?_
                obtain rfl := Option.some.inj e
                exact r_iret DX8_readLeaf_242 rfl rfl
              · replace e := x_ift c219 e
                refine r_aload_n DX8_readLeaf_222 (i := 0) rfl rfl ?_
                refine r_iload_n DX8_readLeaf_223 (i := 1) rfl rfl ?_
                refine r_aload_n DX8_readLeaf_224 (i := 0) rfl rfl ?_
                refine r_get (v := .int (gI q214.2 19)) DX8_readLeaf_225 F_X8_219 e_44 rfl ?_
                obtain ⟨q228, e228, e⟩ := x_bnd e
                refine r_callV0 (As := [.int 8, .int (gI q214.2 19)]) (S := []) DX8_readLeaf_228 C_X8_228 (ci := 8) rfl rfl e_44 (by decide) (by decide) (Nat.le_of_ble_eq_true rfl) (t_X8_step 8 (gI q214.2 19) q214.2 e228) rfl ?_
                refine r_aload_n DX8_readLeaf_231 (i := 0) rfl rfl ?_
                refine r_iconst DX8_readLeaf_232 (v := 2) (by decide) ?_
                obtain ⟨q233, e233, e⟩ := x_bnd e
                refine r_callV0 (As := [.int 2]) (S := []) DX8_readLeaf_233 C_X8_244 (ci := 8) rfl rfl e_44 (by decide) (by decide) (Nat.le_of_ble_eq_true rfl) (t_X8_work N 2 q228 e233) rfl ?_
                refine r_aload_n DX8_readLeaf_236 (i := 0) rfl rfl ?_
                refine r_iconst DX8_readLeaf_237 (v := 0) (by decide) ?_
                refine r_put (ty := .boolean) DX8_readLeaf_238 F_X8_247 Fp_8_26 e_44 (by decide) (by decide) (Nat.le_of_ble_eq_true rfl) p_44_26 ?_
                refine r_iload_n DX8_readLeaf_241 (i := 2) rfl rfl ?_
                obtain rfl := Option.some.inj e
                exact r_iret DX8_readLeaf_242 rfl rfl
          · replace e := x_ift c112 e
            refine r_bipush DX8_readLeaf_116 (v := 7) (by decide) ?_
            refine r_goto DX8_readLeaf_118 (tgt := 145) (by decide) ?_
            refine r_istore_n (L' := [some (.ref (xa g 44)), some (.int 7), none]) DX8_readLeaf_145 (i := 1) rfl (by decide) rfl rfl ?_
            refine r_iload_n DX8_readLeaf_146 (i := 1) rfl rfl ?_
            refine r_if_ge DX8_readLeaf_147 (tgt := 160) (by decide) (fun _ => ?_) (fun c => absurd (by decide) c)
            refine r_aload_n DX8_readLeaf_160 (i := 0) rfl rfl ?_
            refine r_aload_n DX8_readLeaf_161 (i := 0) rfl rfl ?_
            refine r_get (v := .int (gI b 18)) DX8_readLeaf_162 F_X8_197 e_44 rfl ?_
            refine r_put (ty := .int) DX8_readLeaf_165 F_X8_186 Fp_8_16 e_44 rfl rfl (Nat.le_of_ble_eq_true rfl) p_44_16 ?_
            refine r_iload_n DX8_readLeaf_168 (i := 1) rfl rfl ?_
            refine r_bipush DX8_readLeaf_169 (v := 7) (by decide) ?_
            refine r_icmp_ne DX8_readLeaf_171 (tgt := 178) (by decide) (fun c => absurd rfl c) (fun _ => ?_)
            refine r_iconst DX8_readLeaf_174 (v := 0) (by decide) ?_
            refine r_goto DX8_readLeaf_175 (tgt := 217) (by decide) ?_
            refine r_istore_n (L' := [some (.ref (xa g 44)), some (.int 7), some (.int 0)]) DX8_readLeaf_217 (i := 2) rfl (by decide) rfl rfl ?_
            refine r_iload_n DX8_readLeaf_218 (i := 2) rfl rfl ?_
            refine r_if_ne DX8_readLeaf_219 (tgt := 241) (by decide) (fun c => absurd rfl c) (fun _ => ?_)
            refine r_aload_n DX8_readLeaf_222 (i := 0) rfl rfl ?_
            refine r_iload_n DX8_readLeaf_223 (i := 1) rfl rfl ?_
            refine r_aload_n DX8_readLeaf_224 (i := 0) rfl rfl ?_
            refine r_get (v := .int (gI b 19)) DX8_readLeaf_225 F_X8_219 e_44 rfl ?_
            obtain ⟨q228, e228, e⟩ := x_bnd e
            refine r_callV0 (As := [.int 7, .int (gI b 19)]) (S := []) DX8_readLeaf_228 C_X8_228 (ci := 8) rfl rfl e_44 (by decide) (by decide) (Nat.le_of_ble_eq_true rfl) (t_X8_step 7 (gI b 19) (sI b 16 (gI b 18)) e228) rfl ?_
            refine r_aload_n DX8_readLeaf_231 (i := 0) rfl rfl ?_
            refine r_iconst DX8_readLeaf_232 (v := 2) (by decide) ?_
            obtain ⟨q233, e233, e⟩ := x_bnd e
            refine r_callV0 (As := [.int 2]) (S := []) DX8_readLeaf_233 C_X8_244 (ci := 8) rfl rfl e_44 (by decide) (by decide) (Nat.le_of_ble_eq_true rfl) (t_X8_work N 2 q228 e233) rfl ?_
            refine r_aload_n DX8_readLeaf_236 (i := 0) rfl rfl ?_
            refine r_iconst DX8_readLeaf_237 (v := 0) (by decide) ?_
            refine r_put (ty := .boolean) DX8_readLeaf_238 F_X8_247 Fp_8_26 e_44 (by decide) (by decide) (Nat.le_of_ble_eq_true rfl) p_44_26 ?_
            refine r_iload_n DX8_readLeaf_241 (i := 2) rfl rfl ?_
            obtain rfl := Option.some.inj e
            exact r_iret DX8_readLeaf_242 rfl rfl
        · replace e := x_ift c86 e
          refine r_bipush DX8_readLeaf_90 (v := 6) (by decide) ?_
          refine r_goto DX8_readLeaf_92 (tgt := 145) (by decide) ?_
          refine r_istore_n (L' := [some (.ref (xa g 44)), some (.int 6), none]) DX8_readLeaf_145 (i := 1) rfl (by decide) rfl rfl ?_
          refine r_iload_n DX8_readLeaf_146 (i := 1) rfl rfl ?_
          refine r_if_ge DX8_readLeaf_147 (tgt := 160) (by decide) (fun _ => ?_) (fun c => absurd (by decide) c)
          refine r_aload_n DX8_readLeaf_160 (i := 0) rfl rfl ?_
          refine r_aload_n DX8_readLeaf_161 (i := 0) rfl rfl ?_
          refine r_get (v := .int (gI b 18)) DX8_readLeaf_162 F_X8_197 e_44 rfl ?_
          refine r_put (ty := .int) DX8_readLeaf_165 F_X8_186 Fp_8_16 e_44 rfl rfl (Nat.le_of_ble_eq_true rfl) p_44_16 ?_
          refine r_iload_n DX8_readLeaf_168 (i := 1) rfl rfl ?_
          refine r_bipush DX8_readLeaf_169 (v := 7) (by decide) ?_
          refine r_icmp_ne DX8_readLeaf_171 (tgt := 178) (by decide) (fun _ => ?_) (fun c => absurd c (by decide))
          refine r_iload_n DX8_readLeaf_178 (i := 1) rfl rfl ?_
          refine r_iconst DX8_readLeaf_179 (v := 4) (by decide) ?_
          refine r_icmp_ne DX8_readLeaf_180 (tgt := 190) (by decide) (fun _ => ?_) (fun c => absurd c (by decide))
          refine r_aload_n DX8_readLeaf_190 (i := 0) rfl rfl ?_
          refine r_iconst DX8_readLeaf_191 (v := 0) (by decide) ?_
          refine r_iload_n DX8_readLeaf_192 (i := 1) rfl rfl ?_
          refine r_iconst DX8_readLeaf_193 (v := 5) (by decide) ?_
          refine r_icmp_ne DX8_readLeaf_194 (tgt := 202) (by decide) (fun _ => ?_) (fun c => absurd c (by decide))
          refine r_iload_n DX8_readLeaf_202 (i := 1) rfl rfl ?_
          refine r_bipush DX8_readLeaf_203 (v := 8) (by decide) ?_
          refine r_icmp_ne DX8_readLeaf_205 (tgt := 212) (by decide) (fun _ => ?_) (fun c => absurd c (by decide))
          refine r_bipush DX8_readLeaf_212 (v := 12) (by decide) ?_
          obtain ⟨q214, e214, e⟩ := x_bnd e
          refine r_callV1 (As := [.int 0, .int 12]) (S := []) DX8_readLeaf_214 C_X8_231 (ci := 8) rfl rfl e_44 (by decide) (by decide) (Nat.le_of_ble_eq_true rfl) (t_X8_readNumber N 0 12 (sI b 16 (gI b 18)) e214) rfl ?_
          refine r_istore_n (L' := [some (.ref (xa g 44)), some (.int 6), some (.int q214.1)]) DX8_readLeaf_217 (i := 2) rfl (by decide) rfl rfl ?_
          refine r_iload_n DX8_readLeaf_218 (i := 2) rfl rfl ?_
          refine r_if_ne DX8_readLeaf_219 (tgt := 241) (by decide) (fun c219 => ?_) (fun c219 => ?_)
          · replace e := x_iff c219 e
            refine r_iload_n DX8_readLeaf_241 (i := 2) rfl rfl ?_
            obtain rfl := Option.some.inj e
            exact r_iret DX8_readLeaf_242 rfl rfl
          · replace e := x_ift c219 e
            refine r_aload_n DX8_readLeaf_222 (i := 0) rfl rfl ?_
            refine r_iload_n DX8_readLeaf_223 (i := 1) rfl rfl ?_
            refine r_aload_n DX8_readLeaf_224 (i := 0) rfl rfl ?_
            refine r_get (v := .int (gI q214.2 19)) DX8_readLeaf_225 F_X8_219 e_44 rfl ?_
            obtain ⟨q228, e228, e⟩ := x_bnd e
            refine r_callV0 (As := [.int 6, .int (gI q214.2 19)]) (S := []) DX8_readLeaf_228 C_X8_228 (ci := 8) rfl rfl e_44 (by decide) (by decide) (Nat.le_of_ble_eq_true rfl) (t_X8_step 6 (gI q214.2 19) q214.2 e228) rfl ?_
            refine r_aload_n DX8_readLeaf_231 (i := 0) rfl rfl ?_
            refine r_iconst DX8_readLeaf_232 (v := 2) (by decide) ?_
            obtain ⟨q233, e233, e⟩ := x_bnd e
            refine r_callV0 (As := [.int 2]) (S := []) DX8_readLeaf_233 C_X8_244 (ci := 8) rfl rfl e_44 (by decide) (by decide) (Nat.le_of_ble_eq_true rfl) (t_X8_work N 2 q228 e233) rfl ?_
            refine r_aload_n DX8_readLeaf_236 (i := 0) rfl rfl ?_
            refine r_iconst DX8_readLeaf_237 (v := 0) (by decide) ?_
            refine r_put (ty := .boolean) DX8_readLeaf_238 F_X8_247 Fp_8_26 e_44 (by decide) (by decide) (Nat.le_of_ble_eq_true rfl) p_44_26 ?_
            refine r_iload_n DX8_readLeaf_241 (i := 2) rfl rfl ?_
            obtain rfl := Option.some.inj e
            exact r_iret DX8_readLeaf_242 rfl rfl
      · replace e := x_ift c62 e
        refine r_iconst DX8_readLeaf_66 (v := 5) (by decide) ?_
        refine r_goto DX8_readLeaf_67 (tgt := 145) (by decide) ?_
        refine r_istore_n (L' := [some (.ref (xa g 44)), some (.int 5), none]) DX8_readLeaf_145 (i := 1) rfl (by decide) rfl rfl ?_
        refine r_iload_n DX8_readLeaf_146 (i := 1) rfl rfl ?_
        refine r_if_ge DX8_readLeaf_147 (tgt := 160) (by decide) (fun _ => ?_) (fun c => absurd (by decide) c)
        refine r_aload_n DX8_readLeaf_160 (i := 0) rfl rfl ?_
        refine r_aload_n DX8_readLeaf_161 (i := 0) rfl rfl ?_
        refine r_get (v := .int (gI b 18)) DX8_readLeaf_162 F_X8_197 e_44 rfl ?_
        refine r_put (ty := .int) DX8_readLeaf_165 F_X8_186 Fp_8_16 e_44 rfl rfl (Nat.le_of_ble_eq_true rfl) p_44_16 ?_
        refine r_iload_n DX8_readLeaf_168 (i := 1) rfl rfl ?_
        refine r_bipush DX8_readLeaf_169 (v := 7) (by decide) ?_
        refine r_icmp_ne DX8_readLeaf_171 (tgt := 178) (by decide) (fun _ => ?_) (fun c => absurd c (by decide))
        refine r_iload_n DX8_readLeaf_178 (i := 1) rfl rfl ?_
        refine r_iconst DX8_readLeaf_179 (v := 4) (by decide) ?_
        refine r_icmp_ne DX8_readLeaf_180 (tgt := 190) (by decide) (fun _ => ?_) (fun c => absurd c (by decide))
        refine r_aload_n DX8_readLeaf_190 (i := 0) rfl rfl ?_
        refine r_iconst DX8_readLeaf_191 (v := 0) (by decide) ?_
        refine r_iload_n DX8_readLeaf_192 (i := 1) rfl rfl ?_
        refine r_iconst DX8_readLeaf_193 (v := 5) (by decide) ?_
        refine r_icmp_ne DX8_readLeaf_194 (tgt := 202) (by decide) (fun c => absurd rfl c) (fun _ => ?_)
        refine r_bipush DX8_readLeaf_197 (v := 11) (by decide) ?_
        refine r_goto DX8_readLeaf_199 (tgt := 214) (by decide) ?_
        obtain ⟨q214, e214, e⟩ := x_bnd e
        refine r_callV1 (As := [.int 0, .int 11]) (S := []) DX8_readLeaf_214 C_X8_231 (ci := 8) rfl rfl e_44 (by decide) (by decide) (Nat.le_of_ble_eq_true rfl) (t_X8_readNumber N 0 11 (sI b 16 (gI b 18)) e214) rfl ?_
        refine r_istore_n (L' := [some (.ref (xa g 44)), some (.int 5), some (.int q214.1)]) DX8_readLeaf_217 (i := 2) rfl (by decide) rfl rfl ?_
        refine r_iload_n DX8_readLeaf_218 (i := 2) rfl rfl ?_
        refine r_if_ne DX8_readLeaf_219 (tgt := 241) (by decide) (fun c219 => ?_) (fun c219 => ?_)
        · replace e := x_iff c219 e
          refine r_iload_n DX8_readLeaf_241 (i := 2) rfl rfl ?_
          obtain rfl := Option.some.inj e
          exact r_iret DX8_readLeaf_242 rfl rfl
        · replace e := x_ift c219 e
          refine r_aload_n DX8_readLeaf_222 (i := 0) rfl rfl ?_
          refine r_iload_n DX8_readLeaf_223 (i := 1) rfl rfl ?_
          refine r_aload_n DX8_readLeaf_224 (i := 0) rfl rfl ?_
          refine r_get (v := .int (gI q214.2 19)) DX8_readLeaf_225 F_X8_219 e_44 rfl ?_
          obtain ⟨q228, e228, e⟩ := x_bnd e
          refine r_callV0 (As := [.int 5, .int (gI q214.2 19)]) (S := []) DX8_readLeaf_228 C_X8_228 (ci := 8) rfl rfl e_44 (by decide) (by decide) (Nat.le_of_ble_eq_true rfl) (t_X8_step 5 (gI q214.2 19) q214.2 e228) rfl ?_
          refine r_aload_n DX8_readLeaf_231 (i := 0) rfl rfl ?_
          refine r_iconst DX8_readLeaf_232 (v := 2) (by decide) ?_
          obtain ⟨q233, e233, e⟩ := x_bnd e
          refine r_callV0 (As := [.int 2]) (S := []) DX8_readLeaf_233 C_X8_244 (ci := 8) rfl rfl e_44 (by decide) (by decide) (Nat.le_of_ble_eq_true rfl) (t_X8_work N 2 q228 e233) rfl ?_
          refine r_aload_n DX8_readLeaf_236 (i := 0) rfl rfl ?_
          refine r_iconst DX8_readLeaf_237 (v := 0) (by decide) ?_
          refine r_put (ty := .boolean) DX8_readLeaf_238 F_X8_247 Fp_8_26 e_44 (by decide) (by decide) (Nat.le_of_ble_eq_true rfl) p_44_26 ?_
          refine r_iload_n DX8_readLeaf_241 (i := 2) rfl rfl ?_
          obtain rfl := Option.some.inj e
          exact r_iret DX8_readLeaf_242 rfl rfl
    · replace e := x_ift c39 e
      refine r_iconst DX8_readLeaf_43 (v := 4) (by decide) ?_
      refine r_goto DX8_readLeaf_44 (tgt := 145) (by decide) ?_
      refine r_istore_n (L' := [some (.ref (xa g 44)), some (.int 4), none]) DX8_readLeaf_145 (i := 1) rfl (by decide) rfl rfl ?_
      refine r_iload_n DX8_readLeaf_146 (i := 1) rfl rfl ?_
      refine r_if_ge DX8_readLeaf_147 (tgt := 160) (by decide) (fun _ => ?_) (fun c => absurd (by decide) c)
      refine r_aload_n DX8_readLeaf_160 (i := 0) rfl rfl ?_
      refine r_aload_n DX8_readLeaf_161 (i := 0) rfl rfl ?_
      refine r_get (v := .int (gI b 18)) DX8_readLeaf_162 F_X8_197 e_44 rfl ?_
      refine r_put (ty := .int) DX8_readLeaf_165 F_X8_186 Fp_8_16 e_44 rfl rfl (Nat.le_of_ble_eq_true rfl) p_44_16 ?_
      refine r_iload_n DX8_readLeaf_168 (i := 1) rfl rfl ?_
      refine r_bipush DX8_readLeaf_169 (v := 7) (by decide) ?_
      refine r_icmp_ne DX8_readLeaf_171 (tgt := 178) (by decide) (fun _ => ?_) (fun c => absurd c (by decide))
      refine r_iload_n DX8_readLeaf_178 (i := 1) rfl rfl ?_
      refine r_iconst DX8_readLeaf_179 (v := 4) (by decide) ?_
      refine r_icmp_ne DX8_readLeaf_180 (tgt := 190) (by decide) (fun c => absurd rfl c) (fun _ => ?_)
      refine r_aload_n DX8_readLeaf_183 (i := 0) rfl rfl ?_
      obtain ⟨q184, e184, e⟩ := x_bnd e
      refine r_callV1 (As := []) (S := []) DX8_readLeaf_184 C_X8_241 (ci := 8) rfl rfl e_44 (by decide) (by decide) (Nat.le_of_ble_eq_true rfl) (t_X8_readSum N (sI b 16 (gI b 18)) e184) rfl ?_
      refine r_goto DX8_readLeaf_187 (tgt := 217) (by decide) ?_
      refine r_istore_n (L' := [some (.ref (xa g 44)), some (.int 4), some (.int q184.1)]) DX8_readLeaf_217 (i := 2) rfl (by decide) rfl rfl ?_
      refine r_iload_n DX8_readLeaf_218 (i := 2) rfl rfl ?_
      refine r_if_ne DX8_readLeaf_219 (tgt := 241) (by decide) (fun c219 => ?_) (fun c219 => ?_)
      · replace e := x_iff c219 e
        refine r_iload_n DX8_readLeaf_241 (i := 2) rfl rfl ?_
        obtain rfl := Option.some.inj e
        exact r_iret DX8_readLeaf_242 rfl rfl
      · replace e := x_ift c219 e
        refine r_aload_n DX8_readLeaf_222 (i := 0) rfl rfl ?_
        refine r_iload_n DX8_readLeaf_223 (i := 1) rfl rfl ?_
        refine r_aload_n DX8_readLeaf_224 (i := 0) rfl rfl ?_
        refine r_get (v := .int (gI q184.2 19)) DX8_readLeaf_225 F_X8_219 e_44 rfl ?_
        obtain ⟨q228, e228, e⟩ := x_bnd e
        refine r_callV0 (As := [.int 4, .int (gI q184.2 19)]) (S := []) DX8_readLeaf_228 C_X8_228 (ci := 8) rfl rfl e_44 (by decide) (by decide) (Nat.le_of_ble_eq_true rfl) (t_X8_step 4 (gI q184.2 19) q184.2 e228) rfl ?_
        refine r_aload_n DX8_readLeaf_231 (i := 0) rfl rfl ?_
        refine r_iconst DX8_readLeaf_232 (v := 2) (by decide) ?_
        obtain ⟨q233, e233, e⟩ := x_bnd e
        refine r_callV0 (As := [.int 2]) (S := []) DX8_readLeaf_233 C_X8_244 (ci := 8) rfl rfl e_44 (by decide) (by decide) (Nat.le_of_ble_eq_true rfl) (t_X8_work N 2 q228 e233) rfl ?_
        refine r_aload_n DX8_readLeaf_236 (i := 0) rfl rfl ?_
        refine r_iconst DX8_readLeaf_237 (v := 0) (by decide) ?_
        refine r_put (ty := .boolean) DX8_readLeaf_238 F_X8_247 Fp_8_26 e_44 (by decide) (by decide) (Nat.le_of_ble_eq_true rfl) p_44_26 ?_
        refine r_iload_n DX8_readLeaf_241 (i := 2) rfl rfl ?_
        obtain rfl := Option.some.inj e
        exact r_iret DX8_readLeaf_242 rfl rfl
  · replace e := x_ift c16 e
    refine r_iconst DX8_readLeaf_20 (v := 3) (by decide) ?_
    refine r_goto DX8_readLeaf_21 (tgt := 145) (by decide) ?_
    refine r_istore_n (L' := [some (.ref (xa g 44)), some (.int 3), none]) DX8_readLeaf_145 (i := 1) rfl (by decide) rfl rfl ?_
    refine r_iload_n DX8_readLeaf_146 (i := 1) rfl rfl ?_
    refine r_if_ge DX8_readLeaf_147 (tgt := 160) (by decide) (fun _ => ?_) (fun c => absurd (by decide) c)
    refine r_aload_n DX8_readLeaf_160 (i := 0) rfl rfl ?_
    refine r_aload_n DX8_readLeaf_161 (i := 0) rfl rfl ?_
    refine r_get (v := .int (gI b 18)) DX8_readLeaf_162 F_X8_197 e_44 rfl ?_
    refine r_put (ty := .int) DX8_readLeaf_165 F_X8_186 Fp_8_16 e_44 rfl rfl (Nat.le_of_ble_eq_true rfl) p_44_16 ?_
    refine r_iload_n DX8_readLeaf_168 (i := 1) rfl rfl ?_
    refine r_bipush DX8_readLeaf_169 (v := 7) (by decide) ?_
    refine r_icmp_ne DX8_readLeaf_171 (tgt := 178) (by decide) (fun _ => ?_) (fun c => absurd c (by decide))
    refine r_iload_n DX8_readLeaf_178 (i := 1) rfl rfl ?_
    refine r_iconst DX8_readLeaf_179 (v := 4) (by decide) ?_
    refine r_icmp_ne DX8_readLeaf_180 (tgt := 190) (by decide) (fun _ => ?_) (fun c => absurd c (by decide))
    refine r_aload_n DX8_readLeaf_190 (i := 0) rfl rfl ?_
    refine r_iconst DX8_readLeaf_191 (v := 0) (by decide) ?_
    refine r_iload_n DX8_readLeaf_192 (i := 1) rfl rfl ?_
    refine r_iconst DX8_readLeaf_193 (v := 5) (by decide) ?_
    refine r_icmp_ne DX8_readLeaf_194 (tgt := 202) (by decide) (fun _ => ?_) (fun c => absurd c (by decide))
    refine r_iload_n DX8_readLeaf_202 (i := 1) rfl rfl ?_
    refine r_bipush DX8_readLeaf_203 (v := 8) (by decide) ?_
    refine r_icmp_ne DX8_readLeaf_205 (tgt := 212) (by decide) (fun _ => ?_) (fun c => absurd c (by decide))
    refine r_bipush DX8_readLeaf_212 (v := 12) (by decide) ?_
    obtain ⟨q214, e214, e⟩ := x_bnd e
    refine r_callV1 (As := [.int 0, .int 12]) (S := []) DX8_readLeaf_214 C_X8_231 (ci := 8) rfl rfl e_44 (by decide) (by decide) (Nat.le_of_ble_eq_true rfl) (t_X8_readNumber N 0 12 (sI b 16 (gI b 18)) e214) rfl ?_
    refine r_istore_n (L' := [some (.ref (xa g 44)), some (.int 3), some (.int q214.1)]) DX8_readLeaf_217 (i := 2) rfl (by decide) rfl rfl ?_
    refine r_iload_n DX8_readLeaf_218 (i := 2) rfl rfl ?_
    refine r_if_ne DX8_readLeaf_219 (tgt := 241) (by decide) (fun c219 => ?_) (fun c219 => ?_)
    · replace e := x_iff c219 e
      refine r_iload_n DX8_readLeaf_241 (i := 2) rfl rfl ?_
      obtain rfl := Option.some.inj e
      exact r_iret DX8_readLeaf_242 rfl rfl
    · replace e := x_ift c219 e
      refine r_aload_n DX8_readLeaf_222 (i := 0) rfl rfl ?_
      refine r_iload_n DX8_readLeaf_223 (i := 1) rfl rfl ?_
      refine r_aload_n DX8_readLeaf_224 (i := 0) rfl rfl ?_
      refine r_get (v := .int (gI q214.2 19)) DX8_readLeaf_225 F_X8_219 e_44 rfl ?_
      obtain ⟨q228, e228, e⟩ := x_bnd e
      refine r_callV0 (As := [.int 3, .int (gI q214.2 19)]) (S := []) DX8_readLeaf_228 C_X8_228 (ci := 8) rfl rfl e_44 (by decide) (by decide) (Nat.le_of_ble_eq_true rfl) (t_X8_step 3 (gI q214.2 19) q214.2 e228) rfl ?_
      refine r_aload_n DX8_readLeaf_231 (i := 0) rfl rfl ?_
      refine r_iconst DX8_readLeaf_232 (v := 2) (by decide) ?_
      obtain ⟨q233, e233, e⟩ := x_bnd e
      refine r_callV0 (As := [.int 2]) (S := []) DX8_readLeaf_233 C_X8_244 (ci := 8) rfl rfl e_44 (by decide) (by decide) (Nat.le_of_ble_eq_true rfl) (t_X8_work N 2 q228 e233) rfl ?_
      refine r_aload_n DX8_readLeaf_236 (i := 0) rfl rfl ?_
      refine r_iconst DX8_readLeaf_237 (v := 0) (by decide) ?_
      refine r_put (ty := .boolean) DX8_readLeaf_238 F_X8_247 Fp_8_26 e_44 (by decide) (by decide) (Nat.le_of_ble_eq_true rfl) p_44_26 ?_
      refine r_iload_n DX8_readLeaf_241 (i := 2) rfl rfl ?_
      obtain rfl := Option.some.inj e
      exact r_iret DX8_readLeaf_242 rfl rfl

set_option maxRecDepth 100000 in
set_option maxHeartbeats 4000000 in
theorem t_X8_readOne {l : Launch} {g : xG} {a : xT} (N : Nat) (b : xT)  {r : (Int32 × xT)} (e : f_X8_readOne N b = some r) : Ev l g 4 yX8_readOne M_X8_readOne [.ref (xa g 44)] (a, b) (some (.int r.1), (a, r.2)) := by
  unfold f_X8_readOne at e
  refine Ev.of 0 (L0 := [some (.ref (xa g 44))]) (by decide) rfl (Nat.le_of_ble_eq_true rfl) rfl ?_
  refine r_aload_n DX8_readOne_0 (i := 0) rfl rfl ?_
  obtain ⟨q1, e1, e⟩ := x_bnd e
  refine r_callV0 (As := []) (S := []) DX8_readOne_1 C_X8_234 (ci := 8) rfl rfl e_44 (by decide) (by decide) (Nat.le_of_ble_eq_true rfl) (t_X8_readWord N b e1) rfl ?_
  refine r_aload_n DX8_readOne_4 (i := 0) rfl rfl ?_
  refine r_get (v := .long (gJ q1 17)) DX8_readOne_5 F_X8_193 e_44 rfl ?_
  refine r_bipush DX8_readOne_8 (v := 110) (by decide) ?_
  refine r_bipush DX8_readOne_10 (v := 111) (by decide) ?_
  refine r_bipush DX8_readOne_12 (v := 116) (by decide) ?_
  refine r_iconst DX8_readOne_14 (v := 0) (by decide) ?_
  refine r_iconst DX8_readOne_15 (v := 0) (by decide) ?_
  obtain ⟨q16, e16, e⟩ := x_bnd e
  refine r_callS1 (As := [.int 110, .int 111, .int 116, .int 0, .int 0]) (S := [.long (gJ q1 17)]) DX8_readOne_16 C_X8_237 (by decide) (by decide) (Nat.le_of_ble_eq_true rfl) (t_X8_code 110 111 116 0 0 e16) rfl ?_
  refine r_lcmp_ne DX8_readOne_19 DX8_readOne_20 (tgt := 38) (by decide) (fun c19 => ?_) (fun c19 => ?_)
  · replace e := x_iff c19 e
    refine r_aload_n DX8_readOne_38 (i := 0) rfl rfl ?_
    obtain ⟨q39, e39, e⟩ := x_bnd e
    refine r_callV1 (As := []) (S := []) DX8_readOne_39 C_X8_189 (ci := 8) rfl rfl e_44 (by decide) (by decide) (Nat.le_of_ble_eq_true rfl) (t_X8_here N q1 e39) rfl ?_
    refine r_bipush DX8_readOne_42 (v := 40) (by decide) ?_
    refine r_icmp_ne DX8_readOne_44 (tgt := 92) (by decide) (fun c44 => ?_) (fun c44 => ?_)
    · replace e := x_iff c44 e
      refine r_aload_n DX8_readOne_92 (i := 0) rfl rfl ?_
      obtain ⟨q93, e93, e⟩ := x_bnd e
      refine r_callV1 (As := []) (S := []) DX8_readOne_93 C_X8_257 (ci := 8) rfl rfl e_44 (by decide) (by decide) (Nat.le_of_ble_eq_true rfl) (t_X8_readLeaf N q39.2 e93) rfl ?_
      obtain rfl := Option.some.inj e
      exact r_iret DX8_readOne_96 rfl rfl
    · replace e := x_ift c44 e
      refine r_aload_n DX8_readOne_47 (i := 0) rfl rfl ?_
      refine r_get (v := .int (gI q39.2 25)) DX8_readOne_48 F_X8_254 e_44 rfl ?_
      refine r_iconst DX8_readOne_51 (v := 4) (by decide) ?_
      refine r_icmp_ne DX8_readOne_52 (tgt := 65) (by decide) (fun c52 => ?_) (fun c52 => ?_)
      · replace e := x_iff c52 e
        refine r_aload_n DX8_readOne_65 (i := 0) rfl rfl ?_
        refine r_dup DX8_readOne_66 rfl ?_
        refine r_get (v := .int (gI q39.2 25)) DX8_readOne_67 F_X8_254 e_44 rfl ?_
        refine r_iconst DX8_readOne_70 (v := 1) (by decide) ?_
        refine r_iadd DX8_readOne_71 ?_
        refine r_put (ty := .int) DX8_readOne_72 F_X8_254 Fp_8_25 e_44 rfl rfl (Nat.le_of_ble_eq_true rfl) p_44_25 ?_
        refine r_aload_n DX8_readOne_75 (i := 0) rfl rfl ?_
        refine r_dup DX8_readOne_76 rfl ?_
        refine r_get (v := .int (gI q39.2 16)) DX8_readOne_77 F_X8_186 e_44 rfl ?_
        refine r_iconst DX8_readOne_80 (v := 1) (by decide) ?_
        refine r_iadd DX8_readOne_81 ?_
        refine r_put (ty := .int) DX8_readOne_82 F_X8_186 Fp_8_16 e_44 rfl rfl (Nat.le_of_ble_eq_true rfl) p_44_16 ?_
        refine r_aload_n DX8_readOne_85 (i := 0) rfl rfl ?_
        refine r_iconst DX8_readOne_86 (v := 3) (by decide) ?_
        obtain ⟨q87, e87, e⟩ := x_bnd e
        refine r_callV0 (As := [.int 3]) (S := []) DX8_readOne_87 C_X8_251 (ci := 8) rfl rfl e_44 (by decide) (by decide) (Nat.le_of_ble_eq_true rfl) (t_X8_hold 3 (sI (sI q39.2 25 ((gI q39.2 25) + 1)) 16 ((gI q39.2 16) + 1)) e87) rfl ?_
        refine r_iconst DX8_readOne_90 (v := 0) (by decide) ?_
        obtain rfl := Option.some.inj e
        exact r_iret DX8_readOne_91 rfl rfl
      · replace e := x_ift c52 e
        refine r_aload_n DX8_readOne_55 (i := 0) rfl rfl ?_
        refine r_iconst DX8_readOne_56 (v := 3) (by decide) ?_
        refine r_aload_n DX8_readOne_57 (i := 0) rfl rfl ?_
        refine r_get (v := .int (gI q39.2 16)) DX8_readOne_58 F_X8_186 e_44 rfl ?_
        obtain ⟨q61, e61, e⟩ := x_bnd e
        refine r_callV1 (As := [.int 3, .int (gI q39.2 16)]) (S := []) DX8_readOne_61 C_X8_216 (ci := 8) rfl rfl e_44 (by decide) (by decide) (Nat.le_of_ble_eq_true rfl) (t_X8_fails 3 (gI q39.2 16) q39.2 e61) rfl ?_
        obtain rfl := Option.some.inj e
        exact r_iret DX8_readOne_64 rfl rfl
  · replace e := x_ift c19 e
    refine r_aload_n DX8_readOne_23 (i := 0) rfl rfl ?_
    refine r_aload_n DX8_readOne_24 (i := 0) rfl rfl ?_
    refine r_get (v := .int (gI q1 18)) DX8_readOne_25 F_X8_197 e_44 rfl ?_
    refine r_put (ty := .int) DX8_readOne_28 F_X8_186 Fp_8_16 e_44 rfl rfl (Nat.le_of_ble_eq_true rfl) p_44_16 ?_
    refine r_aload_n DX8_readOne_31 (i := 0) rfl rfl ?_
    refine r_iconst DX8_readOne_32 (v := 2) (by decide) ?_
    obtain ⟨q33, e33, e⟩ := x_bnd e
    refine r_callV0 (As := [.int 2]) (S := []) DX8_readOne_33 C_X8_251 (ci := 8) rfl rfl e_44 (by decide) (by decide) (Nat.le_of_ble_eq_true rfl) (t_X8_hold 2 (sI q1 16 (gI q1 18)) e33) rfl ?_
    refine r_iconst DX8_readOne_36 (v := 0) (by decide) ?_
    obtain rfl := Option.some.inj e
    exact r_iret DX8_readOne_37 rfl rfl

set_option maxRecDepth 100000 in
set_option maxHeartbeats 4000000 in
theorem lp_X8_read_L43 {l : Launch} {g : xG} {a : xT} {R : Option Value × xS} (N : Nat) (v1 : Int32) : ∀ (n : Nat) (v2 : Int32) (b : xT) (r : (Int32 × xT)), f_X8_read_L43 N v1 n v2 b = some r → Rx l g 5 M_X8_read 90 [some (.ref (xa g 44)), some (.int v1), some (.int (r.1)), none] [] (a, (r.2)) R → Rx l g 5 M_X8_read 43 [some (.ref (xa g 44)), some (.int v1), some (.int v2), none] [] (a, b) R := by
  intro n
  induction n with
  | zero => intro v2_ s_ r_ e; cases e
  | succ n ih =>
    intro v2 b r e K0
    rw [f_X8_read_L43] at e
    refine r_iload_n DX8_read_43 (i := 2) rfl rfl ?_
    refine r_if_ne DX8_read_44 (tgt := 90) (by decide) (fun c44 => ?_) (fun c44 => ?_)
    · replace e := x_iff c44 e
      obtain rfl := Option.some.inj e
      exact K0
    · replace e := x_ift c44 e
      refine r_aload_n DX8_read_47 (i := 0) rfl rfl ?_
      refine r_get (v := .int (gI b 26)) DX8_read_48 F_X8_247 e_44 rfl ?_
      refine r_if_ne DX8_read_51 (tgt := 68) (by decide) (fun c51 => ?_) (fun c51 => ?_)
      · replace e := x_iff c51 e
        refine r_aload_n DX8_read_68 (i := 0) rfl rfl ?_
        refine r_get (v := .int (gI b 26)) DX8_read_69 F_X8_247 e_44 rfl ?_
        refine r_if_eq DX8_read_72 (tgt := 82) (by decide) (fun c72 => ?_) (fun c72 => ?_)
        · replace e := x_ift c72 e
          refine r_aload_n DX8_read_82 (i := 0) rfl rfl ?_
          obtain ⟨q83, e83, e⟩ := x_bnd e
          refine r_callV1 (As := []) (S := []) DX8_read_83 C_X8_269 (ci := 8) rfl rfl e_44 (by decide) (by decide) (Nat.le_of_ble_eq_true rfl) (t_X8_readBehind N b e83) rfl ?_
          refine r_istore_n (L' := [some (.ref (xa g 44)), some (.int v1), some (.int q83.1), none]) DX8_read_86 (i := 2) rfl (by decide) rfl rfl ?_
          refine r_goto DX8_read_87 (tgt := 43) (by decide) ?_
          exact ih _ _ _ e K0
        · replace e := x_iff c72 e
          refine r_aload_n DX8_read_75 (i := 0) rfl rfl ?_
          obtain ⟨q76, e76, e⟩ := x_bnd e
          refine r_callV1 (As := []) (S := []) DX8_read_76 C_X8_266 (ci := 8) rfl rfl e_44 (by decide) (by decide) (Nat.le_of_ble_eq_true rfl) (t_X8_readOne N b e76) rfl ?_
          refine r_goto DX8_read_79 (tgt := 86) (by decide) ?_
          refine r_istore_n (L' := [some (.ref (xa g 44)), some (.int v1), some (.int q76.1), none]) DX8_read_86 (i := 2) rfl (by decide) rfl rfl ?_
          refine r_goto DX8_read_87 (tgt := 43) (by decide) ?_
          exact ih _ _ _ e K0
      · replace e := x_ift c51 e
        refine r_aload_n DX8_read_54 (i := 0) rfl rfl ?_
        refine r_get (v := .int (gI b 25)) DX8_read_55 F_X8_254 e_44 rfl ?_
        refine r_if_gt DX8_read_58 (tgt := 68) (by decide) (fun c58 => ?_) (fun c58 => ?_)
        · replace e := x_ift c58 e
          refine r_aload_n DX8_read_68 (i := 0) rfl rfl ?_
          refine r_get (v := .int (gI b 26)) DX8_read_69 F_X8_247 e_44 rfl ?_
          refine r_if_eq DX8_read_72 (tgt := 82) (by decide) (fun c72 => ?_) (fun c72 => ?_)
          · replace e := x_ift c72 e
            refine r_aload_n DX8_read_82 (i := 0) rfl rfl ?_
            obtain ⟨q83, e83, e⟩ := x_bnd e
            refine r_callV1 (As := []) (S := []) DX8_read_83 C_X8_269 (ci := 8) rfl rfl e_44 (by decide) (by decide) (Nat.le_of_ble_eq_true rfl) (t_X8_readBehind N b e83) rfl ?_
            refine r_istore_n (L' := [some (.ref (xa g 44)), some (.int v1), some (.int q83.1), none]) DX8_read_86 (i := 2) rfl (by decide) rfl rfl ?_
            refine r_goto DX8_read_87 (tgt := 43) (by decide) ?_
            exact ih _ _ _ e K0
          · replace e := x_iff c72 e
            refine r_aload_n DX8_read_75 (i := 0) rfl rfl ?_
            obtain ⟨q76, e76, e⟩ := x_bnd e
            refine r_callV1 (As := []) (S := []) DX8_read_76 C_X8_266 (ci := 8) rfl rfl e_44 (by decide) (by decide) (Nat.le_of_ble_eq_true rfl) (t_X8_readOne N b e76) rfl ?_
            refine r_goto DX8_read_79 (tgt := 86) (by decide) ?_
            refine r_istore_n (L' := [some (.ref (xa g 44)), some (.int v1), some (.int q76.1), none]) DX8_read_86 (i := 2) rfl (by decide) rfl rfl ?_
            refine r_goto DX8_read_87 (tgt := 43) (by decide) ?_
            exact ih _ _ _ e K0
        · replace e := x_iff c58 e
          refine r_aload_n DX8_read_61 (i := 0) rfl rfl ?_
          obtain ⟨q62, e62, e⟩ := x_bnd e
          refine r_callV1 (As := []) (S := []) DX8_read_62 C_X8_189 (ci := 8) rfl rfl e_44 (by decide) (by decide) (Nat.le_of_ble_eq_true rfl) (t_X8_here N b e62) rfl ?_
          refine r_if_lt DX8_read_65 (tgt := 90) (by decide) (fun c65 => ?_) (fun c65 => ?_)
          · replace e := x_ift c65 e
            obtain rfl := Option.some.inj e
            exact K0
          · replace e := x_iff c65 e
            refine r_aload_n DX8_read_68 (i := 0) rfl rfl ?_
            refine r_get (v := .int (gI q62.2 26)) DX8_read_69 F_X8_247 e_44 rfl ?_
            refine r_if_eq DX8_read_72 (tgt := 82) (by decide) (fun c72 => ?_) (fun c72 => ?_)
            · replace e := x_ift c72 e
              refine r_aload_n DX8_read_82 (i := 0) rfl rfl ?_
              obtain ⟨q83, e83, e⟩ := x_bnd e
              refine r_callV1 (As := []) (S := []) DX8_read_83 C_X8_269 (ci := 8) rfl rfl e_44 (by decide) (by decide) (Nat.le_of_ble_eq_true rfl) (t_X8_readBehind N q62.2 e83) rfl ?_
              refine r_istore_n (L' := [some (.ref (xa g 44)), some (.int v1), some (.int q83.1), none]) DX8_read_86 (i := 2) rfl (by decide) rfl rfl ?_
              refine r_goto DX8_read_87 (tgt := 43) (by decide) ?_
              exact ih _ _ _ e K0
            · replace e := x_iff c72 e
              refine r_aload_n DX8_read_75 (i := 0) rfl rfl ?_
              obtain ⟨q76, e76, e⟩ := x_bnd e
              refine r_callV1 (As := []) (S := []) DX8_read_76 C_X8_266 (ci := 8) rfl rfl e_44 (by decide) (by decide) (Nat.le_of_ble_eq_true rfl) (t_X8_readOne N q62.2 e76) rfl ?_
              refine r_goto DX8_read_79 (tgt := 86) (by decide) ?_
              refine r_istore_n (L' := [some (.ref (xa g 44)), some (.int v1), some (.int q76.1), none]) DX8_read_86 (i := 2) rfl (by decide) rfl rfl ?_
              refine r_goto DX8_read_87 (tgt := 43) (by decide) ?_
              exact ih _ _ _ e K0

set_option maxRecDepth 100000 in
set_option maxHeartbeats 4000000 in
theorem lp_X8_read_L116 {l : Launch} {g : xG} {a : xT} {R : Option Value × xS} (N : Nat) (v1 : Int32) : ∀ (n : Nat) (v3 : Int32) (b : xT) (r : (xT)), f_X8_read_L116 N v1 n v3 b = some r → Rx l g 5 M_X8_read 169 [some (.ref (xa g 44)), some (.int v1), none, none] [] (a, r) R → Rx l g 5 M_X8_read 116 [some (.ref (xa g 44)), some (.int v1), none, some (.int v3)] [] (a, b) R := by
  intro n
  induction n with
  | zero => intro v3_ s_ r_ e; cases e
  | succ n ih =>
    intro v3 b r e K0
    rw [f_X8_read_L116] at e
    refine r_iload_n DX8_read_116 (i := 3) rfl rfl ?_
    refine r_iconst DX8_read_117 (v := 1) (by decide) ?_
    refine r_aload_n DX8_read_118 (i := 0) rfl rfl ?_
    refine r_get (v := .int (gI b 0)) DX8_read_119 F_X8_7 e_44 rfl ?_
    refine r_ishl DX8_read_122 ?_
    refine r_icmp_ge DX8_read_123 (tgt := 169) (by decide) (fun c123 => ?_) (fun c123 => ?_)
    · replace e := x_ift c123 e
      obtain rfl := Option.some.inj e
      refine r_mask (L' := [some (.ref (xa g 44)), some (.int v1), none, none]) [true, true, false, false] rfl ?_
      exact K0
    · replace e := x_iff c123 e
      refine r_aload_n DX8_read_126 (i := 0) rfl rfl ?_
      refine r_get (v := .int (gI b 11)) DX8_read_127 F_X8_170 e_44 rfl ?_
      refine r_bipush DX8_read_130 (v := 64) (by decide) ?_
      refine r_icmp_gt DX8_read_132 (tgt := 163) (by decide) (fun c132 => ?_) (fun c132 => ?_)
      · replace e := x_ift c132 e
        refine r_iinc (L' := [some (.ref (xa g 44)), some (.int v1), none, some (.int (v3 + 1))]) DX8_read_163 (x := v3) (v := (v3 + 1)) rfl rfl (by decide) rfl rfl ?_
        refine r_goto DX8_read_166 (tgt := 116) (by decide) ?_
        exact ih _ _ _ e K0
      · replace e := x_iff c132 e
        refine r_aload_n DX8_read_135 (i := 0) rfl rfl ?_
        refine r_iload_n DX8_read_136 (i := 3) rfl rfl ?_
        obtain ⟨q137, e137, e⟩ := x_bnd e
        refine r_callV1 (As := [.int v3]) (S := []) DX8_read_137 C_X8_272 (ci := 8) rfl rfl e_44 (by decide) (by decide) (Nat.le_of_ble_eq_true rfl) (t_X8_holds N v3 b e137) rfl ?_
        refine r_if_eq DX8_read_140 (tgt := 163) (by decide) (fun c140 => ?_) (fun c140 => ?_)
        · replace e := x_ift c140 e
          refine r_iinc (L' := [some (.ref (xa g 44)), some (.int v1), none, some (.int (v3 + 1))]) DX8_read_163 (x := v3) (v := (v3 + 1)) rfl rfl (by decide) rfl rfl ?_
          refine r_goto DX8_read_166 (tgt := 116) (by decide) ?_
          exact ih _ _ _ e K0
        · replace e := x_iff c140 e
          refine r_aload_n DX8_read_143 (i := 0) rfl rfl ?_
          refine r_get (v := .ref (xa g 51)) DX8_read_144 F_X8_35 e_44 rfl ?_
          refine r_aload_n DX8_read_147 (i := 0) rfl rfl ?_
          refine r_get (v := .int (gI q137.2 11)) DX8_read_148 F_X8_170 e_44 rfl ?_
          refine r_iload_n DX8_read_151 (i := 3) rfl rfl ?_
          obtain ⟨c152, e⟩ := x_grd e
          refine r_iast (f := (gA q137.2 51)) DX8_read_152 e_51 rfl c152 p_51 ?_
          refine r_aload_n DX8_read_153 (i := 0) rfl rfl ?_
          refine r_dup DX8_read_154 rfl ?_
          refine r_get (v := .int (gI q137.2 11)) DX8_read_155 F_X8_170 e_44 rfl ?_
          refine r_iconst DX8_read_158 (v := 1) (by decide) ?_
          refine r_iadd DX8_read_159 ?_
          refine r_put (ty := .int) DX8_read_160 F_X8_170 Fp_8_11 e_44 rfl rfl (Nat.le_of_ble_eq_true rfl) p_44_11 ?_
          refine r_iinc (L' := [some (.ref (xa g 44)), some (.int v1), none, some (.int (v3 + 1))]) DX8_read_163 (x := v3) (v := (v3 + 1)) rfl rfl (by decide) rfl rfl ?_
          refine r_goto DX8_read_166 (tgt := 116) (by decide) ?_
          exact ih _ _ _ e K0

set_option maxRecDepth 100000 in
set_option maxHeartbeats 4000000 in
theorem t_X8_read {l : Launch} {g : xG} {a : xT} (N : Nat) (v1 : Int32) (b : xT)  {r : (Int32 × xT)} (e : f_X8_read N v1 b = some r) : Ev l g 5 yX8_read M_X8_read [.ref (xa g 44), .int v1] (a, b) (some (.int r.1), (a, r.2)) := by
  unfold f_X8_read at e
  refine Ev.of 2 (L0 := [some (.ref (xa g 44)), some (.int v1), none, none]) (by decide) rfl (Nat.le_of_ble_eq_true rfl) rfl ?_
  refine r_iload_n DX8_read_0 (i := 1) rfl rfl ?_
  obtain ⟨q1, e1, e⟩ := x_bnd e
  refine r_callS1 (As := [.int v1]) (S := []) DX8_read_1 C_X8_76 (by decide) (by decide) (Nat.le_of_ble_eq_true rfl) (t_X8_isList v1 e1) rfl ?_
  refine r_if_ne DX8_read_4 (tgt := 11) (by decide) (fun c4 => ?_) (fun c4 => ?_)
  · replace e := x_iff c4 e
    refine r_aload_n DX8_read_11 (i := 0) rfl rfl ?_
    refine r_iconst DX8_read_12 (v := (-1)) (by decide) ?_
    refine r_put (ty := .int) DX8_read_13 F_X8_41 Fp_8_15 e_44 rfl rfl (Nat.le_of_ble_eq_true rfl) p_44_15 ?_
    refine r_aload_n DX8_read_16 (i := 0) rfl rfl ?_
    refine r_iconst DX8_read_17 (v := 0) (by decide) ?_
    refine r_put (ty := .int) DX8_read_18 F_X8_186 Fp_8_16 e_44 rfl rfl (Nat.le_of_ble_eq_true rfl) p_44_16 ?_
    refine r_aload_n DX8_read_21 (i := 0) rfl rfl ?_
    refine r_iconst DX8_read_22 (v := 0) (by decide) ?_
    refine r_put (ty := .int) DX8_read_23 F_X8_222 Fp_8_20 e_44 rfl rfl (Nat.le_of_ble_eq_true rfl) p_44_20 ?_
    refine r_aload_n DX8_read_26 (i := 0) rfl rfl ?_
    refine r_iconst DX8_read_27 (v := 0) (by decide) ?_
    refine r_put (ty := .int) DX8_read_28 F_X8_225 Fp_8_23 e_44 rfl rfl (Nat.le_of_ble_eq_true rfl) p_44_23 ?_
    refine r_aload_n DX8_read_31 (i := 0) rfl rfl ?_
    refine r_iconst DX8_read_32 (v := 0) (by decide) ?_
    refine r_put (ty := .int) DX8_read_33 F_X8_254 Fp_8_25 e_44 rfl rfl (Nat.le_of_ble_eq_true rfl) p_44_25 ?_
    refine r_aload_n DX8_read_36 (i := 0) rfl rfl ?_
    refine r_iconst DX8_read_37 (v := 1) (by decide) ?_
    refine r_put (ty := .boolean) DX8_read_38 F_X8_247 Fp_8_26 e_44 (by decide) (by decide) (Nat.le_of_ble_eq_true rfl) p_44_26 ?_
    refine r_iconst DX8_read_41 (v := 0) (by decide) ?_
    refine r_istore_n (L' := [some (.ref (xa g 44)), some (.int v1), some (.int 0), none]) DX8_read_42 (i := 2) rfl (by decide) rfl rfl ?_
    obtain ⟨q43, e43, e⟩ := x_bnd e
    refine lp_X8_read_L43 N v1 N 0 (sI (sI (sI (sI (sI (sI b 15 (-1)) 16 0) 20 0) 23 0) 25 0) 26 1) q43 e43 ?_
    refine r_aload_n DX8_read_90 (i := 0) rfl rfl ?_
    refine r_iconst DX8_read_91 (v := 0) (by decide) ?_
    refine r_put (ty := .int) DX8_read_92 F_X8_181 Fp_8_14 e_44 rfl rfl (Nat.le_of_ble_eq_true rfl) p_44_14 ?_
    refine r_iload_n DX8_read_95 (i := 2) rfl rfl ?_
    refine r_if_le DX8_read_96 (tgt := 104) (by decide) (fun c96 => ?_) (fun c96 => ?_)
    · replace e := x_ift c96 e
      refine r_aload_n DX8_read_104 (i := 0) rfl rfl ?_
      refine r_iconst DX8_read_105 (v := 0) (by decide) ?_
      obtain ⟨q106, e106, e⟩ := x_bnd e
      refine r_callV0 (As := [.int 0]) (S := []) DX8_read_106 C_X8_244 (ci := 8) rfl rfl e_44 (by decide) (by decide) (Nat.le_of_ble_eq_true rfl) (t_X8_work N 0 (sI (q43.2) 14 0) e106) rfl ?_
      refine r_aload_n DX8_read_109 (i := 0) rfl rfl ?_
      refine r_iconst DX8_read_110 (v := 0) (by decide) ?_
      refine r_put (ty := .int) DX8_read_111 F_X8_170 Fp_8_11 e_44 rfl rfl (Nat.le_of_ble_eq_true rfl) p_44_11 ?_
      refine r_iconst DX8_read_114 (v := 0) (by decide) ?_
      refine r_istore_n (L' := [some (.ref (xa g 44)), some (.int v1), some (.int (q43.1)), some (.int 0)]) DX8_read_115 (i := 3) rfl (by decide) rfl rfl ?_
      obtain ⟨q116, e116, e⟩ := x_bnd e
      refine r_mask (L' := [some (.ref (xa g 44)), some (.int v1), none, some (.int 0)]) [true, true, false, true] rfl ?_
      refine lp_X8_read_L116 N v1 N 0 (sI q106 11 0) q116 e116 ?_
      refine r_aload_n DX8_read_169 (i := 0) rfl rfl ?_
      refine r_get (v := .int (gI q116 11)) DX8_read_170 F_X8_170 e_44 rfl ?_
      refine r_bipush DX8_read_173 (v := 64) (by decide) ?_
      refine r_icmp_le DX8_read_175 (tgt := 184) (by decide) (fun c175 => ?_) (fun c175 => ?_)
      · replace e := x_ift c175 e
        refine r_aload_n DX8_read_184 (i := 0) rfl rfl ?_
        refine r_iload_n DX8_read_185 (i := 1) rfl rfl ?_
        obtain ⟨q186, e186, e⟩ := x_bnd e
        refine r_callV1 (As := [.int v1]) (S := []) DX8_read_186 C_X8_176 (ci := 8) rfl rfl e_44 (by decide) (by decide) (Nat.le_of_ble_eq_true rfl) (t_X8_keep N v1 q116 e186) rfl ?_
        obtain rfl := Option.some.inj e
        exact r_iret DX8_read_189 rfl rfl
      · replace e := x_iff c175 e
        refine r_sipush DX8_read_178 (v := (-1005)) (by decide) ?_
        refine r_goto DX8_read_181 (tgt := 189) (by decide) ?_
        obtain rfl := Option.some.inj e
        exact r_iret DX8_read_189 rfl rfl
    · replace e := x_iff c96 e
      refine r_bipush DX8_read_99 (v := (-10)) (by decide) ?_
      refine r_iload_n DX8_read_101 (i := 2) rfl rfl ?_
      refine r_isub DX8_read_102 ?_
      obtain rfl := Option.some.inj e
      exact r_iret DX8_read_103 rfl rfl
  · replace e := x_ift c4 e
    refine r_sipush DX8_read_7 (v := (-1001)) (by decide) ?_
    obtain rfl := Option.some.inj e
    exact r_iret DX8_read_10 rfl rfl

set_option maxRecDepth 100000 in
set_option maxHeartbeats 4000000 in
theorem lp_X8_shorten_L46 {l : Launch} {g : xG} {a : xT} {R : Option Value × xS} (N : Nat) (v1 : Int32) (v2 : Int32) (v3 : Int32) : ∀ (n : Nat) (v4 : Int32) (b : xT) (r : (xT)), f_X8_shorten_L46 N v1 v2 v3 n v4 b = some r → Rx l g 2 M_X8_shorten 93 [some (.ref (xa g 44)), some (.int v1), none, none, none, none] [] (a, r) R → Rx l g 2 M_X8_shorten 46 [some (.ref (xa g 44)), some (.int v1), some (.int v2), some (.int v3), some (.int v4), none] [] (a, b) R := by
  intro n
  induction n with
  | zero => intro v4_ s_ r_ e; cases e
  | succ n ih =>
    intro v4 b r e K0
    rw [f_X8_shorten_L46] at e
    refine r_iload DX8_shorten_46 rfl ?_
    refine r_aload_n DX8_shorten_48 (i := 0) rfl rfl ?_
    refine r_get (v := .ref (xa g 45)) DX8_shorten_49 F_X8_16 e_44 rfl ?_
    refine r_iload_n DX8_shorten_52 (i := 2) rfl rfl ?_
    obtain ⟨c53, e⟩ := x_grd e
    refine r_iald (f := (gA b 45)) DX8_shorten_53 e_45 rfl c53 ?_
    refine r_icmp_ge DX8_shorten_54 (tgt := 93) (by decide) (fun c54 => ?_) (fun c54 => ?_)
    · replace e := x_ift c54 e
      obtain rfl := Option.some.inj e
      refine r_mask (L' := [some (.ref (xa g 44)), some (.int v1), none, none, none, none]) [true, true, false, false, false, false] rfl ?_
      exact K0
    · replace e := x_iff c54 e
      refine r_aload_n DX8_shorten_57 (i := 0) rfl rfl ?_
      refine r_iload_n DX8_shorten_58 (i := 2) rfl rfl ?_
      refine r_iload DX8_shorten_59 rfl ?_
      obtain ⟨q61, e61, e⟩ := x_bnd e
      refine r_callV1 (As := [.int v2, .int v4]) (S := []) DX8_shorten_61 C_X8_138 (ci := 8) rfl rfl e_44 (by decide) (by decide) (Nat.le_of_ble_eq_true rfl) (t_X8_at v2 v4 b e61) rfl ?_
      refine r_istore (L' := [some (.ref (xa g 44)), some (.int v1), some (.int v2), some (.int v3), some (.int v4), some (.int q61)]) DX8_shorten_64 (by decide) rfl rfl ?_
      refine r_aload_n DX8_shorten_66 (i := 0) rfl rfl ?_
      refine r_iload DX8_shorten_67 rfl ?_
      refine r_iconst DX8_shorten_69 (v := 1) (by decide) ?_
      refine r_iload_n DX8_shorten_70 (i := 3) rfl rfl ?_
      refine r_ishl DX8_shorten_71 ?_
      refine r_iconst DX8_shorten_72 (v := 1) (by decide) ?_
      refine r_isub DX8_shorten_73 ?_
      refine r_iand DX8_shorten_74 ?_
      refine r_iload DX8_shorten_75 rfl ?_
      refine r_iload_n DX8_shorten_77 (i := 3) rfl rfl ?_
      refine r_iconst DX8_shorten_78 (v := 1) (by decide) ?_
      refine r_iadd DX8_shorten_79 ?_
      refine r_ishr DX8_shorten_80 ?_
      refine r_iload_n DX8_shorten_81 (i := 3) rfl rfl ?_
      refine r_ishl DX8_shorten_82 ?_
      refine r_ior DX8_shorten_83 ?_
      obtain ⟨q84, e84, e⟩ := x_bnd e
      refine r_callV0 (As := [.int ((q61 &&& (((1 : Int32) <<< (v3 &&& 31)) - 1)) ||| ((q61 >>> ((v3 + 1) &&& 31)) <<< (v3 &&& 31)))]) (S := []) DX8_shorten_84 C_X8_173 (ci := 8) rfl rfl e_44 (by decide) (by decide) (Nat.le_of_ble_eq_true rfl) (t_X8_come N ((q61 &&& (((1 : Int32) <<< (v3 &&& 31)) - 1)) ||| ((q61 >>> ((v3 + 1) &&& 31)) <<< (v3 &&& 31))) b e84) rfl ?_
      refine r_iinc (L' := [some (.ref (xa g 44)), some (.int v1), some (.int v2), some (.int v3), some (.int (v4 + 1)), some (.int q61)]) DX8_shorten_87 (x := v4) (v := (v4 + 1)) rfl rfl (by decide) rfl rfl ?_
      refine r_goto DX8_shorten_90 (tgt := 46) (by decide) ?_
      refine r_mask (L' := [some (.ref (xa g 44)), some (.int v1), some (.int v2), some (.int v3), some (.int (v4 + 1)), none]) [true, true, true, true, true, false] rfl ?_
      exact ih _ _ _ e K0

set_option maxRecDepth 100000 in
set_option maxHeartbeats 4000000 in
theorem t_X8_shorten {l : Launch} {g : xG} {a : xT} (N : Nat) (v1 : Int32) (v2 : Int32) (v3 : Int32) (b : xT)  {r : (Int32 × xT)} (e : f_X8_shorten N v1 v2 v3 b = some r) : Ev l g 2 yX8_shorten M_X8_shorten [.ref (xa g 44), .int v1, .int v2, .int v3] (a, b) (some (.int r.1), (a, r.2)) := by
  unfold f_X8_shorten at e
  refine Ev.of 2 (L0 := [some (.ref (xa g 44)), some (.int v1), some (.int v2), some (.int v3), none, none]) (by decide) rfl (Nat.le_of_ble_eq_true rfl) rfl ?_
  refine r_iload_n DX8_shorten_0 (i := 1) rfl rfl ?_
  obtain ⟨q1, e1, e⟩ := x_bnd e
  refine r_callS1 (As := [.int v1]) (S := []) DX8_shorten_1 C_X8_76 (by decide) (by decide) (Nat.le_of_ble_eq_true rfl) (t_X8_isList v1 e1) rfl ?_
  refine r_if_eq DX8_shorten_4 (tgt := 14) (by decide) (fun c4 => ?_) (fun c4 => ?_)
  · replace e := x_ift c4 e
    refine r_sipush DX8_shorten_14 (v := (-1001)) (by decide) ?_
    obtain rfl := Option.some.inj e
    exact r_iret DX8_shorten_17 rfl rfl
  · replace e := x_iff c4 e
    refine r_iload_n DX8_shorten_7 (i := 2) rfl rfl ?_
    obtain ⟨q8, e8, e⟩ := x_bnd e
    refine r_callS1 (As := [.int v2]) (S := []) DX8_shorten_8 C_X8_76 (by decide) (by decide) (Nat.le_of_ble_eq_true rfl) (t_X8_isList v2 e8) rfl ?_
    refine r_if_ne DX8_shorten_11 (tgt := 18) (by decide) (fun c11 => ?_) (fun c11 => ?_)
    · replace e := x_iff c11 e
      refine r_iload_n DX8_shorten_18 (i := 3) rfl rfl ?_
      refine r_i2l DX8_shorten_19 ?_
      refine r_lconst DX8_shorten_20 (v := 0) (by decide) ?_
      refine r_aload_n DX8_shorten_21 (i := 0) rfl rfl ?_
      refine r_get (v := .int (gI b 0)) DX8_shorten_22 F_X8_7 e_44 rfl ?_
      refine r_iconst DX8_shorten_25 (v := 1) (by decide) ?_
      refine r_isub DX8_shorten_26 ?_
      refine r_i2l DX8_shorten_27 ?_
      obtain ⟨q28, e28, e⟩ := x_bnd e
      refine r_callS1 (As := [.long (Int32.toInt64 v3), .long 0, .long (Int32.toInt64 ((gI b 0) - 1))]) (S := []) DX8_shorten_28 C_X8_70 (by decide) (by decide) (Nat.le_of_ble_eq_true rfl) (t_X8_in (Int32.toInt64 v3) 0 (Int32.toInt64 ((gI b 0) - 1)) e28) rfl ?_
      refine r_if_ne DX8_shorten_31 (tgt := 38) (by decide) (fun c31 => ?_) (fun c31 => ?_)
      · replace e := x_iff c31 e
        refine r_aload_n DX8_shorten_38 (i := 0) rfl rfl ?_
        refine r_iconst DX8_shorten_39 (v := 0) (by decide) ?_
        refine r_put (ty := .int) DX8_shorten_40 F_X8_170 Fp_8_11 e_44 rfl rfl (Nat.le_of_ble_eq_true rfl) p_44_11 ?_
        refine r_iconst DX8_shorten_43 (v := 0) (by decide) ?_
        refine r_istore (L' := [some (.ref (xa g 44)), some (.int v1), some (.int v2), some (.int v3), some (.int 0), none]) DX8_shorten_44 (by decide) rfl rfl ?_
        obtain ⟨q46, e46, e⟩ := x_bnd e
        refine lp_X8_shorten_L46 N v1 v2 v3 N 0 (sI b 11 0) q46 e46 ?_
        refine r_aload_n DX8_shorten_93 (i := 0) rfl rfl ?_
        refine r_iload_n DX8_shorten_94 (i := 1) rfl rfl ?_
        obtain ⟨q95, e95, e⟩ := x_bnd e
        refine r_callV1 (As := [.int v1]) (S := []) DX8_shorten_95 C_X8_176 (ci := 8) rfl rfl e_44 (by decide) (by decide) (Nat.le_of_ble_eq_true rfl) (t_X8_keep N v1 q46 e95) rfl ?_
        obtain rfl := Option.some.inj e
        exact r_iret DX8_shorten_98 rfl rfl
      · replace e := x_ift c31 e
        refine r_sipush DX8_shorten_34 (v := (-1002)) (by decide) ?_
        obtain rfl := Option.some.inj e
        exact r_iret DX8_shorten_37 rfl rfl
    · replace e := x_ift c11 e
      refine r_sipush DX8_shorten_14 (v := (-1001)) (by decide) ?_
      obtain rfl := Option.some.inj e
      exact r_iret DX8_shorten_17 rfl rfl

set_option maxRecDepth 100000 in
set_option maxHeartbeats 4000000 in
theorem lp_X8_trace_L51 {l : Launch} {g : xG} {a : xT} {R : Option Value × xS} (v4 : Int32) (b : xT) : ∀ (n : Nat) (v5 : Int32) (v6 : Int32) (r : (Int32)), f_X8_trace_L51 v4 b n v5 v6 = some r → Rx l g 3 M_X8_trace 79 [some (.ref (xa g 44)), none, none, none, some (.int v4), some (.int r), none] [] (a, b) R → Rx l g 3 M_X8_trace 51 [some (.ref (xa g 44)), none, none, none, some (.int v4), some (.int v5), some (.int v6)] [] (a, b) R := by
  intro n
  induction n with
  | zero => intro v5_ v6_ r_ e; cases e
  | succ n ih =>
    intro v5 v6 r e K0
    rw [f_X8_trace_L51] at e
    refine r_iload DX8_trace_51 rfl ?_
    refine r_bipush DX8_trace_53 (v := 64) (by decide) ?_
    refine r_icmp_ge DX8_trace_55 (tgt := 79) (by decide) (fun c55 => ?_) (fun c55 => ?_)
    · replace e := x_ift c55 e
      obtain rfl := Option.some.inj e
      refine r_mask (L' := [some (.ref (xa g 44)), none, none, none, some (.int v4), some (.int v5), none]) [true, false, false, false, true, true, false] rfl ?_
      exact K0
    · replace e := x_iff c55 e
      refine r_iload DX8_trace_58 rfl ?_
      refine r_aload_n DX8_trace_60 (i := 0) rfl rfl ?_
      refine r_get (v := .long (gJ b 34)) DX8_trace_61 F_X8_307 e_44 rfl ?_
      refine r_iload DX8_trace_64 rfl ?_
      refine r_lshr DX8_trace_66 ?_
      refine r_lconst DX8_trace_67 (v := 1) (by decide) ?_
      refine r_land DX8_trace_68 ?_
      refine r_l2i DX8_trace_69 ?_
      refine r_iadd DX8_trace_70 ?_
      obtain ⟨w71, e71, e⟩ := x_bnd e
      refine r_istoreB (L' := [some (.ref (xa g 44)), none, none, none, some (.int v4), some (.int w71), some (.int v6)]) (w := w71) DX8_trace_71 (Option.some.inj e71) (by decide) rfl rfl ?_
      refine r_iinc (L' := [some (.ref (xa g 44)), none, none, none, some (.int v4), some (.int w71), some (.int (v6 + 1))]) DX8_trace_73 (x := v6) (v := (v6 + 1)) rfl rfl (by decide) rfl rfl ?_
      refine r_goto DX8_trace_76 (tgt := 51) (by decide) ?_
      exact ih _ _ _ e K0

set_option maxRecDepth 100000 in
set_option maxHeartbeats 4000000 in
theorem t_X8_trace {l : Launch} {g : xG} {a : xT} (N : Nat) (v1 : Int32) (v2 : Int32) (v3 : Int32) (v4 : Int32) (b : xT)  {r : (Int32 × xT)} (e : f_X8_trace N v1 v2 v3 v4 b = some r) : Ev l g 3 yX8_trace M_X8_trace [.ref (xa g 44), .int v1, .int v2, .int v3, .int v4] (a, b) (some (.int r.1), (a, r.2)) := by
  unfold f_X8_trace at e
  refine Ev.of 2 (L0 := [some (.ref (xa g 44)), some (.int v1), some (.int v2), some (.int v3), some (.int v4), none, none]) (by decide) rfl (Nat.le_of_ble_eq_true rfl) rfl ?_
  refine r_iload_n DX8_trace_0 (i := 1) rfl rfl ?_
  obtain ⟨q1, e1, e⟩ := x_bnd e
  refine r_callS1 (As := [.int v1]) (S := []) DX8_trace_1 C_X8_76 (by decide) (by decide) (Nat.le_of_ble_eq_true rfl) (t_X8_isList v1 e1) rfl ?_
  refine r_if_ne DX8_trace_4 (tgt := 11) (by decide) (fun c4 => ?_) (fun c4 => ?_)
  · replace e := x_iff c4 e
    refine r_aload_n DX8_trace_11 (i := 0) rfl rfl ?_
    refine r_iload_n DX8_trace_12 (i := 1) rfl rfl ?_
    refine r_iload_n DX8_trace_13 (i := 2) rfl rfl ?_
    refine r_iload_n DX8_trace_14 (i := 3) rfl rfl ?_
    obtain ⟨q15, e15, e⟩ := x_bnd e
    refine r_callV1 (As := [.int v1, .int v2, .int v3]) (S := []) DX8_trace_15 C_X8_286 (ci := 8) rfl rfl e_44 (by decide) (by decide) (Nat.le_of_ble_eq_true rfl) (t_X8_isAsked v1 v2 v3 b e15) rfl ?_
    refine r_if_eq DX8_trace_18 (tgt := 34) (by decide) (fun c18 => ?_) (fun c18 => ?_)
    · replace e := x_ift c18 e
      refine r_sipush DX8_trace_34 (v := (-1002)) (by decide) ?_
      obtain rfl := Option.some.inj e
      exact r_iret DX8_trace_37 rfl rfl
    · replace e := x_iff c18 e
      refine r_iload DX8_trace_21 rfl ?_
      refine r_i2l DX8_trace_23 ?_
      refine r_lconst DX8_trace_24 (v := 0) (by decide) ?_
      refine r_ldc2 DX8_trace_25 K_X8_80 ?_
      obtain ⟨q28, e28, e⟩ := x_bnd e
      refine r_callS1 (As := [.long (Int32.toInt64 v4), .long 0, .long 2]) (S := []) DX8_trace_28 C_X8_70 (by decide) (by decide) (Nat.le_of_ble_eq_true rfl) (t_X8_in (Int32.toInt64 v4) 0 2 e28) rfl ?_
      refine r_if_ne DX8_trace_31 (tgt := 38) (by decide) (fun c31 => ?_) (fun c31 => ?_)
      · replace e := x_iff c31 e
        refine r_aload_n DX8_trace_38 (i := 0) rfl rfl ?_
        refine r_iload_n DX8_trace_39 (i := 1) rfl rfl ?_
        refine r_iload_n DX8_trace_40 (i := 2) rfl rfl ?_
        refine r_iload_n DX8_trace_41 (i := 3) rfl rfl ?_
        obtain ⟨q42, e42, e⟩ := x_bnd e
        refine r_callV0 (As := [.int v1, .int v2, .int v3]) (S := []) DX8_trace_42 C_X8_313 (ci := 8) rfl rfl e_44 (by decide) (by decide) (Nat.le_of_ble_eq_true rfl) (t_X8_findRings N v1 v2 v3 b e42) rfl ?_
        refine r_iconst DX8_trace_45 (v := 0) (by decide) ?_
        refine r_istore (L' := [some (.ref (xa g 44)), some (.int v1), some (.int v2), some (.int v3), some (.int v4), some (.int 0), none]) DX8_trace_46 (by decide) rfl rfl ?_
        refine r_iconst DX8_trace_48 (v := 0) (by decide) ?_
        refine r_istore (L' := [some (.ref (xa g 44)), some (.int v1), some (.int v2), some (.int v3), some (.int v4), some (.int 0), some (.int 0)]) DX8_trace_49 (by decide) rfl rfl ?_
        obtain ⟨q51, e51, e⟩ := x_bnd e
        refine r_mask (L' := [some (.ref (xa g 44)), none, none, none, some (.int v4), some (.int 0), some (.int 0)]) [true, false, false, false, true, true, true] rfl ?_
        refine lp_X8_trace_L51 v4 q42 N 0 0 q51 e51 ?_
        refine r_iload DX8_trace_79 rfl ?_
        refine r_if_ne DX8_trace_81 (tgt := 91) (by decide) (fun c81 => ?_) (fun c81 => ?_)
        · replace e := x_iff c81 e
          refine r_iload DX8_trace_91 rfl ?_
          refine r_iconst DX8_trace_93 (v := 1) (by decide) ?_
          refine r_icmp_ne DX8_trace_94 (tgt := 104) (by decide) (fun c94 => ?_) (fun c94 => ?_)
          · replace e := x_iff c94 e
            refine r_aload_n DX8_trace_104 (i := 0) rfl rfl ?_
            refine r_get (v := .int (gI q42 32)) DX8_trace_105 F_X8_301 e_44 rfl ?_
            refine r_if_ne DX8_trace_108 (tgt := 115) (by decide) (fun c108 => ?_) (fun c108 => ?_)
            · replace e := x_iff c108 e
              refine r_iload DX8_trace_115 rfl ?_
              obtain rfl := Option.some.inj e
              exact r_iret DX8_trace_117 rfl rfl
            · replace e := x_ift c108 e
              refine r_iconst DX8_trace_111 (v := (-1)) (by decide) ?_
              refine r_goto DX8_trace_112 (tgt := 117) (by decide) ?_
              obtain rfl := Option.some.inj e
              exact r_iret DX8_trace_117 rfl rfl
          · replace e := x_ift c94 e
            refine r_aload_n DX8_trace_97 (i := 0) rfl rfl ?_
            refine r_get (v := .int (gI q42 33)) DX8_trace_98 F_X8_304 e_44 rfl ?_
            refine r_goto DX8_trace_101 (tgt := 117) (by decide) ?_
            obtain rfl := Option.some.inj e
            exact r_iret DX8_trace_117 rfl rfl
        · replace e := x_ift c81 e
          refine r_aload_n DX8_trace_84 (i := 0) rfl rfl ?_
          refine r_get (v := .int (gI q42 32)) DX8_trace_85 F_X8_301 e_44 rfl ?_
          refine r_goto DX8_trace_88 (tgt := 117) (by decide) ?_
          obtain rfl := Option.some.inj e
          exact r_iret DX8_trace_117 rfl rfl
      · replace e := x_ift c31 e
        refine r_sipush DX8_trace_34 (v := (-1002)) (by decide) ?_
        obtain rfl := Option.some.inj e
        exact r_iret DX8_trace_37 rfl rfl
  · replace e := x_ift c4 e
    refine r_sipush DX8_trace_7 (v := (-1001)) (by decide) ?_
    obtain rfl := Option.some.inj e
    exact r_iret DX8_trace_10 rfl rfl

set_option maxRecDepth 100000 in
set_option maxHeartbeats 4000000 in
theorem lp_X8_turn_L25 {l : Launch} {g : xG} {a : xT} {R : Option Value × xS} (N : Nat) (v1 : Int32) (v2 : Int32) : ∀ (n : Nat) (v3 : Int32) (b : xT) (r : (xT)), f_X8_turn_L25 N v1 v2 n v3 b = some r → Rx l g 2 M_X8_turn 55 [some (.ref (xa g 44)), some (.int v1), none, none] [] (a, r) R → Rx l g 2 M_X8_turn 25 [some (.ref (xa g 44)), some (.int v1), some (.int v2), some (.int v3)] [] (a, b) R := by
  intro n
  induction n with
  | zero => intro v3_ s_ r_ e; cases e
  | succ n ih =>
    intro v3 b r e K0
    rw [f_X8_turn_L25] at e
    refine r_iload_n DX8_turn_25 (i := 3) rfl rfl ?_
    refine r_aload_n DX8_turn_26 (i := 0) rfl rfl ?_
    refine r_get (v := .ref (xa g 45)) DX8_turn_27 F_X8_16 e_44 rfl ?_
    refine r_iload_n DX8_turn_30 (i := 2) rfl rfl ?_
    obtain ⟨c31, e⟩ := x_grd e
    refine r_iald (f := (gA b 45)) DX8_turn_31 e_45 rfl c31 ?_
    refine r_icmp_ge DX8_turn_32 (tgt := 55) (by decide) (fun c32 => ?_) (fun c32 => ?_)
    · replace e := x_ift c32 e
      obtain rfl := Option.some.inj e
      refine r_mask (L' := [some (.ref (xa g 44)), some (.int v1), none, none]) [true, true, false, false] rfl ?_
      exact K0
    · replace e := x_iff c32 e
      refine r_aload_n DX8_turn_35 (i := 0) rfl rfl ?_
      refine r_aload_n DX8_turn_36 (i := 0) rfl rfl ?_
      refine r_aload_n DX8_turn_37 (i := 0) rfl rfl ?_
      refine r_iload_n DX8_turn_38 (i := 2) rfl rfl ?_
      refine r_iload_n DX8_turn_39 (i := 3) rfl rfl ?_
      obtain ⟨q40, e40, e⟩ := x_bnd e
      refine r_callV1 (As := [.int v2, .int v3]) (S := [.ref (xa g 44), .ref (xa g 44)]) DX8_turn_40 C_X8_138 (ci := 8) rfl rfl e_44 (by decide) (by decide) (Nat.le_of_ble_eq_true rfl) (t_X8_at v2 v3 b e40) rfl ?_
      obtain ⟨q43, e43, e⟩ := x_bnd e
      refine r_callV1 (As := [.int q40]) (S := [.ref (xa g 44)]) DX8_turn_43 C_X8_97 (ci := 8) rfl rfl e_44 (by decide) (by decide) (Nat.le_of_ble_eq_true rfl) (t_X8_turnedOf N q40 b e43) rfl ?_
      obtain ⟨q46, e46, e⟩ := x_bnd e
      refine r_callV0 (As := [.int q43]) (S := []) DX8_turn_46 C_X8_173 (ci := 8) rfl rfl e_44 (by decide) (by decide) (Nat.le_of_ble_eq_true rfl) (t_X8_come N q43 b e46) rfl ?_
      refine r_iinc (L' := [some (.ref (xa g 44)), some (.int v1), some (.int v2), some (.int (v3 + 1))]) DX8_turn_49 (x := v3) (v := (v3 + 1)) rfl rfl (by decide) rfl rfl ?_
      refine r_goto DX8_turn_52 (tgt := 25) (by decide) ?_
      exact ih _ _ _ e K0

set_option maxRecDepth 100000 in
set_option maxHeartbeats 4000000 in
theorem t_X8_turn {l : Launch} {g : xG} {a : xT} (N : Nat) (v1 : Int32) (v2 : Int32) (b : xT)  {r : (Int32 × xT)} (e : f_X8_turn N v1 v2 b = some r) : Ev l g 2 yX8_turn M_X8_turn [.ref (xa g 44), .int v1, .int v2] (a, b) (some (.int r.1), (a, r.2)) := by
  unfold f_X8_turn at e
  refine Ev.of 1 (L0 := [some (.ref (xa g 44)), some (.int v1), some (.int v2), none]) (by decide) rfl (Nat.le_of_ble_eq_true rfl) rfl ?_
  refine r_iload_n DX8_turn_0 (i := 1) rfl rfl ?_
  obtain ⟨q1, e1, e⟩ := x_bnd e
  refine r_callS1 (As := [.int v1]) (S := []) DX8_turn_1 C_X8_76 (by decide) (by decide) (Nat.le_of_ble_eq_true rfl) (t_X8_isList v1 e1) rfl ?_
  refine r_if_eq DX8_turn_4 (tgt := 14) (by decide) (fun c4 => ?_) (fun c4 => ?_)
  · replace e := x_ift c4 e
    refine r_sipush DX8_turn_14 (v := (-1001)) (by decide) ?_
    obtain rfl := Option.some.inj e
    exact r_iret DX8_turn_17 rfl rfl
  · replace e := x_iff c4 e
    refine r_iload_n DX8_turn_7 (i := 2) rfl rfl ?_
    obtain ⟨q8, e8, e⟩ := x_bnd e
    refine r_callS1 (As := [.int v2]) (S := []) DX8_turn_8 C_X8_76 (by decide) (by decide) (Nat.le_of_ble_eq_true rfl) (t_X8_isList v2 e8) rfl ?_
    refine r_if_ne DX8_turn_11 (tgt := 18) (by decide) (fun c11 => ?_) (fun c11 => ?_)
    · replace e := x_iff c11 e
      refine r_aload_n DX8_turn_18 (i := 0) rfl rfl ?_
      refine r_iconst DX8_turn_19 (v := 0) (by decide) ?_
      refine r_put (ty := .int) DX8_turn_20 F_X8_170 Fp_8_11 e_44 rfl rfl (Nat.le_of_ble_eq_true rfl) p_44_11 ?_
      refine r_iconst DX8_turn_23 (v := 0) (by decide) ?_
      refine r_istore_n (L' := [some (.ref (xa g 44)), some (.int v1), some (.int v2), some (.int 0)]) DX8_turn_24 (i := 3) rfl (by decide) rfl rfl ?_
      obtain ⟨q25, e25, e⟩ := x_bnd e
      refine lp_X8_turn_L25 N v1 v2 N 0 (sI b 11 0) q25 e25 ?_
      refine r_aload_n DX8_turn_55 (i := 0) rfl rfl ?_
      refine r_iload_n DX8_turn_56 (i := 1) rfl rfl ?_
      obtain ⟨q57, e57, e⟩ := x_bnd e
      refine r_callV1 (As := [.int v1]) (S := []) DX8_turn_57 C_X8_176 (ci := 8) rfl rfl e_44 (by decide) (by decide) (Nat.le_of_ble_eq_true rfl) (t_X8_keep N v1 q25 e57) rfl ?_
      obtain rfl := Option.some.inj e
      exact r_iret DX8_turn_60 rfl rfl
    · replace e := x_ift c11 e
      refine r_sipush DX8_turn_14 (v := (-1001)) (by decide) ?_
      obtain rfl := Option.some.inj e
      exact r_iret DX8_turn_17 rfl rfl

set_option maxRecDepth 100000 in
set_option maxHeartbeats 4000000 in
theorem t_X8_turned {l : Launch} {g : xG} {a : xT} (N : Nat) (v1 : Int32) (b : xT)  {r : Int32} (e : f_X8_turned N v1 b = some r) : Ev l g 2 yX8_turned M_X8_turned [.ref (xa g 44), .int v1] (a, b) (some (.int r), (a, b)) := by
  unfold f_X8_turned at e
  refine Ev.of 0 (L0 := [some (.ref (xa g 44)), some (.int v1)]) (by decide) rfl (Nat.le_of_ble_eq_true rfl) rfl ?_
  refine r_aload_n DX8_turned_0 (i := 0) rfl rfl ?_
  refine r_iload_n DX8_turned_1 (i := 1) rfl rfl ?_
  obtain ⟨q2, e2, e⟩ := x_bnd e
  refine r_callV1 (As := [.int v1]) (S := []) DX8_turned_2 C_X8_94 (ci := 8) rfl rfl e_44 (by decide) (by decide) (Nat.le_of_ble_eq_true rfl) (t_X8_isMark v1 b e2) rfl ?_
  refine r_if_eq DX8_turned_5 (tgt := 16) (by decide) (fun c5 => ?_) (fun c5 => ?_)
  · replace e := x_ift c5 e
    refine r_sipush DX8_turned_16 (v := (-1002)) (by decide) ?_
    obtain rfl := Option.some.inj e
    exact r_iret DX8_turned_19 rfl rfl
  · replace e := x_iff c5 e
    refine r_aload_n DX8_turned_8 (i := 0) rfl rfl ?_
    refine r_iload_n DX8_turned_9 (i := 1) rfl rfl ?_
    obtain ⟨q10, e10, e⟩ := x_bnd e
    refine r_callV1 (As := [.int v1]) (S := []) DX8_turned_10 C_X8_97 (ci := 8) rfl rfl e_44 (by decide) (by decide) (Nat.le_of_ble_eq_true rfl) (t_X8_turnedOf N v1 b e10) rfl ?_
    refine r_goto DX8_turned_13 (tgt := 19) (by decide) ?_
    obtain rfl := Option.some.inj e
    exact r_iret DX8_turned_19 rfl rfl
