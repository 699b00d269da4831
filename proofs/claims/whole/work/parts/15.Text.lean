set_option maxRecDepth 100000 in
set_option maxHeartbeats 4000000 in
theorem lp_X6_take_L22 {l : Launch} {g : xG} {b : xT} {R : Option Value × xS} (v2 : Int64) : ∀ (n : Nat) (v4 : Int32) (a : xT) (r : (xT)), f_X6_take_L22 v2 n v4 a = some r → Rx l g 0 M_X6_take 64 [none, none, none, none, none] [] (r, b) R → Rx l g 0 M_X6_take 22 [some (.ref (xa g 6)), none, some (.long v2), none, some (.int v4)] [] (a, b) R := by
  intro n
  induction n with
  | zero => intro v4_ s_ r_ e; cases e
  | succ n ih =>
    intro v4 a r e K0
    rw [f_X6_take_L22] at e
    refine r_iload DX6_take_22 rfl ?_
    refine r_if_lt DX6_take_24 (tgt := 64) (by decide) (fun c24 => ?_) (fun c24 => ?_)
    · replace e := x_ift c24 e
      obtain rfl := Option.some.inj e
      refine r_mask (L' := [none, none, none, none, none]) [false, false, false, false, false] rfl ?_
      exact K0
    · replace e := x_iff c24 e
      refine r_aload_n DX6_take_27 (i := 0) rfl rfl ?_
      refine r_get (v := .ref (xa g 7)) DX6_take_28 F_X6_11 e_6 rfl ?_
      refine r_aload_n DX6_take_31 (i := 0) rfl rfl ?_
      refine r_get (v := .int (gI a 5)) DX6_take_32 F_X6_15 e_6 rfl ?_
      refine r_lload_n DX6_take_35 (i := 2) rfl rfl ?_
      refine r_bipush DX6_take_36 (v := 8) (by decide) ?_
      refine r_iload DX6_take_38 rfl ?_
      refine r_imul DX6_take_40 ?_
      refine r_lushr DX6_take_41 ?_
      refine r_l2i DX6_take_42 ?_
      refine r_sipush DX6_take_43 (v := 255) (by decide) ?_
      refine r_iand DX6_take_46 ?_
      obtain ⟨c47, e⟩ := x_grd e
      refine r_iast (f := (gA a 7)) DX6_take_47 e_7 rfl c47 p_7 ?_
      refine r_aload_n DX6_take_48 (i := 0) rfl rfl ?_
      refine r_dup DX6_take_49 rfl ?_
      refine r_get (v := .int (gI a 5)) DX6_take_50 F_X6_15 e_6 rfl ?_
      refine r_iconst DX6_take_53 (v := 1) (by decide) ?_
      refine r_iadd DX6_take_54 ?_
      refine r_put (ty := .int) DX6_take_55 F_X6_15 Fp_6_1 e_6 rfl rfl (Nat.le_of_ble_eq_true rfl) p_6_1 ?_
      refine r_iinc (L' := [some (.ref (xa g 6)), none, some (.long v2), none, some (.int (v4 + (-1)))]) DX6_take_58 (x := v4) (v := (v4 + (-1))) rfl rfl (by decide) rfl rfl ?_
      refine r_goto DX6_take_61 (tgt := 22) (by decide) ?_
      exact ih _ _ _ e K0

set_option maxRecDepth 100000 in
set_option maxHeartbeats 4000000 in
theorem t_X6_take {l : Launch} {g : xG} {b : xT} (N : Nat) (v1 : Int32) (v2 : Int64) (a : xT)  {r : (Int32 × xT)} (e : f_X6_take N v1 v2 a = some r) : Ev l g 0 yX6_take M_X6_take [.ref (xa g 6), .int v1, .long v2] (a, b) (some (.int r.1), (r.2, b)) := by
  unfold f_X6_take at e
  refine Ev.of 1 (L0 := [some (.ref (xa g 6)), some (.int v1), some (.long v2), none, none]) (by decide) rfl (Nat.le_of_ble_eq_true rfl) rfl ?_
  refine r_iload_n DX6_take_0 (i := 1) rfl rfl ?_
  refine r_if_lt DX6_take_1 (tgt := 15) (by decide) (fun c1 => ?_) (fun c1 => ?_)
  · replace e := x_ift c1 e
    refine r_iconst DX6_take_15 (v := 0) (by decide) ?_
    obtain rfl := Option.some.inj e
    exact r_zret DX6_take_16 rfl (by decide) rfl
  · replace e := x_iff c1 e
    refine r_aload_n DX6_take_4 (i := 0) rfl rfl ?_
    refine r_get (v := .int (gI a 5)) DX6_take_5 F_X6_15 e_6 rfl ?_
    refine r_iload_n DX6_take_8 (i := 1) rfl rfl ?_
    refine r_iadd DX6_take_9 ?_
    refine r_bipush DX6_take_10 (v := 120) (by decide) ?_
    refine r_icmp_le DX6_take_12 (tgt := 17) (by decide) (fun c12 => ?_) (fun c12 => ?_)
    · replace e := x_ift c12 e
      refine r_iload_n DX6_take_17 (i := 1) rfl rfl ?_
      refine r_iconst DX6_take_18 (v := 1) (by decide) ?_
      refine r_isub DX6_take_19 ?_
      refine r_istore (L' := [some (.ref (xa g 6)), some (.int v1), some (.long v2), none, some (.int (v1 - 1))]) DX6_take_20 (by decide) rfl rfl ?_
      obtain ⟨q22, e22, e⟩ := x_bnd e
      refine r_mask (L' := [some (.ref (xa g 6)), none, some (.long v2), none, some (.int (v1 - 1))]) [true, false, true, false, true] rfl ?_
      refine lp_X6_take_L22 v2 N (v1 - 1) a q22 e22 ?_
      refine r_iconst DX6_take_64 (v := 1) (by decide) ?_
      obtain rfl := Option.some.inj e
      exact r_zret DX6_take_65 rfl (by decide) rfl
    · replace e := x_iff c12 e
      refine r_iconst DX6_take_15 (v := 0) (by decide) ?_
      obtain rfl := Option.some.inj e
      exact r_zret DX6_take_16 rfl (by decide) rfl

set_option maxRecDepth 100000 in
set_option maxHeartbeats 4000000 in
theorem t_X6_kindOf {l : Launch} {g : xG} {s : xS} (v0 : Int32)  {r : Int32} (e : f_X6_kindOf v0 = some r) : Ev l g 0 yX6_kindOf M_X6_kindOf [.int v0] s (some (.int r), s) := by
  unfold f_X6_kindOf at e
  refine Ev.of 0 (L0 := [some (.int v0)]) (by decide) rfl (Nat.le_of_ble_eq_true rfl) rfl ?_
  refine r_iload_n DX6_kindOf_0 (i := 0) rfl rfl ?_
  refine r_bipush DX6_kindOf_1 (v := 97) (by decide) ?_
  refine r_icmp_lt DX6_kindOf_3 (tgt := 14) (by decide) (fun c3 => ?_) (fun c3 => ?_)
  · replace e := x_ift c3 e
    refine r_iload_n DX6_kindOf_14 (i := 0) rfl rfl ?_
    refine r_bipush DX6_kindOf_15 (v := 48) (by decide) ?_
    refine r_icmp_lt DX6_kindOf_17 (tgt := 30) (by decide) (fun c17 => ?_) (fun c17 => ?_)
    · replace e := x_ift c17 e
      refine r_iconst DX6_kindOf_30 (v := 3) (by decide) ?_
      obtain rfl := Option.some.inj e
      exact r_iret DX6_kindOf_31 rfl rfl
    · replace e := x_iff c17 e
      refine r_iload_n DX6_kindOf_20 (i := 0) rfl rfl ?_
      refine r_bipush DX6_kindOf_21 (v := 57) (by decide) ?_
      refine r_icmp_gt DX6_kindOf_23 (tgt := 30) (by decide) (fun c23 => ?_) (fun c23 => ?_)
      · replace e := x_ift c23 e
        refine r_iconst DX6_kindOf_30 (v := 3) (by decide) ?_
        obtain rfl := Option.some.inj e
        exact r_iret DX6_kindOf_31 rfl rfl
      · replace e := x_iff c23 e
        refine r_iconst DX6_kindOf_26 (v := 2) (by decide) ?_
        refine r_goto DX6_kindOf_27 (tgt := 31) (by decide) ?_
        obtain rfl := Option.some.inj e
        exact r_iret DX6_kindOf_31 rfl rfl
  · replace e := x_iff c3 e
    refine r_iload_n DX6_kindOf_6 (i := 0) rfl rfl ?_
    refine r_bipush DX6_kindOf_7 (v := 122) (by decide) ?_
    refine r_icmp_gt DX6_kindOf_9 (tgt := 14) (by decide) (fun c9 => ?_) (fun c9 => ?_)
    · replace e := x_ift c9 e
      refine r_iload_n DX6_kindOf_14 (i := 0) rfl rfl ?_
      refine r_bipush DX6_kindOf_15 (v := 48) (by decide) ?_
      refine r_icmp_lt DX6_kindOf_17 (tgt := 30) (by decide) (fun c17 => ?_) (fun c17 => ?_)
      · replace e := x_ift c17 e
        refine r_iconst DX6_kindOf_30 (v := 3) (by decide) ?_
        obtain rfl := Option.some.inj e
        exact r_iret DX6_kindOf_31 rfl rfl
      · replace e := x_iff c17 e
        refine r_iload_n DX6_kindOf_20 (i := 0) rfl rfl ?_
        refine r_bipush DX6_kindOf_21 (v := 57) (by decide) ?_
        refine r_icmp_gt DX6_kindOf_23 (tgt := 30) (by decide) (fun c23 => ?_) (fun c23 => ?_)
        · replace e := x_ift c23 e
          refine r_iconst DX6_kindOf_30 (v := 3) (by decide) ?_
          obtain rfl := Option.some.inj e
          exact r_iret DX6_kindOf_31 rfl rfl
        · replace e := x_iff c23 e
          refine r_iconst DX6_kindOf_26 (v := 2) (by decide) ?_
          refine r_goto DX6_kindOf_27 (tgt := 31) (by decide) ?_
          obtain rfl := Option.some.inj e
          exact r_iret DX6_kindOf_31 rfl rfl
    · replace e := x_iff c9 e
      refine r_iconst DX6_kindOf_12 (v := 1) (by decide) ?_
      obtain rfl := Option.some.inj e
      exact r_iret DX6_kindOf_13 rfl rfl

set_option maxRecDepth 100000 in
set_option maxHeartbeats 4000000 in
theorem lp_X6_advance_L0 {l : Launch} {g : xG} {b : xT} {R : Option Value × xS}  : ∀ (n : Nat) (a : xT) (r : (xT)), f_X6_advance_L0 n a = some r → Rx l g 1 M_X6_advance 38 [some (.ref (xa g 6))] [] (r, b) R → Rx l g 1 M_X6_advance 0 [some (.ref (xa g 6))] [] (a, b) R := by
  intro n
  induction n with
  | zero => intro s_ r_ e; cases e
  | succ n ih =>
    intro a r e K0
    rw [f_X6_advance_L0] at e
    refine r_aload_n DX6_advance_0 (i := 0) rfl rfl ?_
    refine r_get (v := .int (gI a 8)) DX6_advance_1 F_X6_25 e_6 rfl ?_
    refine r_aload_n DX6_advance_4 (i := 0) rfl rfl ?_
    refine r_get (v := .int (gI a 5)) DX6_advance_5 F_X6_15 e_6 rfl ?_
    refine r_icmp_ge DX6_advance_8 (tgt := 38) (by decide) (fun c8 => ?_) (fun c8 => ?_)
    · replace e := x_ift c8 e
      obtain rfl := Option.some.inj e
      exact K0
    · replace e := x_iff c8 e
      refine r_aload_n DX6_advance_11 (i := 0) rfl rfl ?_
      refine r_get (v := .ref (xa g 7)) DX6_advance_12 F_X6_11 e_6 rfl ?_
      refine r_aload_n DX6_advance_15 (i := 0) rfl rfl ?_
      refine r_get (v := .int (gI a 8)) DX6_advance_16 F_X6_25 e_6 rfl ?_
      obtain ⟨c19, e⟩ := x_grd e
      refine r_iald (f := (gA a 7)) DX6_advance_19 e_7 rfl c19 ?_
      refine r_bipush DX6_advance_20 (v := 32) (by decide) ?_
      refine r_icmp_ne DX6_advance_22 (tgt := 38) (by decide) (fun c22 => ?_) (fun c22 => ?_)
      · replace e := x_iff c22 e
        obtain rfl := Option.some.inj e
        exact K0
      · replace e := x_ift c22 e
        refine r_aload_n DX6_advance_25 (i := 0) rfl rfl ?_
        refine r_dup DX6_advance_26 rfl ?_
        refine r_get (v := .int (gI a 8)) DX6_advance_27 F_X6_25 e_6 rfl ?_
        refine r_iconst DX6_advance_30 (v := 1) (by decide) ?_
        refine r_iadd DX6_advance_31 ?_
        refine r_put (ty := .int) DX6_advance_32 F_X6_25 Fp_6_4 e_6 rfl rfl (Nat.le_of_ble_eq_true rfl) p_6_4 ?_
        refine r_goto DX6_advance_35 (tgt := 0) (by decide) ?_
        exact ih _ _ e K0

set_option maxRecDepth 100000 in
set_option maxHeartbeats 4000000 in
theorem lp_X6_advance_L89 {l : Launch} {g : xG} {b : xT} {R : Option Value × xS}  : ∀ (n : Nat) (a : xT) (r : (xT)), f_X6_advance_L89 n a = some r → Rx l g 1 M_X6_advance 140 [none] [] (r, b) R → Rx l g 1 M_X6_advance 89 [some (.ref (xa g 6))] [] (a, b) R := by
  intro n
  induction n with
  | zero => intro s_ r_ e; cases e
  | succ n ih =>
    intro a r e K0
    rw [f_X6_advance_L89] at e
    refine r_aload_n DX6_advance_89 (i := 0) rfl rfl ?_
    refine r_get (v := .int (gI a 6)) DX6_advance_90 F_X6_19 e_6 rfl ?_
    refine r_iconst DX6_advance_93 (v := 3) (by decide) ?_
    refine r_icmp_eq DX6_advance_94 (tgt := 140) (by decide) (fun c94 => ?_) (fun c94 => ?_)
    · replace e := x_ift c94 e
      obtain rfl := Option.some.inj e
      refine r_mask (L' := [none]) [false] rfl ?_
      exact K0
    · replace e := x_iff c94 e
      refine r_aload_n DX6_advance_97 (i := 0) rfl rfl ?_
      refine r_get (v := .int (gI a 8)) DX6_advance_98 F_X6_25 e_6 rfl ?_
      refine r_aload_n DX6_advance_101 (i := 0) rfl rfl ?_
      refine r_get (v := .int (gI a 5)) DX6_advance_102 F_X6_15 e_6 rfl ?_
      refine r_icmp_ge DX6_advance_105 (tgt := 140) (by decide) (fun c105 => ?_) (fun c105 => ?_)
      · replace e := x_ift c105 e
        obtain rfl := Option.some.inj e
        refine r_mask (L' := [none]) [false] rfl ?_
        exact K0
      · replace e := x_iff c105 e
        refine r_aload_n DX6_advance_108 (i := 0) rfl rfl ?_
        refine r_get (v := .ref (xa g 7)) DX6_advance_109 F_X6_11 e_6 rfl ?_
        refine r_aload_n DX6_advance_112 (i := 0) rfl rfl ?_
        refine r_get (v := .int (gI a 8)) DX6_advance_113 F_X6_25 e_6 rfl ?_
        obtain ⟨c116, e⟩ := x_grd e
        refine r_iald (f := (gA a 7)) DX6_advance_116 e_7 rfl c116 ?_
        obtain ⟨q117, e117, e⟩ := x_bnd e
        refine r_callS1 (As := [.int ((gA a 7) (Int32.toNatClampNeg (gI a 8)))]) (S := []) DX6_advance_117 C_X6_31 (by decide) (by decide) (Nat.le_of_ble_eq_true rfl) (t_X6_kindOf ((gA a 7) (Int32.toNatClampNeg (gI a 8))) e117) rfl ?_
        refine r_aload_n DX6_advance_120 (i := 0) rfl rfl ?_
        refine r_get (v := .int (gI a 6)) DX6_advance_121 F_X6_19 e_6 rfl ?_
        refine r_icmp_ne DX6_advance_124 (tgt := 140) (by decide) (fun c124 => ?_) (fun c124 => ?_)
        · replace e := x_iff c124 e
          obtain rfl := Option.some.inj e
          refine r_mask (L' := [none]) [false] rfl ?_
          exact K0
        · replace e := x_ift c124 e
          refine r_aload_n DX6_advance_127 (i := 0) rfl rfl ?_
          refine r_dup DX6_advance_128 rfl ?_
          refine r_get (v := .int (gI a 8)) DX6_advance_129 F_X6_25 e_6 rfl ?_
          refine r_iconst DX6_advance_132 (v := 1) (by decide) ?_
          refine r_iadd DX6_advance_133 ?_
          refine r_put (ty := .int) DX6_advance_134 F_X6_25 Fp_6_4 e_6 rfl rfl (Nat.le_of_ble_eq_true rfl) p_6_4 ?_
          refine r_goto DX6_advance_137 (tgt := 89) (by decide) ?_
          exact ih _ _ e K0

set_option maxRecDepth 100000 in
set_option maxHeartbeats 4000000 in
theorem t_X6_advance {l : Launch} {g : xG} {b : xT} (N : Nat) (a : xT)  {r : xT} (e : f_X6_advance N a = some r) : Ev l g 1 yX6_advance M_X6_advance [.ref (xa g 6)] (a, b) (none, (r, b)) := by
  unfold f_X6_advance at e
  refine Ev.of 0 (L0 := [some (.ref (xa g 6))]) (by decide) rfl (Nat.le_of_ble_eq_true rfl) rfl ?_
  obtain ⟨q0, e0, e⟩ := x_bnd e
  refine lp_X6_advance_L0  N a q0 e0 ?_
  refine r_aload_n DX6_advance_38 (i := 0) rfl rfl ?_
  refine r_aload_n DX6_advance_39 (i := 0) rfl rfl ?_
  refine r_get (v := .int (gI q0 8)) DX6_advance_40 F_X6_25 e_6 rfl ?_
  refine r_put (ty := .int) DX6_advance_43 F_X6_22 Fp_6_3 e_6 rfl rfl (Nat.le_of_ble_eq_true rfl) p_6_3 ?_
  refine r_aload_n DX6_advance_46 (i := 0) rfl rfl ?_
  refine r_get (v := .int (gI q0 8)) DX6_advance_47 F_X6_25 e_6 rfl ?_
  refine r_aload_n DX6_advance_50 (i := 0) rfl rfl ?_
  refine r_get (v := .int (gI q0 5)) DX6_advance_51 F_X6_15 e_6 rfl ?_
  refine r_icmp_lt DX6_advance_54 (tgt := 63) (by decide) (fun c54 => ?_) (fun c54 => ?_)
  · replace e := x_ift c54 e
    refine r_aload_n DX6_advance_63 (i := 0) rfl rfl ?_
    refine r_aload_n DX6_advance_64 (i := 0) rfl rfl ?_
    refine r_get (v := .ref (xa g 7)) DX6_advance_65 F_X6_11 e_6 rfl ?_
    refine r_aload_n DX6_advance_68 (i := 0) rfl rfl ?_
    refine r_get (v := .int (gI q0 8)) DX6_advance_69 F_X6_25 e_6 rfl ?_
    obtain ⟨c72, e⟩ := x_grd e
    refine r_iald (f := (gA q0 7)) DX6_advance_72 e_7 rfl c72 ?_
    obtain ⟨q73, e73, e⟩ := x_bnd e
    refine r_callS1 (As := [.int ((gA q0 7) (Int32.toNatClampNeg (gI q0 8)))]) (S := [.ref (xa g 6)]) DX6_advance_73 C_X6_31 (by decide) (by decide) (Nat.le_of_ble_eq_true rfl) (t_X6_kindOf ((gA q0 7) (Int32.toNatClampNeg (gI q0 8))) e73) rfl ?_
    refine r_put (ty := .int) DX6_advance_76 F_X6_19 Fp_6_2 e_6 rfl rfl (Nat.le_of_ble_eq_true rfl) p_6_2 ?_
    refine r_aload_n DX6_advance_79 (i := 0) rfl rfl ?_
    refine r_dup DX6_advance_80 rfl ?_
    refine r_get (v := .int (gI q0 8)) DX6_advance_81 F_X6_25 e_6 rfl ?_
    refine r_iconst DX6_advance_84 (v := 1) (by decide) ?_
    refine r_iadd DX6_advance_85 ?_
    refine r_put (ty := .int) DX6_advance_86 F_X6_25 Fp_6_4 e_6 rfl rfl (Nat.le_of_ble_eq_true rfl) p_6_4 ?_
    obtain ⟨q89, e89, e⟩ := x_bnd e
    refine lp_X6_advance_L89  N (sI (sI (sI q0 7 (gI q0 8)) 6 q73) 8 ((gI q0 8) + 1)) q89 e89 ?_
    obtain rfl := Option.some.inj e
    exact r_vret DX6_advance_140 rfl rfl
  · replace e := x_iff c54 e
    refine r_aload_n DX6_advance_57 (i := 0) rfl rfl ?_
    refine r_iconst DX6_advance_58 (v := 0) (by decide) ?_
    refine r_put (ty := .int) DX6_advance_59 F_X6_19 Fp_6_2 e_6 rfl rfl (Nat.le_of_ble_eq_true rfl) p_6_2 ?_
    obtain rfl := Option.some.inj e
    exact r_vret DX6_advance_62 rfl rfl

set_option maxRecDepth 100000 in
set_option maxHeartbeats 4000000 in
theorem t_X6_isSign {l : Launch} {g : xG} {b : xT} (v1 : Int32) (a : xT)  {r : Int32} (e : f_X6_isSign v1 a = some r) : Ev l g 0 yX6_isSign M_X6_isSign [.ref (xa g 6), .int v1] (a, b) (some (.int r), (a, b)) := by
  unfold f_X6_isSign at e
  refine Ev.of 0 (L0 := [some (.ref (xa g 6)), some (.int v1)]) (by decide) rfl (Nat.le_of_ble_eq_true rfl) rfl ?_
  refine r_aload_n DX6_isSign_0 (i := 0) rfl rfl ?_
  refine r_get (v := .int (gI a 6)) DX6_isSign_1 F_X6_19 e_6 rfl ?_
  refine r_iconst DX6_isSign_4 (v := 3) (by decide) ?_
  refine r_icmp_ne DX6_isSign_5 (tgt := 36) (by decide) (fun c5 => ?_) (fun c5 => ?_)
  · replace e := x_iff c5 e
    refine r_iconst DX6_isSign_36 (v := 0) (by decide) ?_
    obtain rfl := Option.some.inj e
    exact r_zret DX6_isSign_37 rfl (by decide) rfl
  · replace e := x_ift c5 e
    refine r_aload_n DX6_isSign_8 (i := 0) rfl rfl ?_
    refine r_get (v := .int (gI a 7)) DX6_isSign_9 F_X6_22 e_6 rfl ?_
    refine r_aload_n DX6_isSign_12 (i := 0) rfl rfl ?_
    refine r_get (v := .int (gI a 5)) DX6_isSign_13 F_X6_15 e_6 rfl ?_
    refine r_icmp_ge DX6_isSign_16 (tgt := 36) (by decide) (fun c16 => ?_) (fun c16 => ?_)
    · replace e := x_ift c16 e
      refine r_iconst DX6_isSign_36 (v := 0) (by decide) ?_
      obtain rfl := Option.some.inj e
      exact r_zret DX6_isSign_37 rfl (by decide) rfl
    · replace e := x_iff c16 e
      refine r_aload_n DX6_isSign_19 (i := 0) rfl rfl ?_
      refine r_get (v := .ref (xa g 7)) DX6_isSign_20 F_X6_11 e_6 rfl ?_
      refine r_aload_n DX6_isSign_23 (i := 0) rfl rfl ?_
      refine r_get (v := .int (gI a 7)) DX6_isSign_24 F_X6_22 e_6 rfl ?_
      obtain ⟨c27, e⟩ := x_grd e
      refine r_iald (f := (gA a 7)) DX6_isSign_27 e_7 rfl c27 ?_
      refine r_iload_n DX6_isSign_28 (i := 1) rfl rfl ?_
      refine r_icmp_ne DX6_isSign_29 (tgt := 36) (by decide) (fun c29 => ?_) (fun c29 => ?_)
      · replace e := x_iff c29 e
        refine r_iconst DX6_isSign_36 (v := 0) (by decide) ?_
        obtain rfl := Option.some.inj e
        exact r_zret DX6_isSign_37 rfl (by decide) rfl
      · replace e := x_ift c29 e
        refine r_iconst DX6_isSign_32 (v := 1) (by decide) ?_
        refine r_goto DX6_isSign_33 (tgt := 37) (by decide) ?_
        obtain rfl := Option.some.inj e
        exact r_zret DX6_isSign_37 rfl (by decide) rfl

set_option maxRecDepth 100000 in
set_option maxHeartbeats 4000000 in
theorem lp_X6_isWord_L28 {l : Launch} {g : xG} {b : xT} {R : Option Value × xS} (k1 : Nat) (a : xT) (hk1 : k1 < 10): ∀ (n : Nat) (v2 : Int32) (r : ((Unit) ⊕ (Unit))), f_X6_isWord_L28 k1 a n v2 = some r → (∀ z, r = (.inl z) → Rx l g 4 M_X6_isWord 63 [none, none, none] [] (a, b) R) → (∀ z, r = (.inr (z)) → Rx l g 4 M_X6_isWord 55 [none, none, none] [] (a, b) R) → Rx l g 4 M_X6_isWord 28 [some (.ref (xa g 6)), some (.ref (xk g k1)), some (.int v2)] [] (a, b) R := by
  intro n
  induction n with
  | zero => intro v2_ r_ e; cases e
  | succ n ih =>
    intro v2 r e K0 K1
    rw [f_X6_isWord_L28] at e
    refine r_iload_n DX6_isWord_28 (i := 2) rfl rfl ?_
    refine r_aload_n DX6_isWord_29 (i := 1) rfl rfl ?_
    refine r_strlen DX6_isWord_30 hk1 C_X6_35 (by decide) (Nat.le_of_ble_eq_true rfl) ?_
    refine r_icmp_ge DX6_isWord_33 (tgt := 63) (by decide) (fun c33 => ?_) (fun c33 => ?_)
    · replace e := x_ift c33 e
      obtain rfl := Option.some.inj e
      refine r_mask (L' := [none, none, none]) [false, false, false] rfl ?_
      exact K0 _ rfl
    · replace e := x_iff c33 e
      refine r_aload_n DX6_isWord_36 (i := 0) rfl rfl ?_
      refine r_get (v := .ref (xa g 7)) DX6_isWord_37 F_X6_11 e_6 rfl ?_
      refine r_aload_n DX6_isWord_40 (i := 0) rfl rfl ?_
      refine r_get (v := .int (gI a 7)) DX6_isWord_41 F_X6_22 e_6 rfl ?_
      refine r_iload_n DX6_isWord_44 (i := 2) rfl rfl ?_
      refine r_iadd DX6_isWord_45 ?_
      obtain ⟨c46, e⟩ := x_grd e
      refine r_iald (f := (gA a 7)) DX6_isWord_46 e_7 rfl c46 ?_
      refine r_aload_n DX6_isWord_47 (i := 1) rfl rfl ?_
      refine r_iload_n DX6_isWord_48 (i := 2) rfl rfl ?_
      obtain ⟨q49, e49, e⟩ := x_bnd e
      refine r_strchr DX6_isWord_49 hk1 C_X6_40 (by decide) (Nat.le_of_ble_eq_true rfl) e49 ?_
      refine r_icmp_eq DX6_isWord_52 (tgt := 57) (by decide) (fun c52 => ?_) (fun c52 => ?_)
      · replace e := x_ift c52 e
        refine r_iinc (L' := [some (.ref (xa g 6)), some (.ref (xk g k1)), some (.int (v2 + 1))]) DX6_isWord_57 (x := v2) (v := (v2 + 1)) rfl rfl (by decide) rfl rfl ?_
        refine r_goto DX6_isWord_60 (tgt := 28) (by decide) ?_
        exact ih _ _ e K0 K1
      · replace e := x_iff c52 e
        obtain rfl := Option.some.inj e
        refine r_mask (L' := [none, none, none]) [false, false, false] rfl ?_
        exact K1 _ rfl

set_option maxRecDepth 100000 in
set_option maxHeartbeats 4000000 in
theorem t_X6_isWord {l : Launch} {g : xG} {b : xT} (N : Nat) (k1 : Nat) (a : xT) (hk1 : k1 < 10) {r : Int32} (e : f_X6_isWord N k1 a = some r) : Ev l g 4 yX6_isWord M_X6_isWord [.ref (xa g 6), .ref (xk g k1)] (a, b) (some (.int r), (a, b)) := by
  unfold f_X6_isWord at e
  refine Ev.of 1 (L0 := [some (.ref (xa g 6)), some (.ref (xk g k1)), none]) (by decide) rfl (Nat.le_of_ble_eq_true rfl) rfl ?_
  refine r_aload_n DX6_isWord_0 (i := 0) rfl rfl ?_
  refine r_get (v := .int (gI a 6)) DX6_isWord_1 F_X6_19 e_6 rfl ?_
  refine r_iconst DX6_isWord_4 (v := 1) (by decide) ?_
  refine r_icmp_ne DX6_isWord_5 (tgt := 24) (by decide) (fun c5 => ?_) (fun c5 => ?_)
  · replace e := x_iff c5 e
    refine r_iconst DX6_isWord_24 (v := 0) (by decide) ?_
    obtain rfl := Option.some.inj e
    exact r_zret DX6_isWord_25 rfl (by decide) rfl
  · replace e := x_ift c5 e
    refine r_aload_n DX6_isWord_8 (i := 0) rfl rfl ?_
    refine r_get (v := .int (gI a 8)) DX6_isWord_9 F_X6_25 e_6 rfl ?_
    refine r_aload_n DX6_isWord_12 (i := 0) rfl rfl ?_
    refine r_get (v := .int (gI a 7)) DX6_isWord_13 F_X6_22 e_6 rfl ?_
    refine r_isub DX6_isWord_16 ?_
    refine r_aload_n DX6_isWord_17 (i := 1) rfl rfl ?_
    refine r_strlen DX6_isWord_18 hk1 C_X6_35 (by decide) (Nat.le_of_ble_eq_true rfl) ?_
    refine r_icmp_eq DX6_isWord_21 (tgt := 26) (by decide) (fun c21 => ?_) (fun c21 => ?_)
    · replace e := x_ift c21 e
      refine r_iconst DX6_isWord_26 (v := 0) (by decide) ?_
      refine r_istore_n (L' := [some (.ref (xa g 6)), some (.ref (xk g k1)), some (.int 0)]) DX6_isWord_27 (i := 2) rfl (by decide) rfl rfl ?_
      obtain ⟨q28, e28, e⟩ := x_bnd e
      refine lp_X6_isWord_L28 k1 a hk1 N 0 q28 e28 (fun z28_63 w28 => ?_) (fun z28_55 w28 => ?_)
      · subst w28
        dsimp only [Sum.elim] at e
        refine r_iconst DX6_isWord_63 (v := 1) (by decide) ?_
        obtain rfl := Option.some.inj e
        exact r_zret DX6_isWord_64 rfl (by decide) rfl
      · subst w28
        dsimp only [Sum.elim] at e
        refine r_iconst DX6_isWord_55 (v := 0) (by decide) ?_
        obtain rfl := Option.some.inj e
        exact r_zret DX6_isWord_56 rfl (by decide) rfl
    · replace e := x_iff c21 e
      refine r_iconst DX6_isWord_24 (v := 0) (by decide) ?_
      obtain rfl := Option.some.inj e
      exact r_zret DX6_isWord_25 rfl (by decide) rfl

set_option maxRecDepth 100000 in
set_option maxHeartbeats 4000000 in
theorem lp_X6_number_L30 {l : Launch} {g : xG} {b : xT} {R : Option Value × xS} (a : xT) : ∀ (n : Nat) (v1 : Int32) (v2 : Int32) (r : (Int32)), f_X6_number_L30 a n v1 v2 = some r → Rx l g 0 M_X6_number 59 [none, some (.int r), none] [] (a, b) R → Rx l g 0 M_X6_number 30 [some (.ref (xa g 6)), some (.int v1), some (.int v2)] [] (a, b) R := by
  intro n
  induction n with
  | zero => intro v1_ v2_ r_ e; cases e
  | succ n ih =>
    intro v1 v2 r e K0
    rw [f_X6_number_L30] at e
    refine r_iload_n DX6_number_30 (i := 2) rfl rfl ?_
    refine r_aload_n DX6_number_31 (i := 0) rfl rfl ?_
    refine r_get (v := .int (gI a 8)) DX6_number_32 F_X6_25 e_6 rfl ?_
    refine r_icmp_ge DX6_number_35 (tgt := 59) (by decide) (fun c35 => ?_) (fun c35 => ?_)
    · replace e := x_ift c35 e
      obtain rfl := Option.some.inj e
      refine r_mask (L' := [none, some (.int v1), none]) [false, true, false] rfl ?_
      exact K0
    · replace e := x_iff c35 e
      refine r_bipush DX6_number_38 (v := 10) (by decide) ?_
      refine r_iload_n DX6_number_40 (i := 1) rfl rfl ?_
      refine r_imul DX6_number_41 ?_
      refine r_aload_n DX6_number_42 (i := 0) rfl rfl ?_
      refine r_get (v := .ref (xa g 7)) DX6_number_43 F_X6_11 e_6 rfl ?_
      refine r_iload_n DX6_number_46 (i := 2) rfl rfl ?_
      obtain ⟨c47, e⟩ := x_grd e
      refine r_iald (f := (gA a 7)) DX6_number_47 e_7 rfl c47 ?_
      refine r_iadd DX6_number_48 ?_
      refine r_bipush DX6_number_49 (v := 48) (by decide) ?_
      refine r_isub DX6_number_51 ?_
      obtain ⟨w52, e52, e⟩ := x_bnd e
      refine r_istore_nB (L' := [some (.ref (xa g 6)), some (.int w52), some (.int v2)]) (w := w52) DX6_number_52 (Option.some.inj e52) (i := 1) rfl (by decide) rfl rfl ?_
      refine r_iinc (L' := [some (.ref (xa g 6)), some (.int w52), some (.int (v2 + 1))]) DX6_number_53 (x := v2) (v := (v2 + 1)) rfl rfl (by decide) rfl rfl ?_
      refine r_goto DX6_number_56 (tgt := 30) (by decide) ?_
      exact ih _ _ _ e K0

set_option maxRecDepth 100000 in
set_option maxHeartbeats 4000000 in
theorem t_X6_number {l : Launch} {g : xG} {b : xT} (N : Nat) (a : xT)  {r : Int32} (e : f_X6_number N a = some r) : Ev l g 0 yX6_number M_X6_number [.ref (xa g 6)] (a, b) (some (.int r), (a, b)) := by
  unfold f_X6_number at e
  refine Ev.of 2 (L0 := [some (.ref (xa g 6)), none, none]) (by decide) rfl (Nat.le_of_ble_eq_true rfl) rfl ?_
  refine r_aload_n DX6_number_0 (i := 0) rfl rfl ?_
  refine r_get (v := .int (gI a 6)) DX6_number_1 F_X6_19 e_6 rfl ?_
  refine r_iconst DX6_number_4 (v := 2) (by decide) ?_
  refine r_icmp_ne DX6_number_5 (tgt := 21) (by decide) (fun c5 => ?_) (fun c5 => ?_)
  · replace e := x_iff c5 e
    refine r_iconst DX6_number_21 (v := (-1)) (by decide) ?_
    obtain rfl := Option.some.inj e
    exact r_iret DX6_number_22 rfl rfl
  · replace e := x_ift c5 e
    refine r_aload_n DX6_number_8 (i := 0) rfl rfl ?_
    refine r_get (v := .int (gI a 8)) DX6_number_9 F_X6_25 e_6 rfl ?_
    refine r_aload_n DX6_number_12 (i := 0) rfl rfl ?_
    refine r_get (v := .int (gI a 7)) DX6_number_13 F_X6_22 e_6 rfl ?_
    refine r_isub DX6_number_16 ?_
    refine r_iconst DX6_number_17 (v := 2) (by decide) ?_
    refine r_icmp_le DX6_number_18 (tgt := 23) (by decide) (fun c18 => ?_) (fun c18 => ?_)
    · replace e := x_ift c18 e
      refine r_iconst DX6_number_23 (v := 0) (by decide) ?_
      refine r_istore_n (L' := [some (.ref (xa g 6)), some (.int 0), none]) DX6_number_24 (i := 1) rfl (by decide) rfl rfl ?_
      refine r_aload_n DX6_number_25 (i := 0) rfl rfl ?_
      refine r_get (v := .int (gI a 7)) DX6_number_26 F_X6_22 e_6 rfl ?_
      refine r_istore_n (L' := [some (.ref (xa g 6)), some (.int 0), some (.int (gI a 7))]) DX6_number_29 (i := 2) rfl (by decide) rfl rfl ?_
      obtain ⟨q30, e30, e⟩ := x_bnd e
      refine lp_X6_number_L30 a N 0 (gI a 7) q30 e30 ?_
      refine r_iload_n DX6_number_59 (i := 1) rfl rfl ?_
      obtain rfl := Option.some.inj e
      exact r_iret DX6_number_60 rfl rfl
    · replace e := x_iff c18 e
      refine r_iconst DX6_number_21 (v := (-1)) (by decide) ?_
      obtain rfl := Option.some.inj e
      exact r_iret DX6_number_22 rfl rfl

set_option maxRecDepth 100000 in
set_option maxHeartbeats 4000000 in
theorem t_X6_rewind {l : Launch} {g : xG} {b : xT} (N : Nat) (a : xT)  {r : xT} (e : f_X6_rewind N a = some r) : Ev l g 2 yX6_rewind M_X6_rewind [.ref (xa g 6)] (a, b) (none, (r, b)) := by
  unfold f_X6_rewind at e
  refine Ev.of 0 (L0 := [some (.ref (xa g 6))]) (by decide) rfl (Nat.le_of_ble_eq_true rfl) rfl ?_
  refine r_aload_n DX6_rewind_0 (i := 0) rfl rfl ?_
  refine r_iconst DX6_rewind_1 (v := 0) (by decide) ?_
  refine r_put (ty := .int) DX6_rewind_2 F_X6_25 Fp_6_4 e_6 rfl rfl (Nat.le_of_ble_eq_true rfl) p_6_4 ?_
  refine r_aload_n DX6_rewind_5 (i := 0) rfl rfl ?_
  obtain ⟨q6, e6, e⟩ := x_bnd e
  refine r_callV0 (As := []) (S := []) DX6_rewind_6 C_X6_28 (ci := 6) rfl rfl e_6 (by decide) (by decide) (Nat.le_of_ble_eq_true rfl) (t_X6_advance N (sI a 8 0) e6) rfl ?_
  obtain rfl := Option.some.inj e
  exact r_vret DX6_rewind_9 rfl rfl
