set_option maxRecDepth 100000 in
set_option maxHeartbeats 4000000 in
theorem t_X5_begin {l : Launch} {g : xG} {b : xT} (v1 : Int32) (a : xT)  {r : xT} (e : f_X5_begin v1 a = some r) : Ev l g 0 yX5_begin M_X5_begin [.ref (xa g 8), .int v1] (a, b) (none, (r, b)) := by
  unfold f_X5_begin at e
  refine Ev.of 0 (L0 := [some (.ref (xa g 8)), some (.int v1)]) (by decide) rfl (Nat.le_of_ble_eq_true rfl) rfl ?_
  refine r_aload_n DX5_begin_0 (i := 0) rfl rfl ?_
  refine r_iload_n DX5_begin_1 (i := 1) rfl rfl ?_
  refine r_put (ty := .int) DX5_begin_2 F_X5_43 Fp_5_9 e_8 rfl rfl (Nat.le_of_ble_eq_true rfl) p_8_9 ?_
  refine r_aload_n DX5_begin_5 (i := 0) rfl rfl ?_
  refine r_get (v := .ref (xa g 12)) DX5_begin_6 F_X5_33 e_8 rfl ?_
  refine r_iload_n DX5_begin_9 (i := 1) rfl rfl ?_
  refine r_iconst DX5_begin_10 (v := 0) (by decide) ?_
  obtain ⟨c11, e⟩ := x_grd e
  refine r_zast (f := (gA a 12)) DX5_begin_11 e_12 rfl c11 p_12 ?_
  refine r_aload_n DX5_begin_12 (i := 0) rfl rfl ?_
  refine r_get (v := .ref (xa g 13)) DX5_begin_13 F_X5_37 e_8 rfl ?_
  refine r_iload_n DX5_begin_16 (i := 1) rfl rfl ?_
  refine r_iconst DX5_begin_17 (v := 0) (by decide) ?_
  obtain ⟨c18, e⟩ := x_grd e
  refine r_zast (f := (gA a 13)) DX5_begin_18 e_13 rfl c18 p_13 ?_
  refine r_aload_n DX5_begin_19 (i := 0) rfl rfl ?_
  refine r_get (v := .ref (xa g 14)) DX5_begin_20 F_X5_40 e_8 rfl ?_
  refine r_iload_n DX5_begin_23 (i := 1) rfl rfl ?_
  refine r_iconst DX5_begin_24 (v := 0) (by decide) ?_
  obtain ⟨c25, e⟩ := x_grd e
  refine r_zast (f := (gA a 14)) DX5_begin_25 e_14 rfl c25 p_14 ?_
  obtain rfl := Option.some.inj e
  exact r_vret DX5_begin_26 rfl rfl

set_option maxRecDepth 100000 in
set_option maxHeartbeats 4000000 in
theorem t_X5_blame {l : Launch} {g : xG} {b : xT} (v1 : Int32) (a : xT)  {r : xT} (e : f_X5_blame v1 a = some r) : Ev l g 0 yX5_blame M_X5_blame [.ref (xa g 8), .int v1, .ref (xa g 6)] (a, b) (none, (r, b)) := by
  unfold f_X5_blame at e
  refine Ev.of 0 (L0 := [some (.ref (xa g 8)), some (.int v1), some (.ref (xa g 6))]) (by decide) rfl (Nat.le_of_ble_eq_true rfl) rfl ?_
  refine r_aload_n DX5_blame_0 (i := 0) rfl rfl ?_
  refine r_get (v := .int (gI a 10)) DX5_blame_1 F_X5_27 e_8 rfl ?_
  refine r_if_ne DX5_blame_4 (tgt := 20) (by decide) (fun c4 => ?_) (fun c4 => ?_)
  · replace e := x_iff c4 e
    obtain rfl := Option.some.inj e
    exact r_vret DX5_blame_20 rfl rfl
  · replace e := x_ift c4 e
    refine r_aload_n DX5_blame_7 (i := 0) rfl rfl ?_
    refine r_iload_n DX5_blame_8 (i := 1) rfl rfl ?_
    refine r_put (ty := .int) DX5_blame_9 F_X5_27 Fp_5_4 e_8 rfl rfl (Nat.le_of_ble_eq_true rfl) p_8_4 ?_
    refine r_aload_n DX5_blame_12 (i := 0) rfl rfl ?_
    refine r_aload_n DX5_blame_13 (i := 2) rfl rfl ?_
    refine r_get (v := .int (gI a 7)) DX5_blame_14 F_X5_74 e_6 rfl ?_
    refine r_put (ty := .int) DX5_blame_17 F_X5_30 Fp_5_5 e_8 rfl rfl (Nat.le_of_ble_eq_true rfl) p_8_5 ?_
    obtain rfl := Option.some.inj e
    exact r_vret DX5_blame_20 rfl rfl

set_option maxRecDepth 100000 in
set_option maxHeartbeats 4000000 in
theorem t_X5_put {l : Launch} {g : xG} {b : xT} (v1 : Int32) (v2 : Int32) (v3 : Int32) (a : xT)  {r : xT} (e : f_X5_put v1 v2 v3 a = some r) : Ev l g 0 yX5_put M_X5_put [.ref (xa g 8), .int v1, .int v2, .int v3] (a, b) (none, (r, b)) := by
  unfold f_X5_put at e
  refine Ev.of 0 (L0 := [some (.ref (xa g 8)), some (.int v1), some (.int v2), some (.int v3)]) (by decide) rfl (Nat.le_of_ble_eq_true rfl) rfl ?_
  refine r_aload_n DX5_put_0 (i := 0) rfl rfl ?_
  refine r_get (v := .int (gI a 9)) DX5_put_1 F_X5_23 e_8 rfl ?_
  refine r_aload_n DX5_put_4 (i := 0) rfl rfl ?_
  refine r_get (v := .ref (xa g 9)) DX5_put_5 F_X5_11 e_8 rfl ?_
  refine r_alen (t0 := 0) (v := 120) DX5_put_8 e_9 rfl rfl ?_
  refine r_icmp_ge DX5_put_9 (tgt := 52) (by decide) (fun c9 => ?_) (fun c9 => ?_)
  · replace e := x_ift c9 e
    obtain rfl := Option.some.inj e
    exact r_vret DX5_put_52 rfl rfl
  · replace e := x_iff c9 e
    refine r_aload_n DX5_put_12 (i := 0) rfl rfl ?_
    refine r_get (v := .ref (xa g 9)) DX5_put_13 F_X5_11 e_8 rfl ?_
    refine r_aload_n DX5_put_16 (i := 0) rfl rfl ?_
    refine r_get (v := .int (gI a 9)) DX5_put_17 F_X5_23 e_8 rfl ?_
    refine r_iload_n DX5_put_20 (i := 1) rfl rfl ?_
    obtain ⟨c21, e⟩ := x_grd e
    refine r_iast (f := (gA a 9)) DX5_put_21 e_9 rfl c21 p_9 ?_
    refine r_aload_n DX5_put_22 (i := 0) rfl rfl ?_
    refine r_get (v := .ref (xa g 10)) DX5_put_23 F_X5_17 e_8 rfl ?_
    refine r_aload_n DX5_put_26 (i := 0) rfl rfl ?_
    refine r_get (v := .int (gI a 9)) DX5_put_27 F_X5_23 e_8 rfl ?_
    refine r_iload_n DX5_put_30 (i := 2) rfl rfl ?_
    obtain ⟨c31, e⟩ := x_grd e
    refine r_iast (f := (gA a 10)) DX5_put_31 e_10 rfl c31 p_10 ?_
    refine r_aload_n DX5_put_32 (i := 0) rfl rfl ?_
    refine r_get (v := .ref (xa g 11)) DX5_put_33 F_X5_20 e_8 rfl ?_
    refine r_aload_n DX5_put_36 (i := 0) rfl rfl ?_
    refine r_get (v := .int (gI a 9)) DX5_put_37 F_X5_23 e_8 rfl ?_
    refine r_iload_n DX5_put_40 (i := 3) rfl rfl ?_
    obtain ⟨c41, e⟩ := x_grd e
    refine r_iast (f := (gA a 11)) DX5_put_41 e_11 rfl c41 p_11 ?_
    refine r_aload_n DX5_put_42 (i := 0) rfl rfl ?_
    refine r_dup DX5_put_43 rfl ?_
    refine r_get (v := .int (gI a 9)) DX5_put_44 F_X5_23 e_8 rfl ?_
    refine r_iconst DX5_put_47 (v := 1) (by decide) ?_
    refine r_iadd DX5_put_48 ?_
    refine r_put (ty := .int) DX5_put_49 F_X5_23 Fp_5_3 e_8 rfl rfl (Nat.le_of_ble_eq_true rfl) p_8_3 ?_
    obtain rfl := Option.some.inj e
    exact r_vret DX5_put_52 rfl rfl

set_option maxRecDepth 100000 in
set_option maxHeartbeats 4000000 in
theorem t_X5_end {l : Launch} {g : xG} {b : xT} (a : xT)  {r : xT} (e : f_X5_end a = some r) : Ev l g 1 yX5_end M_X5_end [.ref (xa g 8)] (a, b) (none, (r, b)) := by
  unfold f_X5_end at e
  refine Ev.of 0 (L0 := [some (.ref (xa g 8))]) (by decide) rfl (Nat.le_of_ble_eq_true rfl) rfl ?_
  refine r_aload_n DX5_end_0 (i := 0) rfl rfl ?_
  refine r_get (v := .ref (xa g 14)) DX5_end_1 F_X5_40 e_8 rfl ?_
  refine r_aload_n DX5_end_4 (i := 0) rfl rfl ?_
  refine r_get (v := .int (gI a 12)) DX5_end_5 F_X5_43 e_8 rfl ?_
  obtain ⟨c8, e⟩ := x_grd e
  refine r_zald (f := (gA a 14)) DX5_end_8 e_14 rfl c8 ?_
  refine r_if_eq DX5_end_9 (tgt := 20) (by decide) (fun c9 => ?_) (fun c9 => ?_)
  · replace e := x_ift c9 e
    obtain rfl := Option.some.inj e
    exact r_vret DX5_end_20 rfl rfl
  · replace e := x_iff c9 e
    refine r_aload_n DX5_end_12 (i := 0) rfl rfl ?_
    refine r_bipush DX5_end_13 (v := 9) (by decide) ?_
    refine r_iconst DX5_end_15 (v := 0) (by decide) ?_
    refine r_iconst DX5_end_16 (v := 0) (by decide) ?_
    obtain ⟨q17, e17, e⟩ := x_bnd e
    refine r_callV0 (As := [.int 9, .int 0, .int 0]) (S := []) DX5_end_17 C_X5_77 (ci := 5) rfl rfl e_8 (by decide) (by decide) (Nat.le_of_ble_eq_true rfl) (t_X5_put 9 0 0 a e17) rfl ?_
    obtain rfl := Option.some.inj e
    exact r_vret DX5_end_20 rfl rfl

set_option maxRecDepth 100000 in
set_option maxHeartbeats 4000000 in
theorem t_X5_endTest {l : Launch} {g : xG} {b : xT} (a : xT)  {r : xT} (e : f_X5_endTest a = some r) : Ev l g 1 yX5_endTest M_X5_endTest [.ref (xa g 8)] (a, b) (none, (r, b)) := by
  unfold f_X5_endTest at e
  refine Ev.of 0 (L0 := [some (.ref (xa g 8))]) (by decide) rfl (Nat.le_of_ble_eq_true rfl) rfl ?_
  refine r_aload_n DX5_endTest_0 (i := 0) rfl rfl ?_
  refine r_get (v := .ref (xa g 12)) DX5_endTest_1 F_X5_33 e_8 rfl ?_
  refine r_aload_n DX5_endTest_4 (i := 0) rfl rfl ?_
  refine r_get (v := .int (gI a 12)) DX5_endTest_5 F_X5_43 e_8 rfl ?_
  obtain ⟨c8, e⟩ := x_grd e
  refine r_zald (f := (gA a 12)) DX5_endTest_8 e_12 rfl c8 ?_
  refine r_if_eq DX5_endTest_9 (tgt := 30) (by decide) (fun c9 => ?_) (fun c9 => ?_)
  · replace e := x_ift c9 e
    refine r_aload_n DX5_endTest_30 (i := 0) rfl rfl ?_
    refine r_get (v := .ref (xa g 13)) DX5_endTest_31 F_X5_37 e_8 rfl ?_
    refine r_aload_n DX5_endTest_34 (i := 0) rfl rfl ?_
    refine r_get (v := .int (gI a 12)) DX5_endTest_35 F_X5_43 e_8 rfl ?_
    obtain ⟨c38, e⟩ := x_grd e
    refine r_zald (f := (gA a 13)) DX5_endTest_38 e_13 rfl c38 ?_
    refine r_if_eq DX5_endTest_39 (tgt := 60) (by decide) (fun c39 => ?_) (fun c39 => ?_)
    · replace e := x_ift c39 e
      refine r_aload_n DX5_endTest_60 (i := 0) rfl rfl ?_
      refine r_iconst DX5_endTest_61 (v := 0) (by decide) ?_
      refine r_put (ty := .boolean) DX5_endTest_62 F_X5_46 Fp_5_10 e_8 (by decide) (by decide) (Nat.le_of_ble_eq_true rfl) p_8_10 ?_
      obtain rfl := Option.some.inj e
      exact r_vret DX5_endTest_65 rfl rfl
    · replace e := x_iff c39 e
      refine r_aload_n DX5_endTest_42 (i := 0) rfl rfl ?_
      refine r_bipush DX5_endTest_43 (v := 8) (by decide) ?_
      refine r_iconst DX5_endTest_45 (v := 0) (by decide) ?_
      refine r_iconst DX5_endTest_46 (v := 0) (by decide) ?_
      obtain ⟨q47, e47, e⟩ := x_bnd e
      refine r_callV0 (As := [.int 8, .int 0, .int 0]) (S := []) DX5_endTest_47 C_X5_77 (ci := 5) rfl rfl e_8 (by decide) (by decide) (Nat.le_of_ble_eq_true rfl) (t_X5_put 8 0 0 a e47) rfl ?_
      refine r_aload_n DX5_endTest_50 (i := 0) rfl rfl ?_
      refine r_get (v := .ref (xa g 13)) DX5_endTest_51 F_X5_37 e_8 rfl ?_
      refine r_aload_n DX5_endTest_54 (i := 0) rfl rfl ?_
      refine r_get (v := .int (gI q47 12)) DX5_endTest_55 F_X5_43 e_8 rfl ?_
      refine r_iconst DX5_endTest_58 (v := 0) (by decide) ?_
      obtain ⟨c59, e⟩ := x_grd e
      refine r_zast (f := (gA q47 13)) DX5_endTest_59 e_13 rfl c59 p_13 ?_
      refine r_aload_n DX5_endTest_60 (i := 0) rfl rfl ?_
      refine r_iconst DX5_endTest_61 (v := 0) (by decide) ?_
      refine r_put (ty := .boolean) DX5_endTest_62 F_X5_46 Fp_5_10 e_8 (by decide) (by decide) (Nat.le_of_ble_eq_true rfl) p_8_10 ?_
      obtain rfl := Option.some.inj e
      exact r_vret DX5_endTest_65 rfl rfl
  · replace e := x_iff c9 e
    refine r_aload_n DX5_endTest_12 (i := 0) rfl rfl ?_
    refine r_bipush DX5_endTest_13 (v := 7) (by decide) ?_
    refine r_iconst DX5_endTest_15 (v := 0) (by decide) ?_
    refine r_iconst DX5_endTest_16 (v := 0) (by decide) ?_
    obtain ⟨q17, e17, e⟩ := x_bnd e
    refine r_callV0 (As := [.int 7, .int 0, .int 0]) (S := []) DX5_endTest_17 C_X5_77 (ci := 5) rfl rfl e_8 (by decide) (by decide) (Nat.le_of_ble_eq_true rfl) (t_X5_put 7 0 0 a e17) rfl ?_
    refine r_aload_n DX5_endTest_20 (i := 0) rfl rfl ?_
    refine r_get (v := .ref (xa g 12)) DX5_endTest_21 F_X5_33 e_8 rfl ?_
    refine r_aload_n DX5_endTest_24 (i := 0) rfl rfl ?_
    refine r_get (v := .int (gI q17 12)) DX5_endTest_25 F_X5_43 e_8 rfl ?_
    refine r_iconst DX5_endTest_28 (v := 0) (by decide) ?_
    obtain ⟨c29, e⟩ := x_grd e
    refine r_zast (f := (gA q17 12)) DX5_endTest_29 e_12 rfl c29 p_12 ?_
    refine r_aload_n DX5_endTest_30 (i := 0) rfl rfl ?_
    refine r_get (v := .ref (xa g 13)) DX5_endTest_31 F_X5_37 e_8 rfl ?_
    refine r_aload_n DX5_endTest_34 (i := 0) rfl rfl ?_
    refine r_get (v := .int (gI q17 12)) DX5_endTest_35 F_X5_43 e_8 rfl ?_
    obtain ⟨c38, e⟩ := x_grd e
    refine r_zald (f := (gA q17 13)) DX5_endTest_38 e_13 rfl c38 ?_
    refine r_if_eq DX5_endTest_39 (tgt := 60) (by decide) (fun c39 => ?_) (fun c39 => ?_)
    · replace e := x_ift c39 e
      refine r_aload_n DX5_endTest_60 (i := 0) rfl rfl ?_
      refine r_iconst DX5_endTest_61 (v := 0) (by decide) ?_
      refine r_put (ty := .boolean) DX5_endTest_62 F_X5_46 Fp_5_10 e_8 (by decide) (by decide) (Nat.le_of_ble_eq_true rfl) p_8_10 ?_
      obtain rfl := Option.some.inj e
      exact r_vret DX5_endTest_65 rfl rfl
    · replace e := x_iff c39 e
      refine r_aload_n DX5_endTest_42 (i := 0) rfl rfl ?_
      refine r_bipush DX5_endTest_43 (v := 8) (by decide) ?_
      refine r_iconst DX5_endTest_45 (v := 0) (by decide) ?_
      refine r_iconst DX5_endTest_46 (v := 0) (by decide) ?_
      obtain ⟨q47, e47, e⟩ := x_bnd e
      refine r_callV0 (As := [.int 8, .int 0, .int 0]) (S := []) DX5_endTest_47 C_X5_77 (ci := 5) rfl rfl e_8 (by decide) (by decide) (Nat.le_of_ble_eq_true rfl) (t_X5_put 8 0 0 (sA q17 12 (upd (gA q17 12) (Int32.toNatClampNeg (gI q17 12)) (vp_nar .boolean 0))) e47) rfl ?_
      refine r_aload_n DX5_endTest_50 (i := 0) rfl rfl ?_
      refine r_get (v := .ref (xa g 13)) DX5_endTest_51 F_X5_37 e_8 rfl ?_
      refine r_aload_n DX5_endTest_54 (i := 0) rfl rfl ?_
      refine r_get (v := .int (gI q47 12)) DX5_endTest_55 F_X5_43 e_8 rfl ?_
      refine r_iconst DX5_endTest_58 (v := 0) (by decide) ?_
      obtain ⟨c59, e⟩ := x_grd e
      refine r_zast (f := (gA q47 13)) DX5_endTest_59 e_13 rfl c59 p_13 ?_
      refine r_aload_n DX5_endTest_60 (i := 0) rfl rfl ?_
      refine r_iconst DX5_endTest_61 (v := 0) (by decide) ?_
      refine r_put (ty := .boolean) DX5_endTest_62 F_X5_46 Fp_5_10 e_8 (by decide) (by decide) (Nat.le_of_ble_eq_true rfl) p_8_10 ?_
      obtain rfl := Option.some.inj e
      exact r_vret DX5_endTest_65 rfl rfl

set_option maxRecDepth 100000 in
set_option maxHeartbeats 4000000 in
theorem t_X5_takeJoint {l : Launch} {g : xG} {b : xT} (N : Nat) (a : xT)  {r : xT} (e : f_X5_takeJoint N a = some r) : Ev l g 5 yX5_takeJoint M_X5_takeJoint [.ref (xa g 8), .ref (xa g 6)] (a, b) (none, (r, b)) := by
  unfold f_X5_takeJoint at e
  refine Ev.of 0 (L0 := [some (.ref (xa g 8)), some (.ref (xa g 6))]) (by decide) rfl (Nat.le_of_ble_eq_true rfl) rfl ?_
  refine r_aload_n DX5_takeJoint_0 (i := 1) rfl rfl ?_
  refine r_ldcS (i := 7) DX5_takeJoint_1 (by decide) rfl ?_
  obtain ⟨q3, e3, e⟩ := x_bnd e
  refine r_callV1 (As := [.ref (xk g 7)]) (S := []) DX5_takeJoint_3 C_X5_83 (ci := 6) rfl rfl e_6 (by decide) (by decide) (Nat.le_of_ble_eq_true rfl) (t_X6_isWord N 7 a (by decide) e3) rfl ?_
  refine r_if_eq DX5_takeJoint_6 (tgt := 31) (by decide) (fun c6 => ?_) (fun c6 => ?_)
  · replace e := x_ift c6 e
    refine r_aload_n DX5_takeJoint_31 (i := 1) rfl rfl ?_
    refine r_ldcS (i := 8) DX5_takeJoint_32 (by decide) rfl ?_
    obtain ⟨q34, e34, e⟩ := x_bnd e
    refine r_callV1 (As := [.ref (xk g 8)]) (S := []) DX5_takeJoint_34 C_X5_83 (ci := 6) rfl rfl e_6 (by decide) (by decide) (Nat.le_of_ble_eq_true rfl) (t_X6_isWord N 8 a (by decide) e34) rfl ?_
    refine r_if_eq DX5_takeJoint_37 (tgt := 66) (by decide) (fun c37 => ?_) (fun c37 => ?_)
    · replace e := x_ift c37 e
      refine r_aload_n DX5_takeJoint_66 (i := 0) rfl rfl ?_
      refine r_get (v := .int (gI a 12)) DX5_takeJoint_67 F_X5_43 e_8 rfl ?_
      refine r_if_le DX5_takeJoint_70 (tgt := 107) (by decide) (fun c70 => ?_) (fun c70 => ?_)
      · replace e := x_ift c70 e
        refine r_aload_n DX5_takeJoint_107 (i := 0) rfl rfl ?_
        refine r_iconst DX5_takeJoint_108 (v := 1) (by decide) ?_
        refine r_aload_n DX5_takeJoint_109 (i := 1) rfl rfl ?_
        obtain ⟨q110, e110, e⟩ := x_bnd e
        refine r_callV0 (As := [.int 1, .ref (xa g 6)]) (S := []) DX5_takeJoint_110 C_X5_67 (ci := 5) rfl rfl e_8 (by decide) (by decide) (Nat.le_of_ble_eq_true rfl) (t_X5_blame 1 a e110) rfl ?_
        obtain rfl := Option.some.inj e
        exact r_vret DX5_takeJoint_113 rfl rfl
      · replace e := x_iff c70 e
        refine r_aload_n DX5_takeJoint_73 (i := 1) rfl rfl ?_
        refine r_bipush DX5_takeJoint_74 (v := 41) (by decide) ?_
        obtain ⟨q76, e76, e⟩ := x_bnd e
        refine r_callV1 (As := [.int 41]) (S := []) DX5_takeJoint_76 C_X5_90 (ci := 6) rfl rfl e_6 (by decide) (by decide) (Nat.le_of_ble_eq_true rfl) (t_X6_isSign 41 a e76) rfl ?_
        refine r_if_eq DX5_takeJoint_79 (tgt := 107) (by decide) (fun c79 => ?_) (fun c79 => ?_)
        · replace e := x_ift c79 e
          refine r_aload_n DX5_takeJoint_107 (i := 0) rfl rfl ?_
          refine r_iconst DX5_takeJoint_108 (v := 1) (by decide) ?_
          refine r_aload_n DX5_takeJoint_109 (i := 1) rfl rfl ?_
          obtain ⟨q110, e110, e⟩ := x_bnd e
          refine r_callV0 (As := [.int 1, .ref (xa g 6)]) (S := []) DX5_takeJoint_110 C_X5_67 (ci := 5) rfl rfl e_8 (by decide) (by decide) (Nat.le_of_ble_eq_true rfl) (t_X5_blame 1 a e110) rfl ?_
          obtain rfl := Option.some.inj e
          exact r_vret DX5_takeJoint_113 rfl rfl
        · replace e := x_iff c79 e
          refine r_aload_n DX5_takeJoint_82 (i := 1) rfl rfl ?_
          obtain ⟨q83, e83, e⟩ := x_bnd e
          refine r_callV0 (As := []) (S := []) DX5_takeJoint_83 C_X5_87 (ci := 6) rfl rfl e_6 (by decide) (by decide) (Nat.le_of_ble_eq_true rfl) (t_X6_advance N a e83) rfl ?_
          refine r_aload_n DX5_takeJoint_86 (i := 0) rfl rfl ?_
          obtain ⟨q87, e87, e⟩ := x_bnd e
          refine r_callV0 (As := []) (S := []) DX5_takeJoint_87 C_X5_71 (ci := 5) rfl rfl e_8 (by decide) (by decide) (Nat.le_of_ble_eq_true rfl) (t_X5_end q83 e87) rfl ?_
          refine r_aload_n DX5_takeJoint_90 (i := 0) rfl rfl ?_
          refine r_dup DX5_takeJoint_91 rfl ?_
          refine r_get (v := .int (gI q87 12)) DX5_takeJoint_92 F_X5_43 e_8 rfl ?_
          refine r_iconst DX5_takeJoint_95 (v := 1) (by decide) ?_
          refine r_isub DX5_takeJoint_96 ?_
          refine r_put (ty := .int) DX5_takeJoint_97 F_X5_43 Fp_5_9 e_8 rfl rfl (Nat.le_of_ble_eq_true rfl) p_8_9 ?_
          refine r_aload_n DX5_takeJoint_100 (i := 0) rfl rfl ?_
          obtain ⟨q101, e101, e⟩ := x_bnd e
          refine r_callV0 (As := []) (S := []) DX5_takeJoint_101 C_X5_100 (ci := 5) rfl rfl e_8 (by decide) (by decide) (Nat.le_of_ble_eq_true rfl) (t_X5_endTest (sI q87 12 ((gI q87 12) - 1)) e101) rfl ?_
          refine r_goto DX5_takeJoint_104 (tgt := 113) (by decide) ?_
          obtain rfl := Option.some.inj e
          exact r_vret DX5_takeJoint_113 rfl rfl
    · replace e := x_iff c37 e
      refine r_aload_n DX5_takeJoint_40 (i := 1) rfl rfl ?_
      obtain ⟨q41, e41, e⟩ := x_bnd e
      refine r_callV0 (As := []) (S := []) DX5_takeJoint_41 C_X5_87 (ci := 6) rfl rfl e_6 (by decide) (by decide) (Nat.le_of_ble_eq_true rfl) (t_X6_advance N a e41) rfl ?_
      refine r_aload_n DX5_takeJoint_44 (i := 0) rfl rfl ?_
      obtain ⟨q45, e45, e⟩ := x_bnd e
      refine r_callV0 (As := []) (S := []) DX5_takeJoint_45 C_X5_71 (ci := 5) rfl rfl e_8 (by decide) (by decide) (Nat.le_of_ble_eq_true rfl) (t_X5_end q41 e45) rfl ?_
      refine r_aload_n DX5_takeJoint_48 (i := 0) rfl rfl ?_
      refine r_get (v := .ref (xa g 14)) DX5_takeJoint_49 F_X5_40 e_8 rfl ?_
      refine r_aload_n DX5_takeJoint_52 (i := 0) rfl rfl ?_
      refine r_get (v := .int (gI q45 12)) DX5_takeJoint_53 F_X5_43 e_8 rfl ?_
      refine r_iconst DX5_takeJoint_56 (v := 1) (by decide) ?_
      obtain ⟨c57, e⟩ := x_grd e
      refine r_zast (f := (gA q45 14)) DX5_takeJoint_57 e_14 rfl c57 p_14 ?_
      refine r_aload_n DX5_takeJoint_58 (i := 0) rfl rfl ?_
      refine r_iconst DX5_takeJoint_59 (v := 1) (by decide) ?_
      refine r_put (ty := .boolean) DX5_takeJoint_60 F_X5_46 Fp_5_10 e_8 (by decide) (by decide) (Nat.le_of_ble_eq_true rfl) p_8_10 ?_
      refine r_goto DX5_takeJoint_63 (tgt := 113) (by decide) ?_
      obtain rfl := Option.some.inj e
      exact r_vret DX5_takeJoint_113 rfl rfl
  · replace e := x_iff c6 e
    refine r_aload_n DX5_takeJoint_9 (i := 1) rfl rfl ?_
    obtain ⟨q10, e10, e⟩ := x_bnd e
    refine r_callV0 (As := []) (S := []) DX5_takeJoint_10 C_X5_87 (ci := 6) rfl rfl e_6 (by decide) (by decide) (Nat.le_of_ble_eq_true rfl) (t_X6_advance N a e10) rfl ?_
    refine r_aload_n DX5_takeJoint_13 (i := 0) rfl rfl ?_
    refine r_get (v := .ref (xa g 13)) DX5_takeJoint_14 F_X5_37 e_8 rfl ?_
    refine r_aload_n DX5_takeJoint_17 (i := 0) rfl rfl ?_
    refine r_get (v := .int (gI q10 12)) DX5_takeJoint_18 F_X5_43 e_8 rfl ?_
    refine r_iconst DX5_takeJoint_21 (v := 1) (by decide) ?_
    obtain ⟨c22, e⟩ := x_grd e
    refine r_zast (f := (gA q10 13)) DX5_takeJoint_22 e_13 rfl c22 p_13 ?_
    refine r_aload_n DX5_takeJoint_23 (i := 0) rfl rfl ?_
    refine r_iconst DX5_takeJoint_24 (v := 1) (by decide) ?_
    refine r_put (ty := .boolean) DX5_takeJoint_25 F_X5_46 Fp_5_10 e_8 (by decide) (by decide) (Nat.le_of_ble_eq_true rfl) p_8_10 ?_
    refine r_goto DX5_takeJoint_28 (tgt := 113) (by decide) ?_
    obtain rfl := Option.some.inj e
    exact r_vret DX5_takeJoint_113 rfl rfl

set_option maxRecDepth 100000 in
set_option maxHeartbeats 4000000 in
theorem t_X5_takeOpening {l : Launch} {g : xG} {b : xT} (N : Nat) (a : xT)  {r : xT} (e : f_X5_takeOpening N a = some r) : Ev l g 2 yX5_takeOpening M_X5_takeOpening [.ref (xa g 8), .ref (xa g 6)] (a, b) (none, (r, b)) := by
  unfold f_X5_takeOpening at e
  refine Ev.of 0 (L0 := [some (.ref (xa g 8)), some (.ref (xa g 6))]) (by decide) rfl (Nat.le_of_ble_eq_true rfl) rfl ?_
  refine r_aload_n DX5_takeOpening_0 (i := 0) rfl rfl ?_
  refine r_get (v := .int (gI a 12)) DX5_takeOpening_1 F_X5_43 e_8 rfl ?_
  refine r_iconst DX5_takeOpening_4 (v := 4) (by decide) ?_
  refine r_icmp_lt DX5_takeOpening_5 (tgt := 15) (by decide) (fun c5 => ?_) (fun c5 => ?_)
  · replace e := x_ift c5 e
    refine r_aload_n DX5_takeOpening_15 (i := 1) rfl rfl ?_
    obtain ⟨q16, e16, e⟩ := x_bnd e
    refine r_callV0 (As := []) (S := []) DX5_takeOpening_16 C_X5_87 (ci := 6) rfl rfl e_6 (by decide) (by decide) (Nat.le_of_ble_eq_true rfl) (t_X6_advance N a e16) rfl ?_
    refine r_aload_n DX5_takeOpening_19 (i := 0) rfl rfl ?_
    refine r_aload_n DX5_takeOpening_20 (i := 0) rfl rfl ?_
    refine r_get (v := .int (gI q16 12)) DX5_takeOpening_21 F_X5_43 e_8 rfl ?_
    refine r_iconst DX5_takeOpening_24 (v := 1) (by decide) ?_
    refine r_iadd DX5_takeOpening_25 ?_
    obtain ⟨q26, e26, e⟩ := x_bnd e
    refine r_callV0 (As := [.int ((gI q16 12) + 1)]) (S := []) DX5_takeOpening_26 C_X5_50 (ci := 5) rfl rfl e_8 (by decide) (by decide) (Nat.le_of_ble_eq_true rfl) (t_X5_begin ((gI q16 12) + 1) q16 e26) rfl ?_
    obtain rfl := Option.some.inj e
    exact r_vret DX5_takeOpening_29 rfl rfl
  · replace e := x_iff c5 e
    refine r_aload_n DX5_takeOpening_8 (i := 0) rfl rfl ?_
    refine r_iconst DX5_takeOpening_9 (v := 3) (by decide) ?_
    refine r_aload_n DX5_takeOpening_10 (i := 1) rfl rfl ?_
    obtain ⟨q11, e11, e⟩ := x_bnd e
    refine r_callV0 (As := [.int 3, .ref (xa g 6)]) (S := []) DX5_takeOpening_11 C_X5_67 (ci := 5) rfl rfl e_8 (by decide) (by decide) (Nat.le_of_ble_eq_true rfl) (t_X5_blame 3 a e11) rfl ?_
    obtain rfl := Option.some.inj e
    exact r_vret DX5_takeOpening_14 rfl rfl

set_option maxRecDepth 100000 in
set_option maxHeartbeats 4000000 in
theorem t_X5_takeNumber {l : Launch} {g : xG} {b : xT} (N : Nat) (v2 : Int32) (v3 : Int32) (a : xT)  {r : (Int32 × xT)} (e : f_X5_takeNumber N v2 v3 a = some r) : Ev l g 2 yX5_takeNumber M_X5_takeNumber [.ref (xa g 8), .ref (xa g 6), .int v2, .int v3] (a, b) (some (.int r.1), (r.2, b)) := by
  unfold f_X5_takeNumber at e
  refine Ev.of 1 (L0 := [some (.ref (xa g 8)), some (.ref (xa g 6)), some (.int v2), some (.int v3), none]) (by decide) rfl (Nat.le_of_ble_eq_true rfl) rfl ?_
  refine r_aload_n DX5_takeNumber_0 (i := 1) rfl rfl ?_
  refine r_get (v := .int (gI a 6)) DX5_takeNumber_1 F_X5_57 e_6 rfl ?_
  refine r_iconst DX5_takeNumber_4 (v := 2) (by decide) ?_
  refine r_icmp_eq DX5_takeNumber_5 (tgt := 16) (by decide) (fun c5 => ?_) (fun c5 => ?_)
  · replace e := x_ift c5 e
    refine r_aload_n DX5_takeNumber_16 (i := 1) rfl rfl ?_
    obtain ⟨q17, e17, e⟩ := x_bnd e
    refine r_callV1 (As := []) (S := []) DX5_takeNumber_17 C_X5_132 (ci := 6) rfl rfl e_6 (by decide) (by decide) (Nat.le_of_ble_eq_true rfl) (t_X6_number N a e17) rfl ?_
    refine r_istore (L' := [some (.ref (xa g 8)), some (.ref (xa g 6)), some (.int v2), some (.int v3), some (.int q17)]) DX5_takeNumber_20 (by decide) rfl rfl ?_
    refine r_iload DX5_takeNumber_22 rfl ?_
    refine r_iload_n DX5_takeNumber_24 (i := 2) rfl rfl ?_
    refine r_icmp_lt DX5_takeNumber_25 (tgt := 34) (by decide) (fun c25 => ?_) (fun c25 => ?_)
    · replace e := x_ift c25 e
      refine r_aload_n DX5_takeNumber_34 (i := 0) rfl rfl ?_
      refine r_iconst DX5_takeNumber_35 (v := 2) (by decide) ?_
      refine r_aload_n DX5_takeNumber_36 (i := 1) rfl rfl ?_
      obtain ⟨q37, e37, e⟩ := x_bnd e
      refine r_callV0 (As := [.int 2, .ref (xa g 6)]) (S := []) DX5_takeNumber_37 C_X5_67 (ci := 5) rfl rfl e_8 (by decide) (by decide) (Nat.le_of_ble_eq_true rfl) (t_X5_blame 2 a e37) rfl ?_
      refine r_iload_n DX5_takeNumber_40 (i := 2) rfl rfl ?_
      obtain rfl := Option.some.inj e
      exact r_iret DX5_takeNumber_41 rfl rfl
    · replace e := x_iff c25 e
      refine r_iload DX5_takeNumber_28 rfl ?_
      refine r_iload_n DX5_takeNumber_30 (i := 3) rfl rfl ?_
      refine r_icmp_le DX5_takeNumber_31 (tgt := 42) (by decide) (fun c31 => ?_) (fun c31 => ?_)
      · replace e := x_ift c31 e
        refine r_aload_n DX5_takeNumber_42 (i := 1) rfl rfl ?_
        obtain ⟨q43, e43, e⟩ := x_bnd e
        refine r_callV0 (As := []) (S := []) DX5_takeNumber_43 C_X5_87 (ci := 6) rfl rfl e_6 (by decide) (by decide) (Nat.le_of_ble_eq_true rfl) (t_X6_advance N a e43) rfl ?_
        refine r_iload DX5_takeNumber_46 rfl ?_
        obtain rfl := Option.some.inj e
        exact r_iret DX5_takeNumber_48 rfl rfl
      · replace e := x_iff c31 e
        refine r_aload_n DX5_takeNumber_34 (i := 0) rfl rfl ?_
        refine r_iconst DX5_takeNumber_35 (v := 2) (by decide) ?_
        refine r_aload_n DX5_takeNumber_36 (i := 1) rfl rfl ?_
        obtain ⟨q37, e37, e⟩ := x_bnd e
        refine r_callV0 (As := [.int 2, .ref (xa g 6)]) (S := []) DX5_takeNumber_37 C_X5_67 (ci := 5) rfl rfl e_8 (by decide) (by decide) (Nat.le_of_ble_eq_true rfl) (t_X5_blame 2 a e37) rfl ?_
        refine r_iload_n DX5_takeNumber_40 (i := 2) rfl rfl ?_
        obtain rfl := Option.some.inj e
        exact r_iret DX5_takeNumber_41 rfl rfl
  · replace e := x_iff c5 e
    refine r_aload_n DX5_takeNumber_8 (i := 0) rfl rfl ?_
    refine r_iconst DX5_takeNumber_9 (v := 1) (by decide) ?_
    refine r_aload_n DX5_takeNumber_10 (i := 1) rfl rfl ?_
    obtain ⟨q11, e11, e⟩ := x_bnd e
    refine r_callV0 (As := [.int 1, .ref (xa g 6)]) (S := []) DX5_takeNumber_11 C_X5_67 (ci := 5) rfl rfl e_8 (by decide) (by decide) (Nat.le_of_ble_eq_true rfl) (t_X5_blame 1 a e11) rfl ?_
    refine r_iload_n DX5_takeNumber_14 (i := 2) rfl rfl ?_
    obtain rfl := Option.some.inj e
    exact r_iret DX5_takeNumber_15 rfl rfl

set_option maxRecDepth 100000 in
set_option maxHeartbeats 4000000 in
theorem t_X5_takeNumbered {l : Launch} {g : xG} {b : xT} (N : Nat) (v2 : Int32) (v3 : Int32) (a : xT)  {r : xT} (e : f_X5_takeNumbered N v2 v3 a = some r) : Ev l g 3 yX5_takeNumbered M_X5_takeNumbered [.ref (xa g 8), .ref (xa g 6), .int v2, .int v3] (a, b) (none, (r, b)) := by
  unfold f_X5_takeNumbered at e
  refine Ev.of 0 (L0 := [some (.ref (xa g 8)), some (.ref (xa g 6)), some (.int v2), some (.int v3)]) (by decide) rfl (Nat.le_of_ble_eq_true rfl) rfl ?_
  refine r_aload_n DX5_takeNumbered_0 (i := 1) rfl rfl ?_
  obtain ⟨q1, e1, e⟩ := x_bnd e
  refine r_callV0 (As := []) (S := []) DX5_takeNumbered_1 C_X5_87 (ci := 6) rfl rfl e_6 (by decide) (by decide) (Nat.le_of_ble_eq_true rfl) (t_X6_advance N a e1) rfl ?_
  refine r_aload_n DX5_takeNumbered_4 (i := 0) rfl rfl ?_
  refine r_iload_n DX5_takeNumbered_5 (i := 2) rfl rfl ?_
  refine r_aload_n DX5_takeNumbered_6 (i := 0) rfl rfl ?_
  refine r_aload_n DX5_takeNumbered_7 (i := 1) rfl rfl ?_
  refine r_iconst DX5_takeNumbered_8 (v := 0) (by decide) ?_
  refine r_iload_n DX5_takeNumbered_9 (i := 3) rfl rfl ?_
  obtain ⟨q10, e10, e⟩ := x_bnd e
  refine r_callV1 (As := [.ref (xa g 6), .int 0, .int v3]) (S := [.int v2, .ref (xa g 8)]) DX5_takeNumbered_10 C_X5_126 (ci := 5) rfl rfl e_8 (by decide) (by decide) (Nat.le_of_ble_eq_true rfl) (t_X5_takeNumber N 0 v3 q1 e10) rfl ?_
  refine r_iconst DX5_takeNumbered_13 (v := 0) (by decide) ?_
  obtain ⟨q14, e14, e⟩ := x_bnd e
  refine r_callV0 (As := [.int v2, .int q10.1, .int 0]) (S := []) DX5_takeNumbered_14 C_X5_77 (ci := 5) rfl rfl e_8 (by decide) (by decide) (Nat.le_of_ble_eq_true rfl) (t_X5_put v2 q10.1 0 q10.2 e14) rfl ?_
  obtain rfl := Option.some.inj e
  exact r_vret DX5_takeNumbered_17 rfl rfl

set_option maxRecDepth 100000 in
set_option maxHeartbeats 4000000 in
theorem t_X5_takeSum {l : Launch} {g : xG} {b : xT} (N : Nat) (a : xT)  {r : xT} (e : f_X5_takeSum N a = some r) : Ev l g 5 yX5_takeSum M_X5_takeSum [.ref (xa g 8), .ref (xa g 6)] (a, b) (none, (r, b)) := by
  unfold f_X5_takeSum at e
  refine Ev.of 1 (L0 := [some (.ref (xa g 8)), some (.ref (xa g 6)), none]) (by decide) rfl (Nat.le_of_ble_eq_true rfl) rfl ?_
  refine r_aload_n DX5_takeSum_0 (i := 1) rfl rfl ?_
  obtain ⟨q1, e1, e⟩ := x_bnd e
  refine r_callV0 (As := []) (S := []) DX5_takeSum_1 C_X5_87 (ci := 6) rfl rfl e_6 (by decide) (by decide) (Nat.le_of_ble_eq_true rfl) (t_X6_advance N a e1) rfl ?_
  refine r_aload_n DX5_takeSum_4 (i := 0) rfl rfl ?_
  refine r_aload_n DX5_takeSum_5 (i := 1) rfl rfl ?_
  refine r_iconst DX5_takeSum_6 (v := 0) (by decide) ?_
  refine r_bipush DX5_takeSum_7 (v := 98) (by decide) ?_
  obtain ⟨q9, e9, e⟩ := x_bnd e
  refine r_callV1 (As := [.ref (xa g 6), .int 0, .int 98]) (S := []) DX5_takeSum_9 C_X5_126 (ci := 5) rfl rfl e_8 (by decide) (by decide) (Nat.le_of_ble_eq_true rfl) (t_X5_takeNumber N 0 98 q1 e9) rfl ?_
  refine r_istore_n (L' := [some (.ref (xa g 8)), some (.ref (xa g 6)), some (.int q9.1)]) DX5_takeSum_12 (i := 2) rfl (by decide) rfl rfl ?_
  refine r_aload_n DX5_takeSum_13 (i := 1) rfl rfl ?_
  refine r_ldcS (i := 9) DX5_takeSum_14 (by decide) rfl ?_
  obtain ⟨q16, e16, e⟩ := x_bnd e
  refine r_callV1 (As := [.ref (xk g 9)]) (S := []) DX5_takeSum_16 C_X5_83 (ci := 6) rfl rfl e_6 (by decide) (by decide) (Nat.le_of_ble_eq_true rfl) (t_X6_isWord N 9 q9.2 (by decide) e16) rfl ?_
  refine r_if_ne DX5_takeSum_19 (tgt := 29) (by decide) (fun c19 => ?_) (fun c19 => ?_)
  · replace e := x_iff c19 e
    refine r_aload_n DX5_takeSum_29 (i := 1) rfl rfl ?_
    obtain ⟨q30, e30, e⟩ := x_bnd e
    refine r_callV0 (As := []) (S := []) DX5_takeSum_30 C_X5_87 (ci := 6) rfl rfl e_6 (by decide) (by decide) (Nat.le_of_ble_eq_true rfl) (t_X6_advance N q9.2 e30) rfl ?_
    refine r_aload_n DX5_takeSum_33 (i := 0) rfl rfl ?_
    refine r_iconst DX5_takeSum_34 (v := 2) (by decide) ?_
    refine r_iload_n DX5_takeSum_35 (i := 2) rfl rfl ?_
    refine r_aload_n DX5_takeSum_36 (i := 0) rfl rfl ?_
    refine r_aload_n DX5_takeSum_37 (i := 1) rfl rfl ?_
    refine r_iconst DX5_takeSum_38 (v := 1) (by decide) ?_
    refine r_bipush DX5_takeSum_39 (v := 99) (by decide) ?_
    obtain ⟨q41, e41, e⟩ := x_bnd e
    refine r_callV1 (As := [.ref (xa g 6), .int 1, .int 99]) (S := [.int q9.1, .int 2, .ref (xa g 8)]) DX5_takeSum_41 C_X5_126 (ci := 5) rfl rfl e_8 (by decide) (by decide) (Nat.le_of_ble_eq_true rfl) (t_X5_takeNumber N 1 99 q30 e41) rfl ?_
    obtain ⟨q44, e44, e⟩ := x_bnd e
    refine r_callV0 (As := [.int 2, .int q9.1, .int q41.1]) (S := []) DX5_takeSum_44 C_X5_77 (ci := 5) rfl rfl e_8 (by decide) (by decide) (Nat.le_of_ble_eq_true rfl) (t_X5_put 2 q9.1 q41.1 q41.2 e44) rfl ?_
    obtain rfl := Option.some.inj e
    exact r_vret DX5_takeSum_47 rfl rfl
  · replace e := x_ift c19 e
    refine r_aload_n DX5_takeSum_22 (i := 0) rfl rfl ?_
    refine r_iconst DX5_takeSum_23 (v := 1) (by decide) ?_
    refine r_aload_n DX5_takeSum_24 (i := 1) rfl rfl ?_
    obtain ⟨q25, e25, e⟩ := x_bnd e
    refine r_callV0 (As := [.int 1, .ref (xa g 6)]) (S := []) DX5_takeSum_25 C_X5_67 (ci := 5) rfl rfl e_8 (by decide) (by decide) (Nat.le_of_ble_eq_true rfl) (t_X5_blame 1 q9.2 e25) rfl ?_
    obtain rfl := Option.some.inj e
    exact r_vret DX5_takeSum_28 rfl rfl

set_option maxRecDepth 100000 in
set_option maxHeartbeats 4000000 in
theorem t_X5_takeWord {l : Launch} {g : xG} {b : xT} (N : Nat) (a : xT)  {r : xT} (e : f_X5_takeWord N a = some r) : Ev l g 6 yX5_takeWord M_X5_takeWord [.ref (xa g 8), .ref (xa g 6)] (a, b) (none, (r, b)) := by
  unfold f_X5_takeWord at e
  refine Ev.of 0 (L0 := [some (.ref (xa g 8)), some (.ref (xa g 6))]) (by decide) rfl (Nat.le_of_ble_eq_true rfl) rfl ?_
  refine r_aload_n DX5_takeWord_0 (i := 1) rfl rfl ?_
  refine r_ldcS (i := 1) DX5_takeWord_1 (by decide) rfl ?_
  obtain ⟨q3, e3, e⟩ := x_bnd e
  refine r_callV1 (As := [.ref (xk g 1)]) (S := []) DX5_takeWord_3 C_X5_83 (ci := 6) rfl rfl e_6 (by decide) (by decide) (Nat.le_of_ble_eq_true rfl) (t_X6_isWord N 1 a (by decide) e3) rfl ?_
  refine r_if_eq DX5_takeWord_6 (tgt := 17) (by decide) (fun c6 => ?_) (fun c6 => ?_)
  · replace e := x_ift c6 e
    refine r_aload_n DX5_takeWord_17 (i := 1) rfl rfl ?_
    refine r_ldcS (i := 2) DX5_takeWord_18 (by decide) rfl ?_
    obtain ⟨q20, e20, e⟩ := x_bnd e
    refine r_callV1 (As := [.ref (xk g 2)]) (S := []) DX5_takeWord_20 C_X5_83 (ci := 6) rfl rfl e_6 (by decide) (by decide) (Nat.le_of_ble_eq_true rfl) (t_X6_isWord N 2 a (by decide) e20) rfl ?_
    refine r_if_eq DX5_takeWord_23 (tgt := 37) (by decide) (fun c23 => ?_) (fun c23 => ?_)
    · replace e := x_ift c23 e
      refine r_aload_n DX5_takeWord_37 (i := 1) rfl rfl ?_
      refine r_ldcS (i := 3) DX5_takeWord_38 (by decide) rfl ?_
      obtain ⟨q40, e40, e⟩ := x_bnd e
      refine r_callV1 (As := [.ref (xk g 3)]) (S := []) DX5_takeWord_40 C_X5_83 (ci := 6) rfl rfl e_6 (by decide) (by decide) (Nat.le_of_ble_eq_true rfl) (t_X6_isWord N 3 a (by decide) e40) rfl ?_
      refine r_if_eq DX5_takeWord_43 (tgt := 57) (by decide) (fun c43 => ?_) (fun c43 => ?_)
      · replace e := x_ift c43 e
        refine r_aload_n DX5_takeWord_57 (i := 1) rfl rfl ?_
        refine r_ldcS (i := 4) DX5_takeWord_58 (by decide) rfl ?_
        obtain ⟨q60, e60, e⟩ := x_bnd e
        refine r_callV1 (As := [.ref (xk g 4)]) (S := []) DX5_takeWord_60 C_X5_83 (ci := 6) rfl rfl e_6 (by decide) (by decide) (Nat.le_of_ble_eq_true rfl) (t_X6_isWord N 4 a (by decide) e60) rfl ?_
        refine r_if_eq DX5_takeWord_63 (tgt := 77) (by decide) (fun c63 => ?_) (fun c63 => ?_)
        · replace e := x_ift c63 e
          refine r_aload_n DX5_takeWord_77 (i := 1) rfl rfl ?_
          refine r_ldcS (i := 5) DX5_takeWord_78 (by decide) rfl ?_
          obtain ⟨q80, e80, e⟩ := x_bnd e
          refine r_callV1 (As := [.ref (xk g 5)]) (S := []) DX5_takeWord_80 C_X5_83 (ci := 6) rfl rfl e_6 (by decide) (by decide) (Nat.le_of_ble_eq_true rfl) (t_X6_isWord N 5 a (by decide) e80) rfl ?_
          refine r_if_eq DX5_takeWord_83 (tgt := 97) (by decide) (fun c83 => ?_) (fun c83 => ?_)
          · replace e := x_ift c83 e
            refine r_aload_n DX5_takeWord_97 (i := 1) rfl rfl ?_
            refine r_ldcS (i := 6) DX5_takeWord_98 (by decide) rfl ?_
            obtain ⟨q100, e100, e⟩ := x_bnd e
            refine r_callV1 (As := [.ref (xk g 6)]) (S := []) DX5_takeWord_100 C_X5_83 (ci := 6) rfl rfl e_6 (by decide) (by decide) (Nat.le_of_ble_eq_true rfl) (t_X6_isWord N 6 a (by decide) e100) rfl ?_
            refine r_if_eq DX5_takeWord_103 (tgt := 120) (by decide) (fun c103 => ?_) (fun c103 => ?_)
            · replace e := x_ift c103 e
              refine r_aload_n DX5_takeWord_120 (i := 0) rfl rfl ?_
              refine r_iconst DX5_takeWord_121 (v := 1) (by decide) ?_
              refine r_aload_n DX5_takeWord_122 (i := 1) rfl rfl ?_
              obtain ⟨q123, e123, e⟩ := x_bnd e
              refine r_callV0 (As := [.int 1, .ref (xa g 6)]) (S := []) DX5_takeWord_123 C_X5_67 (ci := 5) rfl rfl e_8 (by decide) (by decide) (Nat.le_of_ble_eq_true rfl) (t_X5_blame 1 a e123) rfl ?_
              obtain rfl := Option.some.inj e
              exact r_vret DX5_takeWord_126 rfl rfl
            · replace e := x_iff c103 e
              refine r_aload_n DX5_takeWord_106 (i := 1) rfl rfl ?_
              obtain ⟨q107, e107, e⟩ := x_bnd e
              refine r_callV0 (As := []) (S := []) DX5_takeWord_107 C_X5_87 (ci := 6) rfl rfl e_6 (by decide) (by decide) (Nat.le_of_ble_eq_true rfl) (t_X6_advance N a e107) rfl ?_
              refine r_aload_n DX5_takeWord_110 (i := 0) rfl rfl ?_
              refine r_iconst DX5_takeWord_111 (v := 5) (by decide) ?_
              refine r_iconst DX5_takeWord_112 (v := 0) (by decide) ?_
              refine r_iconst DX5_takeWord_113 (v := 0) (by decide) ?_
              obtain ⟨q114, e114, e⟩ := x_bnd e
              refine r_callV0 (As := [.int 5, .int 0, .int 0]) (S := []) DX5_takeWord_114 C_X5_77 (ci := 5) rfl rfl e_8 (by decide) (by decide) (Nat.le_of_ble_eq_true rfl) (t_X5_put 5 0 0 q107 e114) rfl ?_
              refine r_goto DX5_takeWord_117 (tgt := 126) (by decide) ?_
              obtain rfl := Option.some.inj e
              exact r_vret DX5_takeWord_126 rfl rfl
          · replace e := x_iff c83 e
            refine r_aload_n DX5_takeWord_86 (i := 0) rfl rfl ?_
            refine r_aload_n DX5_takeWord_87 (i := 1) rfl rfl ?_
            refine r_bipush DX5_takeWord_88 (v := 6) (by decide) ?_
            refine r_iconst DX5_takeWord_90 (v := 5) (by decide) ?_
            obtain ⟨q91, e91, e⟩ := x_bnd e
            refine r_callV0 (As := [.ref (xa g 6), .int 6, .int 5]) (S := []) DX5_takeWord_91 C_X5_110 (ci := 5) rfl rfl e_8 (by decide) (by decide) (Nat.le_of_ble_eq_true rfl) (t_X5_takeNumbered N 6 5 a e91) rfl ?_
            refine r_goto DX5_takeWord_94 (tgt := 126) (by decide) ?_
            obtain rfl := Option.some.inj e
            exact r_vret DX5_takeWord_126 rfl rfl
        · replace e := x_iff c63 e
          refine r_aload_n DX5_takeWord_66 (i := 0) rfl rfl ?_
          refine r_aload_n DX5_takeWord_67 (i := 1) rfl rfl ?_
          refine r_iconst DX5_takeWord_68 (v := 4) (by decide) ?_
          refine r_bipush DX5_takeWord_69 (v := 12) (by decide) ?_
          obtain ⟨q71, e71, e⟩ := x_bnd e
          refine r_callV0 (As := [.ref (xa g 6), .int 4, .int 12]) (S := []) DX5_takeWord_71 C_X5_110 (ci := 5) rfl rfl e_8 (by decide) (by decide) (Nat.le_of_ble_eq_true rfl) (t_X5_takeNumbered N 4 12 a e71) rfl ?_
          refine r_goto DX5_takeWord_74 (tgt := 126) (by decide) ?_
          obtain rfl := Option.some.inj e
          exact r_vret DX5_takeWord_126 rfl rfl
      · replace e := x_iff c43 e
        refine r_aload_n DX5_takeWord_46 (i := 0) rfl rfl ?_
        refine r_aload_n DX5_takeWord_47 (i := 1) rfl rfl ?_
        refine r_iconst DX5_takeWord_48 (v := 3) (by decide) ?_
        refine r_bipush DX5_takeWord_49 (v := 11) (by decide) ?_
        obtain ⟨q51, e51, e⟩ := x_bnd e
        refine r_callV0 (As := [.ref (xa g 6), .int 3, .int 11]) (S := []) DX5_takeWord_51 C_X5_110 (ci := 5) rfl rfl e_8 (by decide) (by decide) (Nat.le_of_ble_eq_true rfl) (t_X5_takeNumbered N 3 11 a e51) rfl ?_
        refine r_goto DX5_takeWord_54 (tgt := 126) (by decide) ?_
        obtain rfl := Option.some.inj e
        exact r_vret DX5_takeWord_126 rfl rfl
    · replace e := x_iff c23 e
      refine r_aload_n DX5_takeWord_26 (i := 0) rfl rfl ?_
      refine r_aload_n DX5_takeWord_27 (i := 1) rfl rfl ?_
      refine r_iconst DX5_takeWord_28 (v := 1) (by decide) ?_
      refine r_bipush DX5_takeWord_29 (v := 12) (by decide) ?_
      obtain ⟨q31, e31, e⟩ := x_bnd e
      refine r_callV0 (As := [.ref (xa g 6), .int 1, .int 12]) (S := []) DX5_takeWord_31 C_X5_110 (ci := 5) rfl rfl e_8 (by decide) (by decide) (Nat.le_of_ble_eq_true rfl) (t_X5_takeNumbered N 1 12 a e31) rfl ?_
      refine r_goto DX5_takeWord_34 (tgt := 126) (by decide) ?_
      obtain rfl := Option.some.inj e
      exact r_vret DX5_takeWord_126 rfl rfl
  · replace e := x_iff c6 e
    refine r_aload_n DX5_takeWord_9 (i := 0) rfl rfl ?_
    refine r_aload_n DX5_takeWord_10 (i := 1) rfl rfl ?_
    obtain ⟨q11, e11, e⟩ := x_bnd e
    refine r_callV0 (As := [.ref (xa g 6)]) (S := []) DX5_takeWord_11 C_X5_105 (ci := 5) rfl rfl e_8 (by decide) (by decide) (Nat.le_of_ble_eq_true rfl) (t_X5_takeSum N a e11) rfl ?_
    refine r_goto DX5_takeWord_14 (tgt := 126) (by decide) ?_
    obtain rfl := Option.some.inj e
    exact r_vret DX5_takeWord_126 rfl rfl

set_option maxRecDepth 100000 in
set_option maxHeartbeats 4000000 in
theorem t_X5_takeTest {l : Launch} {g : xG} {b : xT} (N : Nat) (a : xT)  {r : xT} (e : f_X5_takeTest N a = some r) : Ev l g 7 yX5_takeTest M_X5_takeTest [.ref (xa g 8), .ref (xa g 6)] (a, b) (none, (r, b)) := by
  unfold f_X5_takeTest at e
  refine Ev.of 0 (L0 := [some (.ref (xa g 8)), some (.ref (xa g 6))]) (by decide) rfl (Nat.le_of_ble_eq_true rfl) rfl ?_
  refine r_aload_n DX5_takeTest_0 (i := 1) rfl rfl ?_
  refine r_ldcS (i := 0) DX5_takeTest_1 (by decide) rfl ?_
  obtain ⟨q3, e3, e⟩ := x_bnd e
  refine r_callV1 (As := [.ref (xk g 0)]) (S := []) DX5_takeTest_3 C_X5_83 (ci := 6) rfl rfl e_6 (by decide) (by decide) (Nat.le_of_ble_eq_true rfl) (t_X6_isWord N 0 a (by decide) e3) rfl ?_
  refine r_if_eq DX5_takeTest_6 (tgt := 42) (by decide) (fun c6 => ?_) (fun c6 => ?_)
  · replace e := x_ift c6 e
    refine r_aload_n DX5_takeTest_42 (i := 1) rfl rfl ?_
    refine r_bipush DX5_takeTest_43 (v := 40) (by decide) ?_
    obtain ⟨q45, e45, e⟩ := x_bnd e
    refine r_callV1 (As := [.int 40]) (S := []) DX5_takeTest_45 C_X5_90 (ci := 6) rfl rfl e_6 (by decide) (by decide) (Nat.le_of_ble_eq_true rfl) (t_X6_isSign 40 a e45) rfl ?_
    refine r_if_eq DX5_takeTest_48 (tgt := 59) (by decide) (fun c48 => ?_) (fun c48 => ?_)
    · replace e := x_ift c48 e
      refine r_aload_n DX5_takeTest_59 (i := 0) rfl rfl ?_
      refine r_aload_n DX5_takeTest_60 (i := 1) rfl rfl ?_
      obtain ⟨q61, e61, e⟩ := x_bnd e
      refine r_callV0 (As := [.ref (xa g 6)]) (S := []) DX5_takeTest_61 C_X5_97 (ci := 5) rfl rfl e_8 (by decide) (by decide) (Nat.le_of_ble_eq_true rfl) (t_X5_takeWord N a e61) rfl ?_
      refine r_aload_n DX5_takeTest_64 (i := 0) rfl rfl ?_
      obtain ⟨q65, e65, e⟩ := x_bnd e
      refine r_callV0 (As := []) (S := []) DX5_takeTest_65 C_X5_100 (ci := 5) rfl rfl e_8 (by decide) (by decide) (Nat.le_of_ble_eq_true rfl) (t_X5_endTest q61 e65) rfl ?_
      obtain rfl := Option.some.inj e
      exact r_vret DX5_takeTest_68 rfl rfl
    · replace e := x_iff c48 e
      refine r_aload_n DX5_takeTest_51 (i := 0) rfl rfl ?_
      refine r_aload_n DX5_takeTest_52 (i := 1) rfl rfl ?_
      obtain ⟨q53, e53, e⟩ := x_bnd e
      refine r_callV0 (As := [.ref (xa g 6)]) (S := []) DX5_takeTest_53 C_X5_94 (ci := 5) rfl rfl e_8 (by decide) (by decide) (Nat.le_of_ble_eq_true rfl) (t_X5_takeOpening N a e53) rfl ?_
      refine r_goto DX5_takeTest_56 (tgt := 68) (by decide) ?_
      obtain rfl := Option.some.inj e
      exact r_vret DX5_takeTest_68 rfl rfl
  · replace e := x_iff c6 e
    refine r_aload_n DX5_takeTest_9 (i := 1) rfl rfl ?_
    obtain ⟨q10, e10, e⟩ := x_bnd e
    refine r_callV0 (As := []) (S := []) DX5_takeTest_10 C_X5_87 (ci := 6) rfl rfl e_6 (by decide) (by decide) (Nat.le_of_ble_eq_true rfl) (t_X6_advance N a e10) rfl ?_
    refine r_aload_n DX5_takeTest_13 (i := 0) rfl rfl ?_
    refine r_get (v := .ref (xa g 12)) DX5_takeTest_14 F_X5_33 e_8 rfl ?_
    refine r_aload_n DX5_takeTest_17 (i := 0) rfl rfl ?_
    refine r_get (v := .int (gI q10 12)) DX5_takeTest_18 F_X5_43 e_8 rfl ?_
    refine r_aload_n DX5_takeTest_21 (i := 0) rfl rfl ?_
    refine r_get (v := .ref (xa g 12)) DX5_takeTest_22 F_X5_33 e_8 rfl ?_
    refine r_aload_n DX5_takeTest_25 (i := 0) rfl rfl ?_
    refine r_get (v := .int (gI q10 12)) DX5_takeTest_26 F_X5_43 e_8 rfl ?_
    obtain ⟨c29, e⟩ := x_grd e
    refine r_zald (f := (gA q10 12)) DX5_takeTest_29 e_12 rfl c29 ?_
    refine r_if_ne DX5_takeTest_30 (tgt := 37) (by decide) (fun c30 => ?_) (fun c30 => ?_)
    · replace e := x_iff c30 e
      refine r_iconst DX5_takeTest_37 (v := 0) (by decide) ?_
      obtain ⟨c38, e⟩ := x_grd e
      refine r_zast (f := (gA q10 12)) DX5_takeTest_38 e_12 rfl c38 p_12 ?_
      refine r_goto DX5_takeTest_39 (tgt := 68) (by decide) ?_
      obtain rfl := Option.some.inj e
      exact r_vret DX5_takeTest_68 rfl rfl
    · replace e := x_ift c30 e
      refine r_iconst DX5_takeTest_33 (v := 1) (by decide) ?_
      refine r_goto DX5_takeTest_34 (tgt := 38) (by decide) ?_
      obtain ⟨c38, e⟩ := x_grd e
      refine r_zast (f := (gA q10 12)) DX5_takeTest_38 e_12 rfl c38 p_12 ?_
      refine r_goto DX5_takeTest_39 (tgt := 68) (by decide) ?_
      obtain rfl := Option.some.inj e
      exact r_vret DX5_takeTest_68 rfl rfl

set_option maxRecDepth 100000 in
set_option maxHeartbeats 4000000 in
theorem lp_X5_parse_L31 {l : Launch} {g : xG} {b : xT} {R : Option Value × xS} (N : Nat) : ∀ (n : Nat) (v2 : Int32) (a : xT) (r : (xT)), f_X5_parse_L31 N n v2 a = some r → Rx l g 8 M_X5_parse 77 [some (.ref (xa g 8)), some (.ref (xa g 6)), none] [] (r, b) R → Rx l g 8 M_X5_parse 31 [some (.ref (xa g 8)), some (.ref (xa g 6)), some (.int v2)] [] (a, b) R := by
  intro n
  induction n with
  | zero => intro v2_ s_ r_ e; cases e
  | succ n ih =>
    intro v2 a r e K0
    rw [f_X5_parse_L31] at e
    refine r_iload_n DX5_parse_31 (i := 2) rfl rfl ?_
    refine r_bipush DX5_parse_32 (v := 120) (by decide) ?_
    refine r_icmp_ge DX5_parse_34 (tgt := 77) (by decide) (fun c34 => ?_) (fun c34 => ?_)
    · replace e := x_ift c34 e
      obtain rfl := Option.some.inj e
      refine r_mask (L' := [some (.ref (xa g 8)), some (.ref (xa g 6)), none]) [true, true, false] rfl ?_
      exact K0
    · replace e := x_iff c34 e
      refine r_aload_n DX5_parse_37 (i := 1) rfl rfl ?_
      refine r_get (v := .int (gI a 6)) DX5_parse_38 F_X5_57 e_6 rfl ?_
      refine r_if_eq DX5_parse_41 (tgt := 77) (by decide) (fun c41 => ?_) (fun c41 => ?_)
      · replace e := x_ift c41 e
        obtain rfl := Option.some.inj e
        refine r_mask (L' := [some (.ref (xa g 8)), some (.ref (xa g 6)), none]) [true, true, false] rfl ?_
        exact K0
      · replace e := x_iff c41 e
        refine r_aload_n DX5_parse_44 (i := 0) rfl rfl ?_
        refine r_get (v := .int (gI a 10)) DX5_parse_45 F_X5_27 e_8 rfl ?_
        refine r_if_ne DX5_parse_48 (tgt := 77) (by decide) (fun c48 => ?_) (fun c48 => ?_)
        · replace e := x_iff c48 e
          obtain rfl := Option.some.inj e
          refine r_mask (L' := [some (.ref (xa g 8)), some (.ref (xa g 6)), none]) [true, true, false] rfl ?_
          exact K0
        · replace e := x_ift c48 e
          refine r_aload_n DX5_parse_51 (i := 0) rfl rfl ?_
          refine r_get (v := .int (gI a 13)) DX5_parse_52 F_X5_46 e_8 rfl ?_
          refine r_if_eq DX5_parse_55 (tgt := 66) (by decide) (fun c55 => ?_) (fun c55 => ?_)
          · replace e := x_ift c55 e
            refine r_aload_n DX5_parse_66 (i := 0) rfl rfl ?_
            refine r_aload_n DX5_parse_67 (i := 1) rfl rfl ?_
            obtain ⟨q68, e68, e⟩ := x_bnd e
            refine r_callV0 (As := [.ref (xa g 6)]) (S := []) DX5_parse_68 C_X5_64 (ci := 5) rfl rfl e_8 (by decide) (by decide) (Nat.le_of_ble_eq_true rfl) (t_X5_takeJoint N a e68) rfl ?_
            refine r_iinc (L' := [some (.ref (xa g 8)), some (.ref (xa g 6)), some (.int (v2 + 1))]) DX5_parse_71 (x := v2) (v := (v2 + 1)) rfl rfl (by decide) rfl rfl ?_
            refine r_goto DX5_parse_74 (tgt := 31) (by decide) ?_
            exact ih _ _ _ e K0
          · replace e := x_iff c55 e
            refine r_aload_n DX5_parse_58 (i := 0) rfl rfl ?_
            refine r_aload_n DX5_parse_59 (i := 1) rfl rfl ?_
            obtain ⟨q60, e60, e⟩ := x_bnd e
            refine r_callV0 (As := [.ref (xa g 6)]) (S := []) DX5_parse_60 C_X5_60 (ci := 5) rfl rfl e_8 (by decide) (by decide) (Nat.le_of_ble_eq_true rfl) (t_X5_takeTest N a e60) rfl ?_
            refine r_goto DX5_parse_63 (tgt := 71) (by decide) ?_
            refine r_iinc (L' := [some (.ref (xa g 8)), some (.ref (xa g 6)), some (.int (v2 + 1))]) DX5_parse_71 (x := v2) (v := (v2 + 1)) rfl rfl (by decide) rfl rfl ?_
            refine r_goto DX5_parse_74 (tgt := 31) (by decide) ?_
            exact ih _ _ _ e K0

set_option maxRecDepth 100000 in
set_option maxHeartbeats 4000000 in
theorem t_X5_parse {l : Launch} {g : xG} {b : xT} (N : Nat) (a : xT)  {r : xT} (e : f_X5_parse N a = some r) : Ev l g 8 yX5_parse M_X5_parse [.ref (xa g 8), .ref (xa g 6)] (a, b) (none, (r, b)) := by
  unfold f_X5_parse at e
  refine Ev.of 1 (L0 := [some (.ref (xa g 8)), some (.ref (xa g 6)), none]) (by decide) rfl (Nat.le_of_ble_eq_true rfl) rfl ?_
  refine r_aload_n DX5_parse_0 (i := 0) rfl rfl ?_
  refine r_iconst DX5_parse_1 (v := 0) (by decide) ?_
  refine r_put (ty := .int) DX5_parse_2 F_X5_23 Fp_5_3 e_8 rfl rfl (Nat.le_of_ble_eq_true rfl) p_8_3 ?_
  refine r_aload_n DX5_parse_5 (i := 0) rfl rfl ?_
  refine r_iconst DX5_parse_6 (v := 0) (by decide) ?_
  refine r_put (ty := .int) DX5_parse_7 F_X5_27 Fp_5_4 e_8 rfl rfl (Nat.le_of_ble_eq_true rfl) p_8_4 ?_
  refine r_aload_n DX5_parse_10 (i := 0) rfl rfl ?_
  refine r_iconst DX5_parse_11 (v := (-1)) (by decide) ?_
  refine r_put (ty := .int) DX5_parse_12 F_X5_30 Fp_5_5 e_8 rfl rfl (Nat.le_of_ble_eq_true rfl) p_8_5 ?_
  refine r_aload_n DX5_parse_15 (i := 0) rfl rfl ?_
  refine r_iconst DX5_parse_16 (v := 1) (by decide) ?_
  refine r_put (ty := .boolean) DX5_parse_17 F_X5_46 Fp_5_10 e_8 (by decide) (by decide) (Nat.le_of_ble_eq_true rfl) p_8_10 ?_
  refine r_aload_n DX5_parse_20 (i := 0) rfl rfl ?_
  refine r_iconst DX5_parse_21 (v := 0) (by decide) ?_
  obtain ⟨q22, e22, e⟩ := x_bnd e
  refine r_callV0 (As := [.int 0]) (S := []) DX5_parse_22 C_X5_50 (ci := 5) rfl rfl e_8 (by decide) (by decide) (Nat.le_of_ble_eq_true rfl) (t_X5_begin 0 (sI (sI (sI (sI a 9 0) 10 0) 11 (-1)) 13 1) e22) rfl ?_
  refine r_aload_n DX5_parse_25 (i := 1) rfl rfl ?_
  obtain ⟨q26, e26, e⟩ := x_bnd e
  refine r_callV0 (As := []) (S := []) DX5_parse_26 C_X5_54 (ci := 6) rfl rfl e_6 (by decide) (by decide) (Nat.le_of_ble_eq_true rfl) (t_X6_rewind N q22 e26) rfl ?_
  refine r_iconst DX5_parse_29 (v := 0) (by decide) ?_
  refine r_istore_n (L' := [some (.ref (xa g 8)), some (.ref (xa g 6)), some (.int 0)]) DX5_parse_30 (i := 2) rfl (by decide) rfl rfl ?_
  obtain ⟨q31, e31, e⟩ := x_bnd e
  refine lp_X5_parse_L31 N N 0 q26 q31 e31 ?_
  refine r_aload_n DX5_parse_77 (i := 0) rfl rfl ?_
  refine r_get (v := .int (gI q31 13)) DX5_parse_78 F_X5_46 e_8 rfl ?_
  refine r_if_ne DX5_parse_81 (tgt := 91) (by decide) (fun c81 => ?_) (fun c81 => ?_)
  · replace e := x_iff c81 e
    refine r_aload_n DX5_parse_91 (i := 0) rfl rfl ?_
    refine r_iconst DX5_parse_92 (v := 1) (by decide) ?_
    refine r_aload_n DX5_parse_93 (i := 1) rfl rfl ?_
    obtain ⟨q94, e94, e⟩ := x_bnd e
    refine r_callV0 (As := [.int 1, .ref (xa g 6)]) (S := []) DX5_parse_94 C_X5_67 (ci := 5) rfl rfl e_8 (by decide) (by decide) (Nat.le_of_ble_eq_true rfl) (t_X5_blame 1 q31 e94) rfl ?_
    refine r_aload_n DX5_parse_97 (i := 0) rfl rfl ?_
    obtain ⟨q98, e98, e⟩ := x_bnd e
    refine r_callV0 (As := []) (S := []) DX5_parse_98 C_X5_71 (ci := 5) rfl rfl e_8 (by decide) (by decide) (Nat.le_of_ble_eq_true rfl) (t_X5_end q94 e98) rfl ?_
    obtain rfl := Option.some.inj e
    exact r_vret DX5_parse_101 rfl rfl
  · replace e := x_ift c81 e
    refine r_aload_n DX5_parse_84 (i := 0) rfl rfl ?_
    refine r_get (v := .int (gI q31 12)) DX5_parse_85 F_X5_43 e_8 rfl ?_
    refine r_if_le DX5_parse_88 (tgt := 97) (by decide) (fun c88 => ?_) (fun c88 => ?_)
    · replace e := x_ift c88 e
      refine r_aload_n DX5_parse_97 (i := 0) rfl rfl ?_
      obtain ⟨q98, e98, e⟩ := x_bnd e
      refine r_callV0 (As := []) (S := []) DX5_parse_98 C_X5_71 (ci := 5) rfl rfl e_8 (by decide) (by decide) (Nat.le_of_ble_eq_true rfl) (t_X5_end q31 e98) rfl ?_
      obtain rfl := Option.some.inj e
      exact r_vret DX5_parse_101 rfl rfl
    · replace e := x_iff c88 e
      refine r_aload_n DX5_parse_91 (i := 0) rfl rfl ?_
      refine r_iconst DX5_parse_92 (v := 1) (by decide) ?_
      refine r_aload_n DX5_parse_93 (i := 1) rfl rfl ?_
      obtain ⟨q94, e94, e⟩ := x_bnd e
      refine r_callV0 (As := [.int 1, .ref (xa g 6)]) (S := []) DX5_parse_94 C_X5_67 (ci := 5) rfl rfl e_8 (by decide) (by decide) (Nat.le_of_ble_eq_true rfl) (t_X5_blame 1 q31 e94) rfl ?_
      refine r_aload_n DX5_parse_97 (i := 0) rfl rfl ?_
      obtain ⟨q98, e98, e⟩ := x_bnd e
      refine r_callV0 (As := []) (S := []) DX5_parse_98 C_X5_71 (ci := 5) rfl rfl e_8 (by decide) (by decide) (Nat.le_of_ble_eq_true rfl) (t_X5_end q94 e98) rfl ?_
      obtain rfl := Option.some.inj e
      exact r_vret DX5_parse_101 rfl rfl

set_option maxRecDepth 100000 in
set_option maxHeartbeats 4000000 in
theorem lp_X5_sumOf_L4 {l : Launch} {g : xG} {s : xS} {R : Option Value × xS} (v0 : Int32) : ∀ (n : Nat) (v1 : Int32) (v2 : Int32) (r : (Int32)), f_X5_sumOf_L4 v0 n v1 v2 = some r → Rx l g 0 M_X5_sumOf 28 [none, some (.int r), none] [] s R → Rx l g 0 M_X5_sumOf 4 [some (.int v0), some (.int v1), some (.int v2)] [] s R := by
  intro n
  induction n with
  | zero => intro v1_ v2_ r_ e; cases e
  | succ n ih =>
    intro v1 v2 r e K0
    rw [f_X5_sumOf_L4] at e
    refine r_iload_n DX5_sumOf_4 (i := 2) rfl rfl ?_
    refine r_bipush DX5_sumOf_5 (v := 12) (by decide) ?_
    refine r_icmp_ge DX5_sumOf_7 (tgt := 28) (by decide) (fun c7 => ?_) (fun c7 => ?_)
    · replace e := x_ift c7 e
      obtain rfl := Option.some.inj e
      refine r_mask (L' := [none, some (.int v1), none]) [false, true, false] rfl ?_
      exact K0
    · replace e := x_iff c7 e
      refine r_iload_n DX5_sumOf_10 (i := 1) rfl rfl ?_
      refine r_iload_n DX5_sumOf_11 (i := 0) rfl rfl ?_
      refine r_iload_n DX5_sumOf_12 (i := 2) rfl rfl ?_
      refine r_ishr DX5_sumOf_13 ?_
      refine r_iconst DX5_sumOf_14 (v := 1) (by decide) ?_
      refine r_iand DX5_sumOf_15 ?_
      refine r_iload_n DX5_sumOf_16 (i := 2) rfl rfl ?_
      refine r_iconst DX5_sumOf_17 (v := 1) (by decide) ?_
      refine r_iadd DX5_sumOf_18 ?_
      refine r_imul DX5_sumOf_19 ?_
      refine r_iadd DX5_sumOf_20 ?_
      obtain ⟨w21, e21, e⟩ := x_bnd e
      refine r_istore_nB (L' := [some (.int v0), some (.int w21), some (.int v2)]) (w := w21) DX5_sumOf_21 (Option.some.inj e21) (i := 1) rfl (by decide) rfl rfl ?_
      refine r_iinc (L' := [some (.int v0), some (.int w21), some (.int (v2 + 1))]) DX5_sumOf_22 (x := v2) (v := (v2 + 1)) rfl rfl (by decide) rfl rfl ?_
      refine r_goto DX5_sumOf_25 (tgt := 4) (by decide) ?_
      exact ih _ _ _ e K0

set_option maxRecDepth 100000 in
set_option maxHeartbeats 4000000 in
theorem t_X5_sumOf {l : Launch} {g : xG} {s : xS} (N : Nat) (v0 : Int32)  {r : Int32} (e : f_X5_sumOf N v0 = some r) : Ev l g 0 yX5_sumOf M_X5_sumOf [.int v0] s (some (.int r), s) := by
  unfold f_X5_sumOf at e
  refine Ev.of 2 (L0 := [some (.int v0), none, none]) (by decide) rfl (Nat.le_of_ble_eq_true rfl) rfl ?_
  refine r_iconst DX5_sumOf_0 (v := 0) (by decide) ?_
  refine r_istore_n (L' := [some (.int v0), some (.int 0), none]) DX5_sumOf_1 (i := 1) rfl (by decide) rfl rfl ?_
  refine r_iconst DX5_sumOf_2 (v := 0) (by decide) ?_
  refine r_istore_n (L' := [some (.int v0), some (.int 0), some (.int 0)]) DX5_sumOf_3 (i := 2) rfl (by decide) rfl rfl ?_
  obtain ⟨q4, e4, e⟩ := x_bnd e
  refine lp_X5_sumOf_L4 v0 N 0 0 q4 e4 ?_
  refine r_iload_n DX5_sumOf_28 (i := 1) rfl rfl ?_
  obtain rfl := Option.some.inj e
  exact r_iret DX5_sumOf_29 rfl rfl

set_option maxRecDepth 100000 in
set_option maxHeartbeats 4000000 in
theorem t_X5_passes {l : Launch} {g : xG} {b : xT} (N : Nat) (v1 : Int32) (v2 : Int32) (a : xT)  {r : Int32} (e : f_X5_passes N v1 v2 a = some r) : Ev l g 1 yX5_passes M_X5_passes [.ref (xa g 8), .int v1, .int v2, .ref (xa g 1), .ref (xa g 2)] (a, b) (some (.int r), (a, b)) := by
  unfold f_X5_passes at e
  refine Ev.of 1 (L0 := [some (.ref (xa g 8)), some (.int v1), some (.int v2), some (.ref (xa g 1)), some (.ref (xa g 2)), none]) (by decide) rfl (Nat.le_of_ble_eq_true rfl) rfl ?_
  refine r_aload_n DX5_passes_0 (i := 0) rfl rfl ?_
  refine r_get (v := .ref (xa g 10)) DX5_passes_1 F_X5_17 e_8 rfl ?_
  refine r_iload_n DX5_passes_4 (i := 1) rfl rfl ?_
  obtain ⟨c5, e⟩ := x_grd e
  refine r_iald (f := (gA a 10)) DX5_passes_5 e_10 rfl c5 ?_
  refine r_istore (L' := [some (.ref (xa g 8)), some (.int v1), some (.int v2), some (.ref (xa g 1)), some (.ref (xa g 2)), some (.int ((gA a 10) (Int32.toNatClampNeg v1)))]) DX5_passes_6 (by decide) rfl rfl ?_
  refine r_aload_n DX5_passes_8 (i := 0) rfl rfl ?_
  refine r_get (v := .ref (xa g 9)) DX5_passes_9 F_X5_11 e_8 rfl ?_
  refine r_iload_n DX5_passes_12 (i := 1) rfl rfl ?_
  obtain ⟨c13, e⟩ := x_grd e
  refine r_iald (f := (gA a 9)) DX5_passes_13 e_9 rfl c13 ?_
  by_cases c14_0 : ((gA a 9) (Int32.toNatClampNeg v1)) = 1
  · replace e := x_ift c14_0 e
    refine r_tsIn DX5_passes_14 (tgt := 48) (by rw [c14_0]; decide) (by rw [c14_0]; decide) (by rw [c14_0]; rfl) (by decide) ?_
    refine r_iload_n DX5_passes_48 (i := 2) rfl rfl ?_
    obtain ⟨q49, e49, e⟩ := x_bnd e
    refine r_callS1 (As := [.int v2]) (S := []) DX5_passes_49 C_X5_142 (by decide) (by decide) (Nat.le_of_ble_eq_true rfl) (t_J6_bitCount_0f7a4 v2 e49) rfl ?_
    refine r_iload DX5_passes_52 rfl ?_
    refine r_icmp_ne DX5_passes_54 (tgt := 61) (by decide) (fun c54 => ?_) (fun c54 => ?_)
    · replace e := x_iff c54 e
      refine r_iconst DX5_passes_61 (v := 0) (by decide) ?_
      obtain rfl := Option.some.inj e
      exact r_zret DX5_passes_62 rfl (by decide) rfl
    · replace e := x_ift c54 e
      refine r_iconst DX5_passes_57 (v := 1) (by decide) ?_
      refine r_goto DX5_passes_58 (tgt := 62) (by decide) ?_
      obtain rfl := Option.some.inj e
      exact r_zret DX5_passes_62 rfl (by decide) rfl
  replace e := x_iff c14_0 e
  by_cases c14_1 : ((gA a 9) (Int32.toNatClampNeg v1)) = 2
  · replace e := x_ift c14_1 e
    refine r_tsIn DX5_passes_14 (tgt := 63) (by rw [c14_1]; decide) (by rw [c14_1]; decide) (by rw [c14_1]; rfl) (by decide) ?_
    refine r_aload_n DX5_passes_63 (i := 0) rfl rfl ?_
    refine r_get (v := .ref (xa g 11)) DX5_passes_64 F_X5_20 e_8 rfl ?_
    refine r_iload_n DX5_passes_67 (i := 1) rfl rfl ?_
    obtain ⟨c68, e⟩ := x_grd e
    refine r_iald (f := (gA a 11)) DX5_passes_68 e_11 rfl c68 ?_
    refine r_if_le DX5_passes_69 (tgt := 92) (by decide) (fun c69 => ?_) (fun c69 => ?_)
    · replace e := x_ift c69 e
      refine r_iconst DX5_passes_92 (v := 0) (by decide) ?_
      obtain rfl := Option.some.inj e
      exact r_zret DX5_passes_93 rfl (by decide) rfl
    · replace e := x_iff c69 e
      refine r_iload_n DX5_passes_72 (i := 2) rfl rfl ?_
      obtain ⟨q73, e73, e⟩ := x_bnd e
      refine r_callS1 (As := [.int v2]) (S := []) DX5_passes_73 C_X5_148 (by decide) (by decide) (Nat.le_of_ble_eq_true rfl) (t_X5_sumOf N v2 e73) rfl ?_
      refine r_aload_n DX5_passes_76 (i := 0) rfl rfl ?_
      refine r_get (v := .ref (xa g 11)) DX5_passes_77 F_X5_20 e_8 rfl ?_
      refine r_iload_n DX5_passes_80 (i := 1) rfl rfl ?_
      obtain ⟨c81, e⟩ := x_grd e
      refine r_iald (f := (gA a 11)) DX5_passes_81 e_11 rfl c81 ?_
      obtain ⟨c82, e⟩ := x_grd e
      refine r_irem DX5_passes_82 c82 ?_
      refine r_iload DX5_passes_83 rfl ?_
      refine r_icmp_ne DX5_passes_85 (tgt := 92) (by decide) (fun c85 => ?_) (fun c85 => ?_)
      · replace e := x_iff c85 e
        refine r_iconst DX5_passes_92 (v := 0) (by decide) ?_
        obtain rfl := Option.some.inj e
        exact r_zret DX5_passes_93 rfl (by decide) rfl
      · replace e := x_ift c85 e
        refine r_iconst DX5_passes_88 (v := 1) (by decide) ?_
        refine r_goto DX5_passes_89 (tgt := 93) (by decide) ?_
        obtain rfl := Option.some.inj e
        exact r_zret DX5_passes_93 rfl (by decide) rfl
  replace e := x_iff c14_1 e
  by_cases c14_2 : ((gA a 9) (Int32.toNatClampNeg v1)) = 3
  · replace e := x_ift c14_2 e
    refine r_tsIn DX5_passes_14 (tgt := 94) (by rw [c14_2]; decide) (by rw [c14_2]; decide) (by rw [c14_2]; rfl) (by decide) ?_
    refine r_iload_n DX5_passes_94 (i := 2) rfl rfl ?_
    refine r_iload DX5_passes_95 rfl ?_
    refine r_ishr DX5_passes_97 ?_
    refine r_iconst DX5_passes_98 (v := 1) (by decide) ?_
    refine r_iand DX5_passes_99 ?_
    refine r_if_eq DX5_passes_100 (tgt := 107) (by decide) (fun c100 => ?_) (fun c100 => ?_)
    · replace e := x_ift c100 e
      refine r_iconst DX5_passes_107 (v := 0) (by decide) ?_
      obtain rfl := Option.some.inj e
      exact r_zret DX5_passes_108 rfl (by decide) rfl
    · replace e := x_iff c100 e
      refine r_iconst DX5_passes_103 (v := 1) (by decide) ?_
      refine r_goto DX5_passes_104 (tgt := 108) (by decide) ?_
      obtain rfl := Option.some.inj e
      exact r_zret DX5_passes_108 rfl (by decide) rfl
  replace e := x_iff c14_2 e
  by_cases c14_3 : ((gA a 9) (Int32.toNatClampNeg v1)) = 4
  · replace e := x_ift c14_3 e
    refine r_tsIn DX5_passes_14 (tgt := 109) (by rw [c14_3]; decide) (by rw [c14_3]; decide) (by rw [c14_3]; rfl) (by decide) ?_
    refine r_iload_n DX5_passes_109 (i := 2) rfl rfl ?_
    refine r_iload_n DX5_passes_110 (i := 2) rfl rfl ?_
    refine r_iconst DX5_passes_111 (v := 1) (by decide) ?_
    refine r_ishl DX5_passes_112 ?_
    refine r_iconst DX5_passes_113 (v := (-1)) (by decide) ?_
    refine r_ixor DX5_passes_114 ?_
    refine r_iand DX5_passes_115 ?_
    obtain ⟨q116, e116, e⟩ := x_bnd e
    refine r_callS1 (As := [.int (v2 &&& ((v2 <<< (1 &&& 31)) ^^^ (-1)))]) (S := []) DX5_passes_116 C_X5_142 (by decide) (by decide) (Nat.le_of_ble_eq_true rfl) (t_J6_bitCount_0f7a4 (v2 &&& ((v2 <<< (1 &&& 31)) ^^^ (-1))) e116) rfl ?_
    refine r_iload DX5_passes_119 rfl ?_
    refine r_icmp_ne DX5_passes_121 (tgt := 128) (by decide) (fun c121 => ?_) (fun c121 => ?_)
    · replace e := x_iff c121 e
      refine r_iconst DX5_passes_128 (v := 0) (by decide) ?_
      obtain rfl := Option.some.inj e
      exact r_zret DX5_passes_129 rfl (by decide) rfl
    · replace e := x_ift c121 e
      refine r_iconst DX5_passes_124 (v := 1) (by decide) ?_
      refine r_goto DX5_passes_125 (tgt := 129) (by decide) ?_
      obtain rfl := Option.some.inj e
      exact r_zret DX5_passes_129 rfl (by decide) rfl
  replace e := x_iff c14_3 e
  by_cases c14_4 : ((gA a 9) (Int32.toNatClampNeg v1)) = 5
  · replace e := x_ift c14_4 e
    refine r_tsIn DX5_passes_14 (tgt := 130) (by rw [c14_4]; decide) (by rw [c14_4]; decide) (by rw [c14_4]; rfl) (by decide) ?_
    refine r_aload_n DX5_passes_130 (i := 3) rfl rfl ?_
    refine r_iload_n DX5_passes_131 (i := 2) rfl rfl ?_
    obtain ⟨q132, e132, e⟩ := x_bnd e
    refine r_callV1 (As := [.int v2]) (S := []) DX5_passes_132 C_X5_151 (ci := 1) rfl rfl e_1 (by decide) (by decide) (Nat.le_of_ble_eq_true rfl) (t_X1_reversed N v2 a e132) rfl ?_
    refine r_iload_n DX5_passes_135 (i := 2) rfl rfl ?_
    refine r_icmp_ne DX5_passes_136 (tgt := 143) (by decide) (fun c136 => ?_) (fun c136 => ?_)
    · replace e := x_iff c136 e
      refine r_iconst DX5_passes_143 (v := 0) (by decide) ?_
      obtain rfl := Option.some.inj e
      exact r_zret DX5_passes_144 rfl (by decide) rfl
    · replace e := x_ift c136 e
      refine r_iconst DX5_passes_139 (v := 1) (by decide) ?_
      refine r_goto DX5_passes_140 (tgt := 144) (by decide) ?_
      obtain rfl := Option.some.inj e
      exact r_zret DX5_passes_144 rfl (by decide) rfl
  replace e := x_iff c14_4 e
  refine r_tsOut DX5_passes_14 (tgt := 145) (x_out1_5 (x_ne c14_0) (x_ne c14_1) (x_ne c14_2) (x_ne c14_3) (x_ne c14_4)) (by decide) ?_
  refine r_iload DX5_passes_145 rfl ?_
  refine r_if_lt DX5_passes_147 (tgt := 174) (by decide) (fun c147 => ?_) (fun c147 => ?_)
  · replace e := x_ift c147 e
    refine r_iconst DX5_passes_174 (v := 0) (by decide) ?_
    obtain rfl := Option.some.inj e
    exact r_zret DX5_passes_175 rfl (by decide) rfl
  · replace e := x_iff c147 e
    refine r_iload DX5_passes_150 rfl ?_
    refine r_aload DX5_passes_152 rfl ?_
    refine r_alen (t0 := 3) (v := 6) DX5_passes_154 e_2 rfl rfl ?_
    refine r_icmp_ge DX5_passes_155 (tgt := 174) (by decide) (fun c155 => ?_) (fun c155 => ?_)
    · replace e := x_ift c155 e
      refine r_iconst DX5_passes_174 (v := 0) (by decide) ?_
      obtain rfl := Option.some.inj e
      exact r_zret DX5_passes_175 rfl (by decide) rfl
    · replace e := x_iff c155 e
      refine r_aload DX5_passes_158 rfl ?_
      refine r_iload DX5_passes_160 rfl ?_
      obtain ⟨c162, e⟩ := x_grd e
      refine r_aald (b := (xa g (23 + (Int32.toNatClampNeg ((gA a 10) (Int32.toNatClampNeg v1)))))) DX5_passes_162 e_2 rfl c162 rfl ?_
      refine r_iload_n DX5_passes_163 (i := 2) rfl rfl ?_
      obtain ⟨q164, e164, e⟩ := x_bnd e
      refine r_callV1 (As := [.int v2]) (S := []) DX5_passes_164 C_X5_156 (ci := 3) rfl rfl (e_ml (x_in7 c162)) (by decide) (by decide) (Nat.le_of_ble_eq_true rfl) (t_X3_holds (Int32.toNatClampNeg ((gA a 10) (Int32.toNatClampNeg v1))) v2 a (x_in7 c162) e164) rfl ?_
      refine r_if_eq DX5_passes_167 (tgt := 174) (by decide) (fun c167 => ?_) (fun c167 => ?_)
      · replace e := x_ift c167 e
        refine r_iconst DX5_passes_174 (v := 0) (by decide) ?_
        obtain rfl := Option.some.inj e
        exact r_zret DX5_passes_175 rfl (by decide) rfl
      · replace e := x_iff c167 e
        refine r_iconst DX5_passes_170 (v := 1) (by decide) ?_
        refine r_goto DX5_passes_171 (tgt := 175) (by decide) ?_
        obtain rfl := Option.some.inj e
        exact r_zret DX5_passes_175 rfl (by decide) rfl

set_option maxRecDepth 100000 in
set_option maxHeartbeats 4000000 in
theorem lp_X5_suits_L6 {l : Launch} {g : xG} {b : xT} {R : Option Value × xS} (N : Nat) (v1 : Int32) (a : xT) : ∀ (n : Nat) (v4 : Int64) (v6 : Int32) (r : (Int64)), f_X5_suits_L6 N v1 a n v4 v6 = some r → Rx l g 2 M_X5_suits 120 [none, none, none, none, some (.long r), none, none] [] (a, b) R → Rx l g 2 M_X5_suits 6 [some (.ref (xa g 8)), some (.int v1), some (.ref (xa g 1)), some (.ref (xa g 2)), some (.long v4), none, some (.int v6)] [] (a, b) R := by
  intro n
  induction n with
  | zero => intro v4_ v6_ r_ e; cases e
  | succ n ih =>
    intro v4 v6 r e K0
    rw [f_X5_suits_L6] at e
    refine r_iload DX5_suits_6 rfl ?_
    refine r_aload_n DX5_suits_8 (i := 0) rfl rfl ?_
    refine r_get (v := .int (gI a 9)) DX5_suits_9 F_X5_23 e_8 rfl ?_
    refine r_icmp_ge DX5_suits_12 (tgt := 120) (by decide) (fun c12 => ?_) (fun c12 => ?_)
    · replace e := x_ift c12 e
      obtain rfl := Option.some.inj e
      refine r_mask (L' := [none, none, none, none, some (.long v4), none, none]) [false, false, false, false, true, false, false] rfl ?_
      exact K0
    · replace e := x_iff c12 e
      refine r_aload_n DX5_suits_15 (i := 0) rfl rfl ?_
      refine r_get (v := .ref (xa g 9)) DX5_suits_16 F_X5_11 e_8 rfl ?_
      refine r_iload DX5_suits_19 rfl ?_
      obtain ⟨c21, e⟩ := x_grd e
      refine r_iald (f := (gA a 9)) DX5_suits_21 e_9 rfl c21 ?_
      refine r_bipush DX5_suits_22 (v := 7) (by decide) ?_
      refine r_icmp_ne DX5_suits_24 (tgt := 36) (by decide) (fun c24 => ?_) (fun c24 => ?_)
      · replace e := x_iff c24 e
        refine r_aload_n DX5_suits_36 (i := 0) rfl rfl ?_
        refine r_get (v := .ref (xa g 9)) DX5_suits_37 F_X5_11 e_8 rfl ?_
        refine r_iload DX5_suits_40 rfl ?_
        obtain ⟨c42, e⟩ := x_grd e
        refine r_iald (f := (gA a 9)) DX5_suits_42 e_9 rfl c42 ?_
        refine r_bipush DX5_suits_43 (v := 8) (by decide) ?_
        refine r_icmp_ne DX5_suits_45 (tgt := 64) (by decide) (fun c45 => ?_) (fun c45 => ?_)
        · replace e := x_iff c45 e
          refine r_aload_n DX5_suits_64 (i := 0) rfl rfl ?_
          refine r_get (v := .ref (xa g 9)) DX5_suits_65 F_X5_11 e_8 rfl ?_
          refine r_iload DX5_suits_68 rfl ?_
          obtain ⟨c70, e⟩ := x_grd e
          refine r_iald (f := (gA a 9)) DX5_suits_70 e_9 rfl c70 ?_
          refine r_bipush DX5_suits_71 (v := 9) (by decide) ?_
          refine r_icmp_ne DX5_suits_73 (tgt := 90) (by decide) (fun c73 => ?_) (fun c73 => ?_)
          · replace e := x_iff c73 e
            refine r_lload DX5_suits_90 rfl ?_
            refine r_iconst DX5_suits_92 (v := 1) (by decide) ?_
            refine r_lshl DX5_suits_93 ?_
            refine r_aload_n DX5_suits_94 (i := 0) rfl rfl ?_
            refine r_iload DX5_suits_95 rfl ?_
            refine r_iload_n DX5_suits_97 (i := 1) rfl rfl ?_
            refine r_aload_n DX5_suits_98 (i := 2) rfl rfl ?_
            refine r_aload_n DX5_suits_99 (i := 3) rfl rfl ?_
            obtain ⟨q100, e100, e⟩ := x_bnd e
            refine r_callV1 (As := [.int v6, .int v1, .ref (xa g 1), .ref (xa g 2)]) (S := [.long (v4 <<< ((1 : Int32).toInt64 &&& 63))]) DX5_suits_100 C_X5_138 (ci := 5) rfl rfl e_8 (by decide) (by decide) (Nat.le_of_ble_eq_true rfl) (t_X5_passes N v6 v1 a e100) rfl ?_
            refine r_if_eq DX5_suits_103 (tgt := 110) (by decide) (fun c103 => ?_) (fun c103 => ?_)
            · replace e := x_ift c103 e
              refine r_lconst DX5_suits_110 (v := 0) (by decide) ?_
              refine r_lor DX5_suits_111 ?_
              refine r_lstore (L' := [some (.ref (xa g 8)), some (.int v1), some (.ref (xa g 1)), some (.ref (xa g 2)), some (.long ((v4 <<< ((1 : Int32).toInt64 &&& 63)) ||| 0)), none, some (.int v6)]) DX5_suits_112 (by decide) rfl rfl ?_
              refine r_iinc (L' := [some (.ref (xa g 8)), some (.int v1), some (.ref (xa g 1)), some (.ref (xa g 2)), some (.long ((v4 <<< ((1 : Int32).toInt64 &&& 63)) ||| 0)), none, some (.int (v6 + 1))]) DX5_suits_114 (x := v6) (v := (v6 + 1)) rfl rfl (by decide) rfl rfl ?_
              refine r_goto DX5_suits_117 (tgt := 6) (by decide) ?_
              exact ih _ _ _ e K0
            · replace e := x_iff c103 e
              refine r_lconst DX5_suits_106 (v := 1) (by decide) ?_
              refine r_goto DX5_suits_107 (tgt := 111) (by decide) ?_
              refine r_lor DX5_suits_111 ?_
              refine r_lstore (L' := [some (.ref (xa g 8)), some (.int v1), some (.ref (xa g 1)), some (.ref (xa g 2)), some (.long ((v4 <<< ((1 : Int32).toInt64 &&& 63)) ||| 1)), none, some (.int v6)]) DX5_suits_112 (by decide) rfl rfl ?_
              refine r_iinc (L' := [some (.ref (xa g 8)), some (.int v1), some (.ref (xa g 1)), some (.ref (xa g 2)), some (.long ((v4 <<< ((1 : Int32).toInt64 &&& 63)) ||| 1)), none, some (.int (v6 + 1))]) DX5_suits_114 (x := v6) (v := (v6 + 1)) rfl rfl (by decide) rfl rfl ?_
              refine r_goto DX5_suits_117 (tgt := 6) (by decide) ?_
              exact ih _ _ _ e K0
          · replace e := x_ift c73 e
            refine r_lload DX5_suits_76 rfl ?_
            refine r_iconst DX5_suits_78 (v := 1) (by decide) ?_
            refine r_lshr DX5_suits_79 ?_
            refine r_lload DX5_suits_80 rfl ?_
            refine r_lconst DX5_suits_82 (v := 1) (by decide) ?_
            refine r_land DX5_suits_83 ?_
            refine r_lor DX5_suits_84 ?_
            obtain ⟨w85, e85, e⟩ := x_bnd e
            refine r_lstoreB (L' := [some (.ref (xa g 8)), some (.int v1), some (.ref (xa g 1)), some (.ref (xa g 2)), some (.long w85), none, some (.int v6)]) (w := w85) DX5_suits_85 (Option.some.inj e85) (by decide) rfl rfl ?_
            refine r_goto DX5_suits_87 (tgt := 114) (by decide) ?_
            refine r_iinc (L' := [some (.ref (xa g 8)), some (.int v1), some (.ref (xa g 1)), some (.ref (xa g 2)), some (.long w85), none, some (.int (v6 + 1))]) DX5_suits_114 (x := v6) (v := (v6 + 1)) rfl rfl (by decide) rfl rfl ?_
            refine r_goto DX5_suits_117 (tgt := 6) (by decide) ?_
            exact ih _ _ _ e K0
        · replace e := x_ift c45 e
          refine r_lload DX5_suits_48 rfl ?_
          refine r_iconst DX5_suits_50 (v := 1) (by decide) ?_
          refine r_lshr DX5_suits_51 ?_
          refine r_lload DX5_suits_52 rfl ?_
          refine r_ldc2 DX5_suits_54 K_X5_136 ?_
          refine r_lor DX5_suits_57 ?_
          refine r_land DX5_suits_58 ?_
          obtain ⟨w59, e59, e⟩ := x_bnd e
          refine r_lstoreB (L' := [some (.ref (xa g 8)), some (.int v1), some (.ref (xa g 1)), some (.ref (xa g 2)), some (.long w59), none, some (.int v6)]) (w := w59) DX5_suits_59 (Option.some.inj e59) (by decide) rfl rfl ?_
          refine r_goto DX5_suits_61 (tgt := 114) (by decide) ?_
          refine r_iinc (L' := [some (.ref (xa g 8)), some (.int v1), some (.ref (xa g 1)), some (.ref (xa g 2)), some (.long w59), none, some (.int (v6 + 1))]) DX5_suits_114 (x := v6) (v := (v6 + 1)) rfl rfl (by decide) rfl rfl ?_
          refine r_goto DX5_suits_117 (tgt := 6) (by decide) ?_
          exact ih _ _ _ e K0
      · replace e := x_ift c24 e
        refine r_lload DX5_suits_27 rfl ?_
        refine r_lconst DX5_suits_29 (v := 1) (by decide) ?_
        refine r_lxor DX5_suits_30 ?_
        refine r_lstore (L' := [some (.ref (xa g 8)), some (.int v1), some (.ref (xa g 1)), some (.ref (xa g 2)), some (.long (v4 ^^^ 1)), none, some (.int v6)]) DX5_suits_31 (by decide) rfl rfl ?_
        refine r_goto DX5_suits_33 (tgt := 114) (by decide) ?_
        refine r_iinc (L' := [some (.ref (xa g 8)), some (.int v1), some (.ref (xa g 1)), some (.ref (xa g 2)), some (.long (v4 ^^^ 1)), none, some (.int (v6 + 1))]) DX5_suits_114 (x := v6) (v := (v6 + 1)) rfl rfl (by decide) rfl rfl ?_
        refine r_goto DX5_suits_117 (tgt := 6) (by decide) ?_
        exact ih _ _ _ e K0

set_option maxRecDepth 100000 in
set_option maxHeartbeats 4000000 in
theorem t_X5_suits {l : Launch} {g : xG} {b : xT} (N : Nat) (v1 : Int32) (a : xT)  {r : Int32} (e : f_X5_suits N v1 a = some r) : Ev l g 2 yX5_suits M_X5_suits [.ref (xa g 8), .int v1, .ref (xa g 1), .ref (xa g 2)] (a, b) (some (.int r), (a, b)) := by
  unfold f_X5_suits at e
  refine Ev.of 3 (L0 := [some (.ref (xa g 8)), some (.int v1), some (.ref (xa g 1)), some (.ref (xa g 2)), none, none, none]) (by decide) rfl (Nat.le_of_ble_eq_true rfl) rfl ?_
  refine r_lconst DX5_suits_0 (v := 0) (by decide) ?_
  refine r_lstore (L' := [some (.ref (xa g 8)), some (.int v1), some (.ref (xa g 1)), some (.ref (xa g 2)), some (.long 0), none, none]) DX5_suits_1 (by decide) rfl rfl ?_
  refine r_iconst DX5_suits_3 (v := 0) (by decide) ?_
  refine r_istore (L' := [some (.ref (xa g 8)), some (.int v1), some (.ref (xa g 1)), some (.ref (xa g 2)), some (.long 0), none, some (.int 0)]) DX5_suits_4 (by decide) rfl rfl ?_
  obtain ⟨q6, e6, e⟩ := x_bnd e
  refine lp_X5_suits_L6 N v1 a N 0 0 q6 e6 ?_
  refine r_lload DX5_suits_120 rfl ?_
  refine r_lconst DX5_suits_122 (v := 1) (by decide) ?_
  refine r_land DX5_suits_123 ?_
  refine r_lconst DX5_suits_124 (v := 0) (by decide) ?_
  refine r_lcmp_eq DX5_suits_125 DX5_suits_126 (tgt := 133) (by decide) (fun c125 => ?_) (fun c125 => ?_)
  · replace e := x_ift c125 e
    refine r_iconst DX5_suits_133 (v := 0) (by decide) ?_
    obtain rfl := Option.some.inj e
    exact r_zret DX5_suits_134 rfl (by decide) rfl
  · replace e := x_iff c125 e
    refine r_iconst DX5_suits_129 (v := 1) (by decide) ?_
    refine r_goto DX5_suits_130 (tgt := 134) (by decide) ?_
    obtain rfl := Option.some.inj e
    exact r_zret DX5_suits_134 rfl (by decide) rfl
