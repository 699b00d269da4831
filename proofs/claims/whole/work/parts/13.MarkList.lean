set_option maxRecDepth 100000 in
set_option maxHeartbeats 4000000 in
theorem t_X3_append {l : Launch} {g : xG} {b : xT} (k0 : Nat) (v1 : Int32) (a : xT) (hk0 : k0 < 7) {r : (Int32 × xT)} (e : f_X3_append k0 v1 a = some r) : Ev l g 0 yX3_append M_X3_append [.ref (xa g (23 + k0)), .int v1] (a, b) (some (.int r.1), (r.2, b)) := by
  unfold f_X3_append at e
  refine Ev.of 0 (L0 := [some (.ref (xa g (23 + k0))), some (.int v1)]) (by decide) rfl (Nat.le_of_ble_eq_true rfl) rfl ?_
  refine r_aload_n DX3_append_0 (i := 0) rfl rfl ?_
  refine r_get (v := .int (gI a (23 + k0))) DX3_append_1 F_X3_19 (e_ml hk0) rfl ?_
  refine r_bipush DX3_append_4 (v := 64) (by decide) ?_
  refine r_icmp_ge DX3_append_6 (tgt := 20) (by decide) (fun c6 => ?_) (fun c6 => ?_)
  · replace e := x_ift c6 e
    refine r_iconst DX3_append_20 (v := 0) (by decide) ?_
    obtain rfl := Option.some.inj e
    exact r_zret DX3_append_21 rfl (by decide) rfl
  · replace e := x_iff c6 e
    refine r_iload_n DX3_append_9 (i := 1) rfl rfl ?_
    refine r_if_lt DX3_append_10 (tgt := 20) (by decide) (fun c10 => ?_) (fun c10 => ?_)
    · replace e := x_ift c10 e
      refine r_iconst DX3_append_20 (v := 0) (by decide) ?_
      obtain rfl := Option.some.inj e
      exact r_zret DX3_append_21 rfl (by decide) rfl
    · replace e := x_iff c10 e
      refine r_iload_n DX3_append_13 (i := 1) rfl rfl ?_
      refine r_sipush DX3_append_14 (v := 4096) (by decide) ?_
      refine r_icmp_lt DX3_append_17 (tgt := 22) (by decide) (fun c17 => ?_) (fun c17 => ?_)
      · replace e := x_ift c17 e
        refine r_aload_n DX3_append_22 (i := 0) rfl rfl ?_
        refine r_get (v := .ref (xa g (30 + k0))) DX3_append_23 F_X3_9 (e_ml hk0) rfl ?_
        refine r_aload_n DX3_append_26 (i := 0) rfl rfl ?_
        refine r_get (v := .int (gI a (23 + k0))) DX3_append_27 F_X3_19 (e_ml hk0) rfl ?_
        refine r_iload_n DX3_append_30 (i := 1) rfl rfl ?_
        obtain ⟨c31, e⟩ := x_grd e
        refine r_iast (f := (gA a (30 + k0))) DX3_append_31 (e_mk hk0) rfl c31 (p_mk hk0) ?_
        refine r_aload_n DX3_append_32 (i := 0) rfl rfl ?_
        refine r_dup DX3_append_33 rfl ?_
        refine r_get (v := .int (gI a (23 + k0))) DX3_append_34 F_X3_19 (e_ml hk0) rfl ?_
        refine r_iconst DX3_append_37 (v := 1) (by decide) ?_
        refine r_iadd DX3_append_38 ?_
        refine r_put (ty := .int) DX3_append_39 F_X3_19 Fp_3_2 (e_ml hk0) rfl rfl (Nat.le_of_ble_eq_true rfl) (p_ml hk0) ?_
        refine r_aload_n DX3_append_42 (i := 0) rfl rfl ?_
        refine r_get (v := .ref (xa g (37 + k0))) DX3_append_43 F_X3_15 (e_ml hk0) rfl ?_
        refine r_iload_n DX3_append_46 (i := 1) rfl rfl ?_
        refine r_bipush DX3_append_47 (v := 64) (by decide) ?_
        refine r_idiv DX3_append_49 (by decide) ?_
        refine r_dup2 DX3_append_50 rfl rfl ?_
        obtain ⟨c51, e⟩ := x_grd e
        refine r_lald (f := (gB a (37 + k0))) DX3_append_51 (e_mb hk0) rfl c51 ?_
        refine r_lconst DX3_append_52 (v := 1) (by decide) ?_
        refine r_iload_n DX3_append_53 (i := 1) rfl rfl ?_
        refine r_bipush DX3_append_54 (v := 64) (by decide) ?_
        refine r_irem DX3_append_56 (by decide) ?_
        refine r_lshl DX3_append_57 ?_
        refine r_lor DX3_append_58 ?_
        obtain ⟨c59, e⟩ := x_grd e
        refine r_last (f := (gB a (37 + k0))) DX3_append_59 (e_mb hk0) rfl c59 (p_mb hk0) ?_
        refine r_iconst DX3_append_60 (v := 1) (by decide) ?_
        obtain rfl := Option.some.inj e
        exact r_zret DX3_append_61 rfl (by decide) rfl
      · replace e := x_iff c17 e
        refine r_iconst DX3_append_20 (v := 0) (by decide) ?_
        obtain rfl := Option.some.inj e
        exact r_zret DX3_append_21 rfl (by decide) rfl

set_option maxRecDepth 100000 in
set_option maxHeartbeats 4000000 in
theorem t_X3_holds {l : Launch} {g : xG} {b : xT} (k0 : Nat) (v1 : Int32) (a : xT) (hk0 : k0 < 7) {r : Int32} (e : f_X3_holds k0 v1 a = some r) : Ev l g 0 yX3_holds M_X3_holds [.ref (xa g (23 + k0)), .int v1] (a, b) (some (.int r), (a, b)) := by
  unfold f_X3_holds at e
  refine Ev.of 0 (L0 := [some (.ref (xa g (23 + k0))), some (.int v1)]) (by decide) rfl (Nat.le_of_ble_eq_true rfl) rfl ?_
  refine r_iload_n DX3_holds_0 (i := 1) rfl rfl ?_
  refine r_if_lt DX3_holds_1 (tgt := 36) (by decide) (fun c1 => ?_) (fun c1 => ?_)
  · replace e := x_ift c1 e
    refine r_iconst DX3_holds_36 (v := 0) (by decide) ?_
    obtain rfl := Option.some.inj e
    exact r_zret DX3_holds_37 rfl (by decide) rfl
  · replace e := x_iff c1 e
    refine r_iload_n DX3_holds_4 (i := 1) rfl rfl ?_
    refine r_sipush DX3_holds_5 (v := 4096) (by decide) ?_
    refine r_icmp_ge DX3_holds_8 (tgt := 36) (by decide) (fun c8 => ?_) (fun c8 => ?_)
    · replace e := x_ift c8 e
      refine r_iconst DX3_holds_36 (v := 0) (by decide) ?_
      obtain rfl := Option.some.inj e
      exact r_zret DX3_holds_37 rfl (by decide) rfl
    · replace e := x_iff c8 e
      refine r_aload_n DX3_holds_11 (i := 0) rfl rfl ?_
      refine r_get (v := .ref (xa g (37 + k0))) DX3_holds_12 F_X3_15 (e_ml hk0) rfl ?_
      refine r_iload_n DX3_holds_15 (i := 1) rfl rfl ?_
      refine r_bipush DX3_holds_16 (v := 64) (by decide) ?_
      refine r_idiv DX3_holds_18 (by decide) ?_
      obtain ⟨c19, e⟩ := x_grd e
      refine r_lald (f := (gB a (37 + k0))) DX3_holds_19 (e_mb hk0) rfl c19 ?_
      refine r_iload_n DX3_holds_20 (i := 1) rfl rfl ?_
      refine r_bipush DX3_holds_21 (v := 64) (by decide) ?_
      refine r_irem DX3_holds_23 (by decide) ?_
      refine r_lushr DX3_holds_24 ?_
      refine r_lconst DX3_holds_25 (v := 1) (by decide) ?_
      refine r_land DX3_holds_26 ?_
      refine r_lconst DX3_holds_27 (v := 0) (by decide) ?_
      refine r_lcmp_eq DX3_holds_28 DX3_holds_29 (tgt := 36) (by decide) (fun c28 => ?_) (fun c28 => ?_)
      · replace e := x_ift c28 e
        refine r_iconst DX3_holds_36 (v := 0) (by decide) ?_
        obtain rfl := Option.some.inj e
        exact r_zret DX3_holds_37 rfl (by decide) rfl
      · replace e := x_iff c28 e
        refine r_iconst DX3_holds_32 (v := 1) (by decide) ?_
        refine r_goto DX3_holds_33 (tgt := 37) (by decide) ?_
        obtain rfl := Option.some.inj e
        exact r_zret DX3_holds_37 rfl (by decide) rfl

set_option maxRecDepth 100000 in
set_option maxHeartbeats 4000000 in
theorem t_X3_copy {l : Launch} {g : xG} {b : xT} (k0 : Nat) (k1 : Nat) (a : xT) (hk0 : k0 < 7) (hk1 : k1 < 7) {r : xT} (e : f_X3_copy k0 k1 a = some r) : Ev l g 2 yX3_copy M_X3_copy [.ref (xa g (23 + k0)), .ref (xa g (23 + k1))] (a, b) (none, (r, b)) := by
  unfold f_X3_copy at e
  refine Ev.of 0 (L0 := [some (.ref (xa g (23 + k0))), some (.ref (xa g (23 + k1)))]) (by decide) rfl (Nat.le_of_ble_eq_true rfl) rfl ?_
  refine r_aload_n DX3_copy_0 (i := 0) rfl rfl ?_
  refine r_aload_n DX3_copy_1 (i := 1) rfl rfl ?_
  refine r_get (v := .int (gI a (23 + k1))) DX3_copy_2 F_X3_19 (e_ml hk1) rfl ?_
  refine r_put (ty := .int) DX3_copy_5 F_X3_19 Fp_3_2 (e_ml hk0) rfl rfl (Nat.le_of_ble_eq_true rfl) (p_ml hk0) ?_
  refine r_aload_n DX3_copy_8 (i := 1) rfl rfl ?_
  refine r_get (v := .ref (xa g (30 + k1))) DX3_copy_9 F_X3_9 (e_ml hk1) rfl ?_
  refine r_iconst DX3_copy_12 (v := 0) (by decide) ?_
  refine r_aload_n DX3_copy_13 (i := 0) rfl rfl ?_
  refine r_get (v := .ref (xa g (30 + k0))) DX3_copy_14 F_X3_9 (e_ml hk0) rfl ?_
  refine r_iconst DX3_copy_17 (v := 0) (by decide) ?_
  refine r_aload_n DX3_copy_18 (i := 0) rfl rfl ?_
  refine r_get (v := .int (gI (sI a (23 + k0) (gI a (23 + k1))) (23 + k0))) DX3_copy_19 F_X3_19 (e_ml hk0) rfl ?_
  obtain ⟨c22, e⟩ := x_grd e
  refine r_copyi (f := (gA a (30 + k1))) (f1 := (gA a (30 + k0))) DX3_copy_22 C_X3_32 (e_mk hk1) (e_mk hk0) c22.1 c22.2.1 c22.2.2.1 c22.2.2.2.1 c22.2.2.2.2 (by decide) (Nat.le_of_ble_eq_true rfl) (p_mk hk0) ?_
  refine r_aload_n DX3_copy_25 (i := 1) rfl rfl ?_
  refine r_get (v := .ref (xa g (37 + k1))) DX3_copy_26 F_X3_15 (e_ml hk1) rfl ?_
  refine r_iconst DX3_copy_29 (v := 0) (by decide) ?_
  refine r_aload_n DX3_copy_30 (i := 0) rfl rfl ?_
  refine r_get (v := .ref (xa g (37 + k0))) DX3_copy_31 F_X3_15 (e_ml hk0) rfl ?_
  refine r_iconst DX3_copy_34 (v := 0) (by decide) ?_
  refine r_aload_n DX3_copy_35 (i := 0) rfl rfl ?_
  refine r_get (v := .ref (xa g (37 + k0))) DX3_copy_36 F_X3_15 (e_ml hk0) rfl ?_
  refine r_alen (t0 := 1) (v := 64) DX3_copy_39 (e_mb hk0) rfl rfl ?_
  obtain ⟨c40, e⟩ := x_grd e
  refine r_copyl (f := (gB a (37 + k1))) (f1 := (gB a (37 + k0))) DX3_copy_40 C_X3_32 (e_mb hk1) (e_mb hk0) c40.1 c40.2.1 c40.2.2.1 c40.2.2.2.1 c40.2.2.2.2 (by decide) (Nat.le_of_ble_eq_true rfl) (p_mb hk0) ?_
  obtain rfl := Option.some.inj e
  exact r_vret DX3_copy_43 rfl rfl

set_option maxRecDepth 100000 in
set_option maxHeartbeats 4000000 in
theorem t_X3_wipe {l : Launch} {g : xG} {b : xT} (N : Nat) (k0 : Nat) (a : xT) (hk0 : k0 < 7) {r : xT} (e : f_X3_wipe N k0 a = some r) : Ev l g 1 yX3_wipe M_X3_wipe [.ref (xa g (23 + k0))] (a, b) (none, (r, b)) := by
  unfold f_X3_wipe at e
  refine Ev.of 0 (L0 := [some (.ref (xa g (23 + k0)))]) (by decide) rfl (Nat.le_of_ble_eq_true rfl) rfl ?_
  refine r_aload_n DX3_wipe_0 (i := 0) rfl rfl ?_
  refine r_iconst DX3_wipe_1 (v := 0) (by decide) ?_
  refine r_put (ty := .int) DX3_wipe_2 F_X3_19 Fp_3_2 (e_ml hk0) rfl rfl (Nat.le_of_ble_eq_true rfl) (p_ml hk0) ?_
  refine r_aload_n DX3_wipe_5 (i := 0) rfl rfl ?_
  refine r_get (v := .ref (xa g (37 + k0))) DX3_wipe_6 F_X3_15 (e_ml hk0) rfl ?_
  refine r_lconst DX3_wipe_9 (v := 0) (by decide) ?_
  obtain ⟨q10, e10, e⟩ := x_bnd e
  refine r_callS0 (As := [.ref (xa g (37 + k0)), .long 0]) (S := []) DX3_wipe_10 C_X3_38 (by decide) (by decide) (Nat.le_of_ble_eq_true rfl) (t_J7_fill_d0a16 N k0 0 (sI a (23 + k0) 0) hk0 e10) rfl ?_
  obtain rfl := Option.some.inj e
  exact r_vret DX3_wipe_13 rfl rfl

set_option maxRecDepth 100000 in
set_option maxHeartbeats 4000000 in
theorem t_X3_remove {l : Launch} {g : xG} {b : xT} (k0 : Nat) (v1 : Int32) (a : xT) (hk0 : k0 < 7) {r : xT} (e : f_X3_remove k0 v1 a = some r) : Ev l g 2 yX3_remove M_X3_remove [.ref (xa g (23 + k0)), .int v1] (a, b) (none, (r, b)) := by
  unfold f_X3_remove at e
  refine Ev.of 1 (L0 := [some (.ref (xa g (23 + k0))), some (.int v1), none]) (by decide) rfl (Nat.le_of_ble_eq_true rfl) rfl ?_
  refine r_iload_n DX3_remove_0 (i := 1) rfl rfl ?_
  refine r_if_lt DX3_remove_1 (tgt := 12) (by decide) (fun c1 => ?_) (fun c1 => ?_)
  · replace e := x_ift c1 e
    obtain rfl := Option.some.inj e
    exact r_vret DX3_remove_12 rfl rfl
  · replace e := x_iff c1 e
    refine r_iload_n DX3_remove_4 (i := 1) rfl rfl ?_
    refine r_aload_n DX3_remove_5 (i := 0) rfl rfl ?_
    refine r_get (v := .int (gI a (23 + k0))) DX3_remove_6 F_X3_19 (e_ml hk0) rfl ?_
    refine r_icmp_lt DX3_remove_9 (tgt := 13) (by decide) (fun c9 => ?_) (fun c9 => ?_)
    · replace e := x_ift c9 e
      refine r_aload_n DX3_remove_13 (i := 0) rfl rfl ?_
      refine r_get (v := .ref (xa g (30 + k0))) DX3_remove_14 F_X3_9 (e_ml hk0) rfl ?_
      refine r_iload_n DX3_remove_17 (i := 1) rfl rfl ?_
      obtain ⟨c18, e⟩ := x_grd e
      refine r_iald (f := (gA a (30 + k0))) DX3_remove_18 (e_mk hk0) rfl c18 ?_
      refine r_istore_n (L' := [some (.ref (xa g (23 + k0))), some (.int v1), some (.int ((gA a (30 + k0)) (Int32.toNatClampNeg v1)))]) DX3_remove_19 (i := 2) rfl (by decide) rfl rfl ?_
      refine r_aload_n DX3_remove_20 (i := 0) rfl rfl ?_
      refine r_get (v := .ref (xa g (37 + k0))) DX3_remove_21 F_X3_15 (e_ml hk0) rfl ?_
      refine r_iload_n DX3_remove_24 (i := 2) rfl rfl ?_
      refine r_bipush DX3_remove_25 (v := 64) (by decide) ?_
      refine r_idiv DX3_remove_27 (by decide) ?_
      refine r_dup2 DX3_remove_28 rfl rfl ?_
      obtain ⟨c29, e⟩ := x_grd e
      refine r_lald (f := (gB a (37 + k0))) DX3_remove_29 (e_mb hk0) rfl c29 ?_
      refine r_lconst DX3_remove_30 (v := 1) (by decide) ?_
      refine r_iload_n DX3_remove_31 (i := 2) rfl rfl ?_
      refine r_bipush DX3_remove_32 (v := 64) (by decide) ?_
      refine r_irem DX3_remove_34 (by decide) ?_
      refine r_lshl DX3_remove_35 ?_
      refine r_ldc2 DX3_remove_36 K_X3_30 ?_
      refine r_lxor DX3_remove_39 ?_
      refine r_land DX3_remove_40 ?_
      obtain ⟨c41, e⟩ := x_grd e
      refine r_last (f := (gB a (37 + k0))) DX3_remove_41 (e_mb hk0) rfl c41 (p_mb hk0) ?_
      refine r_aload_n DX3_remove_42 (i := 0) rfl rfl ?_
      refine r_dup DX3_remove_43 rfl ?_
      refine r_get (v := .int (gI a (23 + k0))) DX3_remove_44 F_X3_19 (e_ml hk0) rfl ?_
      refine r_iconst DX3_remove_47 (v := 1) (by decide) ?_
      refine r_isub DX3_remove_48 ?_
      refine r_put (ty := .int) DX3_remove_49 F_X3_19 Fp_3_2 (e_ml hk0) rfl rfl (Nat.le_of_ble_eq_true rfl) (p_ml hk0) ?_
      refine r_aload_n DX3_remove_52 (i := 0) rfl rfl ?_
      refine r_get (v := .ref (xa g (30 + k0))) DX3_remove_53 F_X3_9 (e_ml hk0) rfl ?_
      refine r_iload_n DX3_remove_56 (i := 1) rfl rfl ?_
      refine r_iconst DX3_remove_57 (v := 1) (by decide) ?_
      refine r_iadd DX3_remove_58 ?_
      refine r_aload_n DX3_remove_59 (i := 0) rfl rfl ?_
      refine r_get (v := .ref (xa g (30 + k0))) DX3_remove_60 F_X3_9 (e_ml hk0) rfl ?_
      refine r_iload_n DX3_remove_63 (i := 1) rfl rfl ?_
      refine r_aload_n DX3_remove_64 (i := 0) rfl rfl ?_
      refine r_get (v := .int (gI (sI (sB a (37 + k0) (vp_updL (gB a (37 + k0)) (Int32.toNatClampNeg (((gA a (30 + k0)) (Int32.toNatClampNeg v1)) / 64)) (((gB a (37 + k0)) (Int32.toNatClampNeg (((gA a (30 + k0)) (Int32.toNatClampNeg v1)) / 64))) &&& (((1 : Int64) <<< (((((gA a (30 + k0)) (Int32.toNatClampNeg v1)) - ((gA a (30 + k0)) (Int32.toNatClampNeg v1)) / 64 * 64) : Int32).toInt64 &&& 63)) ^^^ (-1))))) (23 + k0) ((gI a (23 + k0)) - 1)) (23 + k0))) DX3_remove_65 F_X3_19 (e_ml hk0) rfl ?_
      refine r_iload_n DX3_remove_68 (i := 1) rfl rfl ?_
      refine r_isub DX3_remove_69 ?_
      obtain ⟨c70, e⟩ := x_grd e
      refine r_copyi (f := (gA a (30 + k0))) (f1 := (gA a (30 + k0))) DX3_remove_70 C_X3_32 (e_mk hk0) (e_mk hk0) c70.1 c70.2.1 c70.2.2.1 c70.2.2.2.1 c70.2.2.2.2 (by decide) (Nat.le_of_ble_eq_true rfl) (p_mk hk0) ?_
      obtain rfl := Option.some.inj e
      exact r_vret DX3_remove_73 rfl rfl
    · replace e := x_iff c9 e
      obtain rfl := Option.some.inj e
      exact r_vret DX3_remove_12 rfl rfl

set_option maxRecDepth 100000 in
set_option maxHeartbeats 4000000 in
theorem t_X3_appendOnce {l : Launch} {g : xG} {b : xT} (k0 : Nat) (v1 : Int32) (a : xT) (hk0 : k0 < 7) {r : (Int32 × xT)} (e : f_X3_appendOnce k0 v1 a = some r) : Ev l g 1 yX3_appendOnce M_X3_appendOnce [.ref (xa g (23 + k0)), .int v1] (a, b) (some (.int r.1), (r.2, b)) := by
  unfold f_X3_appendOnce at e
  refine Ev.of 0 (L0 := [some (.ref (xa g (23 + k0))), some (.int v1)]) (by decide) rfl (Nat.le_of_ble_eq_true rfl) rfl ?_
  refine r_aload_n DX3_appendOnce_0 (i := 0) rfl rfl ?_
  refine r_iload_n DX3_appendOnce_1 (i := 1) rfl rfl ?_
  obtain ⟨q2, e2, e⟩ := x_bnd e
  refine r_callV1 (As := [.int v1]) (S := []) DX3_appendOnce_2 C_X3_23 (ci := 3) rfl rfl (e_ml hk0) (by decide) (by decide) (Nat.le_of_ble_eq_true rfl) (t_X3_holds k0 v1 a hk0 e2) rfl ?_
  refine r_if_ne DX3_appendOnce_5 (tgt := 16) (by decide) (fun c5 => ?_) (fun c5 => ?_)
  · replace e := x_iff c5 e
    refine r_iconst DX3_appendOnce_16 (v := 1) (by decide) ?_
    refine r_goto DX3_appendOnce_17 (tgt := 21) (by decide) ?_
    obtain rfl := Option.some.inj e
    exact r_zret DX3_appendOnce_21 rfl (by decide) rfl
  · replace e := x_ift c5 e
    refine r_aload_n DX3_appendOnce_8 (i := 0) rfl rfl ?_
    refine r_iload_n DX3_appendOnce_9 (i := 1) rfl rfl ?_
    obtain ⟨q10, e10, e⟩ := x_bnd e
    refine r_callV1 (As := [.int v1]) (S := []) DX3_appendOnce_10 C_X3_27 (ci := 3) rfl rfl (e_ml hk0) (by decide) (by decide) (Nat.le_of_ble_eq_true rfl) (t_X3_append k0 v1 a hk0 e10) rfl ?_
    refine r_if_eq DX3_appendOnce_13 (tgt := 20) (by decide) (fun c13 => ?_) (fun c13 => ?_)
    · replace e := x_ift c13 e
      refine r_iconst DX3_appendOnce_20 (v := 0) (by decide) ?_
      obtain rfl := Option.some.inj e
      exact r_zret DX3_appendOnce_21 rfl (by decide) rfl
    · replace e := x_iff c13 e
      refine r_iconst DX3_appendOnce_16 (v := 1) (by decide) ?_
      refine r_goto DX3_appendOnce_17 (tgt := 21) (by decide) ?_
      obtain rfl := Option.some.inj e
      exact r_zret DX3_appendOnce_21 rfl (by decide) rfl
