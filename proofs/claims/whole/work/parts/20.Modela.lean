set_option maxRecDepth 100000 in
set_option maxHeartbeats 4000000 in
theorem lp_X8_empty_L2 {l : Launch} {g : xG} {a : xT} {R : Option Value × xS}  : ∀ (n : Nat) (v1 : Int32) (b : xT) (r : (xT)), f_X8_empty_L2 n v1 b = some r → Rx l g 0 M_X8_empty 21 [some (.ref (xa g 44)), none] [] (a, r) R → Rx l g 0 M_X8_empty 2 [some (.ref (xa g 44)), some (.int v1)] [] (a, b) R := by
  intro n
  induction n with
  | zero => intro v1_ s_ r_ e; cases e
  | succ n ih =>
    intro v1 b r e K0
    rw [f_X8_empty_L2] at e
    refine r_iload_n DX8_empty_2 (i := 1) rfl rfl ?_
    refine r_bipush DX8_empty_3 (v := 6) (by decide) ?_
    refine r_icmp_ge DX8_empty_5 (tgt := 21) (by decide) (fun c5 => ?_) (fun c5 => ?_)
    · replace e := x_ift c5 e
      obtain rfl := Option.some.inj e
      refine r_mask (L' := [some (.ref (xa g 44)), none]) [true, false] rfl ?_
      exact K0
    · replace e := x_iff c5 e
      refine r_aload_n DX8_empty_8 (i := 0) rfl rfl ?_
      refine r_get (v := .ref (xa g 45)) DX8_empty_9 F_X8_16 e_44 rfl ?_
      refine r_iload_n DX8_empty_12 (i := 1) rfl rfl ?_
      refine r_iconst DX8_empty_13 (v := 0) (by decide) ?_
      obtain ⟨c14, e⟩ := x_grd e
      refine r_iast (f := (gA b 45)) DX8_empty_14 e_45 rfl c14 p_45 ?_
      refine r_iinc (L' := [some (.ref (xa g 44)), some (.int (v1 + 1))]) DX8_empty_15 (x := v1) (v := (v1 + 1)) rfl rfl (by decide) rfl rfl ?_
      refine r_goto DX8_empty_18 (tgt := 2) (by decide) ?_
      exact ih _ _ _ e K0

set_option maxRecDepth 100000 in
set_option maxHeartbeats 4000000 in
theorem lp_X8_empty_L23 {l : Launch} {g : xG} {a : xT} {R : Option Value × xS}  : ∀ (n : Nat) (v1 : Int32) (b : xT) (r : (xT)), f_X8_empty_L23 n v1 b = some r → Rx l g 0 M_X8_empty 42 [none, none] [] (a, r) R → Rx l g 0 M_X8_empty 23 [some (.ref (xa g 44)), some (.int v1)] [] (a, b) R := by
  intro n
  induction n with
  | zero => intro v1_ s_ r_ e; cases e
  | succ n ih =>
    intro v1 b r e K0
    rw [f_X8_empty_L23] at e
    refine r_iload_n DX8_empty_23 (i := 1) rfl rfl ?_
    refine r_bipush DX8_empty_24 (v := 12) (by decide) ?_
    refine r_icmp_ge DX8_empty_26 (tgt := 42) (by decide) (fun c26 => ?_) (fun c26 => ?_)
    · replace e := x_ift c26 e
      obtain rfl := Option.some.inj e
      refine r_mask (L' := [none, none]) [false, false] rfl ?_
      exact K0
    · replace e := x_iff c26 e
      refine r_aload_n DX8_empty_29 (i := 0) rfl rfl ?_
      refine r_get (v := .ref (xa g 57)) DX8_empty_30 F_X8_57 e_44 rfl ?_
      refine r_iload_n DX8_empty_33 (i := 1) rfl rfl ?_
      refine r_iconst DX8_empty_34 (v := (-1)) (by decide) ?_
      obtain ⟨c35, e⟩ := x_grd e
      refine r_iast (f := (gA b 57)) DX8_empty_35 e_57 rfl c35 p_57 ?_
      refine r_iinc (L' := [some (.ref (xa g 44)), some (.int (v1 + 1))]) DX8_empty_36 (x := v1) (v := (v1 + 1)) rfl rfl (by decide) rfl rfl ?_
      refine r_goto DX8_empty_39 (tgt := 23) (by decide) ?_
      exact ih _ _ _ e K0

set_option maxRecDepth 100000 in
set_option maxHeartbeats 4000000 in
theorem t_X8_empty {l : Launch} {g : xG} {a : xT} (N : Nat) (b : xT)  {r : xT} (e : f_X8_empty N b = some r) : Ev l g 0 yX8_empty M_X8_empty [.ref (xa g 44)] (a, b) (none, (a, r)) := by
  unfold f_X8_empty at e
  refine Ev.of 1 (L0 := [some (.ref (xa g 44)), none]) (by decide) rfl (Nat.le_of_ble_eq_true rfl) rfl ?_
  refine r_iconst DX8_empty_0 (v := 0) (by decide) ?_
  refine r_istore_n (L' := [some (.ref (xa g 44)), some (.int 0)]) DX8_empty_1 (i := 1) rfl (by decide) rfl rfl ?_
  obtain ⟨q2, e2, e⟩ := x_bnd e
  refine lp_X8_empty_L2  N 0 b q2 e2 ?_
  refine r_iconst DX8_empty_21 (v := 0) (by decide) ?_
  refine r_istore_n (L' := [some (.ref (xa g 44)), some (.int 0)]) DX8_empty_22 (i := 1) rfl (by decide) rfl rfl ?_
  obtain ⟨q23, e23, e⟩ := x_bnd e
  refine lp_X8_empty_L23  N 0 q2 q23 e23 ?_
  obtain rfl := Option.some.inj e
  exact r_vret DX8_empty_42 rfl rfl

set_option maxRecDepth 100000 in
set_option maxHeartbeats 4000000 in
theorem t_X8_at {l : Launch} {g : xG} {a : xT} (v1 : Int32) (v2 : Int32) (b : xT)  {r : Int32} (e : f_X8_at v1 v2 b = some r) : Ev l g 0 yX8_at M_X8_at [.ref (xa g 44), .int v1, .int v2] (a, b) (some (.int r), (a, b)) := by
  unfold f_X8_at at e
  refine Ev.of 0 (L0 := [some (.ref (xa g 44)), some (.int v1), some (.int v2)]) (by decide) rfl (Nat.le_of_ble_eq_true rfl) rfl ?_
  refine r_aload_n DX8_at_0 (i := 0) rfl rfl ?_
  refine r_get (v := .ref (xa g 46)) DX8_at_1 F_X8_20 e_44 rfl ?_
  refine r_bipush DX8_at_4 (v := 64) (by decide) ?_
  refine r_iload_n DX8_at_6 (i := 1) rfl rfl ?_
  refine r_imul DX8_at_7 ?_
  refine r_iload_n DX8_at_8 (i := 2) rfl rfl ?_
  refine r_iadd DX8_at_9 ?_
  obtain ⟨c10, e⟩ := x_grd e
  refine r_iald (f := (gA b 46)) DX8_at_10 e_46 rfl c10 ?_
  obtain rfl := Option.some.inj e
  exact r_iret DX8_at_11 rfl rfl

set_option maxRecDepth 100000 in
set_option maxHeartbeats 4000000 in
theorem lp_X8_has_L5 {l : Launch} {g : xG} {a : xT} {R : Option Value × xS} (v1 : Int32) (v2 : Int32) (b : xT) : ∀ (n : Nat) (v3 : Int32) (v4 : Int32) (r : (Int32)), f_X8_has_L5 v1 v2 b n v3 v4 = some r → Rx l g 1 M_X8_has 43 [none, none, none, some (.int r), none] [] (a, b) R → Rx l g 1 M_X8_has 5 [some (.ref (xa g 44)), some (.int v1), some (.int v2), some (.int v3), some (.int v4)] [] (a, b) R := by
  intro n
  induction n with
  | zero => intro v3_ v4_ r_ e; cases e
  | succ n ih =>
    intro v3 v4 r e K0
    rw [f_X8_has_L5] at e
    refine r_iload DX8_has_5 rfl ?_
    refine r_aload_n DX8_has_7 (i := 0) rfl rfl ?_
    refine r_get (v := .ref (xa g 45)) DX8_has_8 F_X8_16 e_44 rfl ?_
    refine r_iload_n DX8_has_11 (i := 1) rfl rfl ?_
    obtain ⟨c12, e⟩ := x_grd e
    refine r_iald (f := (gA b 45)) DX8_has_12 e_45 rfl c12 ?_
    refine r_icmp_ge DX8_has_13 (tgt := 43) (by decide) (fun c13 => ?_) (fun c13 => ?_)
    · replace e := x_ift c13 e
      obtain rfl := Option.some.inj e
      refine r_mask (L' := [none, none, none, some (.int v3), none]) [false, false, false, true, false] rfl ?_
      exact K0
    · replace e := x_iff c13 e
      refine r_iload_n DX8_has_16 (i := 3) rfl rfl ?_
      refine r_if_ne DX8_has_17 (tgt := 31) (by decide) (fun c17 => ?_) (fun c17 => ?_)
      · replace e := x_iff c17 e
        refine r_iconst DX8_has_31 (v := 1) (by decide) ?_
        refine r_goto DX8_has_32 (tgt := 36) (by decide) ?_
        refine r_istore_n (L' := [some (.ref (xa g 44)), some (.int v1), some (.int v2), some (.int 1), some (.int v4)]) DX8_has_36 (i := 3) rfl (by decide) rfl rfl ?_
        refine r_iinc (L' := [some (.ref (xa g 44)), some (.int v1), some (.int v2), some (.int 1), some (.int (v4 + 1))]) DX8_has_37 (x := v4) (v := (v4 + 1)) rfl rfl (by decide) rfl rfl ?_
        refine r_goto DX8_has_40 (tgt := 5) (by decide) ?_
        exact ih _ _ _ e K0
      · replace e := x_ift c17 e
        refine r_aload_n DX8_has_20 (i := 0) rfl rfl ?_
        refine r_iload_n DX8_has_21 (i := 1) rfl rfl ?_
        refine r_iload DX8_has_22 rfl ?_
        obtain ⟨q24, e24, e⟩ := x_bnd e
        refine r_callV1 (As := [.int v1, .int v4]) (S := []) DX8_has_24 C_X8_138 (ci := 8) rfl rfl e_44 (by decide) (by decide) (Nat.le_of_ble_eq_true rfl) (t_X8_at v1 v4 b e24) rfl ?_
        refine r_iload_n DX8_has_27 (i := 2) rfl rfl ?_
        refine r_icmp_ne DX8_has_28 (tgt := 35) (by decide) (fun c28 => ?_) (fun c28 => ?_)
        · replace e := x_iff c28 e
          refine r_iconst DX8_has_35 (v := 0) (by decide) ?_
          refine r_istore_n (L' := [some (.ref (xa g 44)), some (.int v1), some (.int v2), some (.int 0), some (.int v4)]) DX8_has_36 (i := 3) rfl (by decide) rfl rfl ?_
          refine r_iinc (L' := [some (.ref (xa g 44)), some (.int v1), some (.int v2), some (.int 0), some (.int (v4 + 1))]) DX8_has_37 (x := v4) (v := (v4 + 1)) rfl rfl (by decide) rfl rfl ?_
          refine r_goto DX8_has_40 (tgt := 5) (by decide) ?_
          exact ih _ _ _ e K0
        · replace e := x_ift c28 e
          refine r_iconst DX8_has_31 (v := 1) (by decide) ?_
          refine r_goto DX8_has_32 (tgt := 36) (by decide) ?_
          refine r_istore_n (L' := [some (.ref (xa g 44)), some (.int v1), some (.int v2), some (.int 1), some (.int v4)]) DX8_has_36 (i := 3) rfl (by decide) rfl rfl ?_
          refine r_iinc (L' := [some (.ref (xa g 44)), some (.int v1), some (.int v2), some (.int 1), some (.int (v4 + 1))]) DX8_has_37 (x := v4) (v := (v4 + 1)) rfl rfl (by decide) rfl rfl ?_
          refine r_goto DX8_has_40 (tgt := 5) (by decide) ?_
          exact ih _ _ _ e K0

set_option maxRecDepth 100000 in
set_option maxHeartbeats 4000000 in
theorem t_X8_has {l : Launch} {g : xG} {a : xT} (N : Nat) (v1 : Int32) (v2 : Int32) (b : xT)  {r : Int32} (e : f_X8_has N v1 v2 b = some r) : Ev l g 1 yX8_has M_X8_has [.ref (xa g 44), .int v1, .int v2] (a, b) (some (.int r), (a, b)) := by
  unfold f_X8_has at e
  refine Ev.of 2 (L0 := [some (.ref (xa g 44)), some (.int v1), some (.int v2), none, none]) (by decide) rfl (Nat.le_of_ble_eq_true rfl) rfl ?_
  refine r_iconst DX8_has_0 (v := 0) (by decide) ?_
  refine r_istore_n (L' := [some (.ref (xa g 44)), some (.int v1), some (.int v2), some (.int 0), none]) DX8_has_1 (i := 3) rfl (by decide) rfl rfl ?_
  refine r_iconst DX8_has_2 (v := 0) (by decide) ?_
  refine r_istore (L' := [some (.ref (xa g 44)), some (.int v1), some (.int v2), some (.int 0), some (.int 0)]) DX8_has_3 (by decide) rfl rfl ?_
  obtain ⟨q5, e5, e⟩ := x_bnd e
  refine lp_X8_has_L5 v1 v2 b N 0 0 q5 e5 ?_
  refine r_iload_n DX8_has_43 (i := 3) rfl rfl ?_
  obtain ⟨c44, e⟩ := x_grd e
  obtain rfl := Option.some.inj e
  exact r_zret DX8_has_44 rfl (congrArg Value.int c44) rfl

set_option maxRecDepth 100000 in
set_option maxHeartbeats 4000000 in
theorem t_X8_in {l : Launch} {g : xG} {s : xS} (v0 : Int64) (v2 : Int64) (v4 : Int64)  {r : Int32} (e : f_X8_in v0 v2 v4 = some r) : Ev l g 0 yX8_in M_X8_in [.long v0, .long v2, .long v4] s (some (.int r), s) := by
  unfold f_X8_in at e
  refine Ev.of 0 (L0 := [some (.long v0), none, some (.long v2), none, some (.long v4), none]) (by decide) rfl (Nat.le_of_ble_eq_true rfl) rfl ?_
  refine r_lload_n DX8_in_0 (i := 0) rfl rfl ?_
  refine r_lload_n DX8_in_1 (i := 2) rfl rfl ?_
  refine r_lcmp_lt DX8_in_2 DX8_in_3 (tgt := 17) (by decide) (fun c2 => ?_) (fun c2 => ?_)
  · replace e := x_ift c2 e
    refine r_iconst DX8_in_17 (v := 0) (by decide) ?_
    obtain rfl := Option.some.inj e
    exact r_zret DX8_in_18 rfl (by decide) rfl
  · replace e := x_iff c2 e
    refine r_lload_n DX8_in_6 (i := 0) rfl rfl ?_
    refine r_lload DX8_in_7 rfl ?_
    refine r_lcmp_gt DX8_in_9 DX8_in_10 (tgt := 17) (by decide) (fun c9 => ?_) (fun c9 => ?_)
    · replace e := x_ift c9 e
      refine r_iconst DX8_in_17 (v := 0) (by decide) ?_
      obtain rfl := Option.some.inj e
      exact r_zret DX8_in_18 rfl (by decide) rfl
    · replace e := x_iff c9 e
      refine r_iconst DX8_in_13 (v := 1) (by decide) ?_
      refine r_goto DX8_in_14 (tgt := 18) (by decide) ?_
      obtain rfl := Option.some.inj e
      exact r_zret DX8_in_18 rfl (by decide) rfl

set_option maxRecDepth 100000 in
set_option maxHeartbeats 4000000 in
theorem t_X8_isList {l : Launch} {g : xG} {s : xS} (v0 : Int32)  {r : Int32} (e : f_X8_isList v0 = some r) : Ev l g 1 yX8_isList M_X8_isList [.int v0] s (some (.int r), s) := by
  unfold f_X8_isList at e
  refine Ev.of 0 (L0 := [some (.int v0)]) (by decide) rfl (Nat.le_of_ble_eq_true rfl) rfl ?_
  refine r_iload_n DX8_isList_0 (i := 0) rfl rfl ?_
  refine r_i2l DX8_isList_1 ?_
  refine r_lconst DX8_isList_2 (v := 0) (by decide) ?_
  refine r_ldc2 DX8_isList_3 K_X8_74 ?_
  obtain ⟨q6, e6, e⟩ := x_bnd e
  refine r_callS1 (As := [.long (Int32.toInt64 v0), .long 0, .long 5]) (S := []) DX8_isList_6 C_X8_70 (by decide) (by decide) (Nat.le_of_ble_eq_true rfl) (t_X8_in (Int32.toInt64 v0) 0 5 e6) rfl ?_
  obtain ⟨c9, e⟩ := x_grd e
  obtain rfl := Option.some.inj e
  exact r_zret DX8_isList_9 rfl (congrArg Value.int c9) rfl

set_option maxRecDepth 100000 in
set_option maxHeartbeats 4000000 in
theorem t_X8_isMark {l : Launch} {g : xG} {a : xT} (v1 : Int32) (b : xT)  {r : Int32} (e : f_X8_isMark v1 b = some r) : Ev l g 1 yX8_isMark M_X8_isMark [.ref (xa g 44), .int v1] (a, b) (some (.int r), (a, b)) := by
  unfold f_X8_isMark at e
  refine Ev.of 0 (L0 := [some (.ref (xa g 44)), some (.int v1)]) (by decide) rfl (Nat.le_of_ble_eq_true rfl) rfl ?_
  refine r_iload_n DX8_isMark_0 (i := 1) rfl rfl ?_
  refine r_i2l DX8_isMark_1 ?_
  refine r_lconst DX8_isMark_2 (v := 0) (by decide) ?_
  refine r_iconst DX8_isMark_3 (v := 1) (by decide) ?_
  refine r_aload_n DX8_isMark_4 (i := 0) rfl rfl ?_
  refine r_get (v := .int (gI b 0)) DX8_isMark_5 F_X8_7 e_44 rfl ?_
  refine r_ishl DX8_isMark_8 ?_
  refine r_iconst DX8_isMark_9 (v := 1) (by decide) ?_
  refine r_isub DX8_isMark_10 ?_
  refine r_i2l DX8_isMark_11 ?_
  obtain ⟨q12, e12, e⟩ := x_bnd e
  refine r_callS1 (As := [.long (Int32.toInt64 v1), .long 0, .long (Int32.toInt64 (((1 : Int32) <<< ((gI b 0) &&& 31)) - 1))]) (S := []) DX8_isMark_12 C_X8_70 (by decide) (by decide) (Nat.le_of_ble_eq_true rfl) (t_X8_in (Int32.toInt64 v1) 0 (Int32.toInt64 (((1 : Int32) <<< ((gI b 0) &&& 31)) - 1)) e12) rfl ?_
  obtain ⟨c15, e⟩ := x_grd e
  obtain rfl := Option.some.inj e
  exact r_zret DX8_isMark_15 rfl (congrArg Value.int c15) rfl

set_option maxRecDepth 100000 in
set_option maxHeartbeats 4000000 in
theorem t_X8_put {l : Launch} {g : xG} {a : xT} (v1 : Int32) (v2 : Int32) (b : xT)  {r : xT} (e : f_X8_put v1 v2 b = some r) : Ev l g 0 yX8_put M_X8_put [.ref (xa g 44), .int v1, .int v2] (a, b) (none, (a, r)) := by
  unfold f_X8_put at e
  refine Ev.of 0 (L0 := [some (.ref (xa g 44)), some (.int v1), some (.int v2)]) (by decide) rfl (Nat.le_of_ble_eq_true rfl) rfl ?_
  refine r_aload_n DX8_put_0 (i := 0) rfl rfl ?_
  refine r_get (v := .ref (xa g 46)) DX8_put_1 F_X8_20 e_44 rfl ?_
  refine r_bipush DX8_put_4 (v := 64) (by decide) ?_
  refine r_iload_n DX8_put_6 (i := 1) rfl rfl ?_
  refine r_imul DX8_put_7 ?_
  refine r_aload_n DX8_put_8 (i := 0) rfl rfl ?_
  refine r_get (v := .ref (xa g 45)) DX8_put_9 F_X8_16 e_44 rfl ?_
  refine r_iload_n DX8_put_12 (i := 1) rfl rfl ?_
  obtain ⟨c13, e⟩ := x_grd e
  refine r_iald (f := (gA b 45)) DX8_put_13 e_45 rfl c13 ?_
  refine r_iadd DX8_put_14 ?_
  refine r_iload_n DX8_put_15 (i := 2) rfl rfl ?_
  obtain ⟨c16, e⟩ := x_grd e
  refine r_iast (f := (gA b 46)) DX8_put_16 e_46 rfl c16 p_46 ?_
  refine r_aload_n DX8_put_17 (i := 0) rfl rfl ?_
  refine r_get (v := .ref (xa g 45)) DX8_put_18 F_X8_16 e_44 rfl ?_
  refine r_iload_n DX8_put_21 (i := 1) rfl rfl ?_
  refine r_dup2 DX8_put_22 rfl rfl ?_
  obtain ⟨c23, e⟩ := x_grd e
  refine r_iald (f := (gA b 45)) DX8_put_23 e_45 rfl c23 ?_
  refine r_iconst DX8_put_24 (v := 1) (by decide) ?_
  refine r_iadd DX8_put_25 ?_
  obtain ⟨c26, e⟩ := x_grd e
  refine r_iast (f := (gA b 45)) DX8_put_26 e_45 rfl c26 p_45 ?_
  obtain rfl := Option.some.inj e
  exact r_vret DX8_put_27 rfl rfl

set_option maxRecDepth 100000 in
set_option maxHeartbeats 4000000 in
theorem t_X8_add {l : Launch} {g : xG} {a : xT} (N : Nat) (v1 : Int32) (v2 : Int32) (b : xT)  {r : (Int32 × xT)} (e : f_X8_add N v1 v2 b = some r) : Ev l g 2 yX8_add M_X8_add [.ref (xa g 44), .int v1, .int v2] (a, b) (some (.int r.1), (a, r.2)) := by
  unfold f_X8_add at e
  refine Ev.of 0 (L0 := [some (.ref (xa g 44)), some (.int v1), some (.int v2)]) (by decide) rfl (Nat.le_of_ble_eq_true rfl) rfl ?_
  refine r_iload_n DX8_add_0 (i := 1) rfl rfl ?_
  obtain ⟨q1, e1, e⟩ := x_bnd e
  refine r_callS1 (As := [.int v1]) (S := []) DX8_add_1 C_X8_76 (by decide) (by decide) (Nat.le_of_ble_eq_true rfl) (t_X8_isList v1 e1) rfl ?_
  refine r_if_ne DX8_add_4 (tgt := 11) (by decide) (fun c4 => ?_) (fun c4 => ?_)
  · replace e := x_iff c4 e
    refine r_aload_n DX8_add_11 (i := 0) rfl rfl ?_
    refine r_iload_n DX8_add_12 (i := 2) rfl rfl ?_
    obtain ⟨q13, e13, e⟩ := x_bnd e
    refine r_callV1 (As := [.int v2]) (S := []) DX8_add_13 C_X8_94 (ci := 8) rfl rfl e_44 (by decide) (by decide) (Nat.le_of_ble_eq_true rfl) (t_X8_isMark v2 b e13) rfl ?_
    refine r_if_ne DX8_add_16 (tgt := 23) (by decide) (fun c16 => ?_) (fun c16 => ?_)
    · replace e := x_iff c16 e
      refine r_aload_n DX8_add_23 (i := 0) rfl rfl ?_
      refine r_iload_n DX8_add_24 (i := 1) rfl rfl ?_
      refine r_iload_n DX8_add_25 (i := 2) rfl rfl ?_
      obtain ⟨q26, e26, e⟩ := x_bnd e
      refine r_callV1 (As := [.int v1, .int v2]) (S := []) DX8_add_26 C_X8_141 (ci := 8) rfl rfl e_44 (by decide) (by decide) (Nat.le_of_ble_eq_true rfl) (t_X8_has N v1 v2 b e26) rfl ?_
      refine r_if_eq DX8_add_29 (tgt := 36) (by decide) (fun c29 => ?_) (fun c29 => ?_)
      · replace e := x_ift c29 e
        refine r_aload_n DX8_add_36 (i := 0) rfl rfl ?_
        refine r_get (v := .ref (xa g 45)) DX8_add_37 F_X8_16 e_44 rfl ?_
        refine r_iload_n DX8_add_40 (i := 1) rfl rfl ?_
        obtain ⟨c41, e⟩ := x_grd e
        refine r_iald (f := (gA b 45)) DX8_add_41 e_45 rfl c41 ?_
        refine r_bipush DX8_add_42 (v := 64) (by decide) ?_
        refine r_icmp_ne DX8_add_44 (tgt := 51) (by decide) (fun c44 => ?_) (fun c44 => ?_)
        · replace e := x_iff c44 e
          refine r_aload_n DX8_add_51 (i := 0) rfl rfl ?_
          refine r_iload_n DX8_add_52 (i := 1) rfl rfl ?_
          refine r_iload_n DX8_add_53 (i := 2) rfl rfl ?_
          obtain ⟨q54, e54, e⟩ := x_bnd e
          refine r_callV0 (As := [.int v1, .int v2]) (S := []) DX8_add_54 C_X8_144 (ci := 8) rfl rfl e_44 (by decide) (by decide) (Nat.le_of_ble_eq_true rfl) (t_X8_put v1 v2 b e54) rfl ?_
          refine r_aload_n DX8_add_57 (i := 0) rfl rfl ?_
          refine r_get (v := .ref (xa g 45)) DX8_add_58 F_X8_16 e_44 rfl ?_
          refine r_iload_n DX8_add_61 (i := 1) rfl rfl ?_
          obtain ⟨c62, e⟩ := x_grd e
          refine r_iald (f := (gA q54 45)) DX8_add_62 e_45 rfl c62 ?_
          obtain rfl := Option.some.inj e
          exact r_iret DX8_add_63 rfl rfl
        · replace e := x_ift c44 e
          refine r_sipush DX8_add_47 (v := (-1004)) (by decide) ?_
          obtain rfl := Option.some.inj e
          exact r_iret DX8_add_50 rfl rfl
      · replace e := x_iff c29 e
        refine r_sipush DX8_add_32 (v := (-1003)) (by decide) ?_
        obtain rfl := Option.some.inj e
        exact r_iret DX8_add_35 rfl rfl
    · replace e := x_ift c16 e
      refine r_sipush DX8_add_19 (v := (-1002)) (by decide) ?_
      obtain rfl := Option.some.inj e
      exact r_iret DX8_add_22 rfl rfl
  · replace e := x_ift c4 e
    refine r_sipush DX8_add_7 (v := (-1001)) (by decide) ?_
    obtain rfl := Option.some.inj e
    exact r_iret DX8_add_10 rfl rfl

set_option maxRecDepth 100000 in
set_option maxHeartbeats 4000000 in
theorem lp_X8_all_L4 {l : Launch} {g : xG} {a : xT} {R : Option Value × xS} (v1 : Int32) (b : xT) : ∀ (n : Nat) (v2 : Int32) (v3 : Int32) (r : (Int32)), f_X8_all_L4 v1 b n v2 v3 = some r → Rx l g 1 M_X8_all 32 [none, none, some (.int r), none] [] (a, b) R → Rx l g 1 M_X8_all 4 [some (.ref (xa g 44)), some (.int v1), some (.int v2), some (.int v3)] [] (a, b) R := by
  intro n
  induction n with
  | zero => intro v2_ v3_ r_ e; cases e
  | succ n ih =>
    intro v2 v3 r e K0
    rw [f_X8_all_L4] at e
    refine r_iload_n DX8_all_4 (i := 3) rfl rfl ?_
    refine r_aload_n DX8_all_5 (i := 0) rfl rfl ?_
    refine r_get (v := .int (gI b 31)) DX8_all_6 F_X8_283 e_44 rfl ?_
    refine r_icmp_ge DX8_all_9 (tgt := 32) (by decide) (fun c9 => ?_) (fun c9 => ?_)
    · replace e := x_ift c9 e
      obtain rfl := Option.some.inj e
      refine r_mask (L' := [none, none, some (.int v2), none]) [false, false, true, false] rfl ?_
      exact K0
    · replace e := x_iff c9 e
      refine r_iload_n DX8_all_12 (i := 2) rfl rfl ?_
      refine r_aload_n DX8_all_13 (i := 0) rfl rfl ?_
      refine r_iload_n DX8_all_14 (i := 1) rfl rfl ?_
      refine r_aload_n DX8_all_15 (i := 0) rfl rfl ?_
      refine r_get (v := .ref (xa g 59)) DX8_all_16 F_X8_64 e_44 rfl ?_
      refine r_iload_n DX8_all_19 (i := 3) rfl rfl ?_
      obtain ⟨c20, e⟩ := x_grd e
      refine r_iald (f := (gA b 59)) DX8_all_20 e_59 rfl c20 ?_
      obtain ⟨q21, e21, e⟩ := x_bnd e
      refine r_callV1 (As := [.int v1, .int ((gA b 59) (Int32.toNatClampNeg v3))]) (S := [.int v2]) DX8_all_21 C_X8_138 (ci := 8) rfl rfl e_44 (by decide) (by decide) (Nat.le_of_ble_eq_true rfl) (t_X8_at v1 ((gA b 59) (Int32.toNatClampNeg v3)) b e21) rfl ?_
      refine r_ior DX8_all_24 ?_
      refine r_istore_n (L' := [some (.ref (xa g 44)), some (.int v1), some (.int (v2 ||| q21)), some (.int v3)]) DX8_all_25 (i := 2) rfl (by decide) rfl rfl ?_
      refine r_iinc (L' := [some (.ref (xa g 44)), some (.int v1), some (.int (v2 ||| q21)), some (.int (v3 + 1))]) DX8_all_26 (x := v3) (v := (v3 + 1)) rfl rfl (by decide) rfl rfl ?_
      refine r_goto DX8_all_29 (tgt := 4) (by decide) ?_
      exact ih _ _ _ e K0

set_option maxRecDepth 100000 in
set_option maxHeartbeats 4000000 in
theorem t_X8_all {l : Launch} {g : xG} {a : xT} (N : Nat) (v1 : Int32) (b : xT)  {r : Int32} (e : f_X8_all N v1 b = some r) : Ev l g 1 yX8_all M_X8_all [.ref (xa g 44), .int v1] (a, b) (some (.int r), (a, b)) := by
  unfold f_X8_all at e
  refine Ev.of 2 (L0 := [some (.ref (xa g 44)), some (.int v1), none, none]) (by decide) rfl (Nat.le_of_ble_eq_true rfl) rfl ?_
  refine r_iconst DX8_all_0 (v := 0) (by decide) ?_
  refine r_istore_n (L' := [some (.ref (xa g 44)), some (.int v1), some (.int 0), none]) DX8_all_1 (i := 2) rfl (by decide) rfl rfl ?_
  refine r_iconst DX8_all_2 (v := 0) (by decide) ?_
  refine r_istore_n (L' := [some (.ref (xa g 44)), some (.int v1), some (.int 0), some (.int 0)]) DX8_all_3 (i := 3) rfl (by decide) rfl rfl ?_
  obtain ⟨q4, e4, e⟩ := x_bnd e
  refine lp_X8_all_L4 v1 b N 0 0 q4 e4 ?_
  refine r_iload_n DX8_all_32 (i := 2) rfl rfl ?_
  obtain rfl := Option.some.inj e
  exact r_iret DX8_all_33 rfl rfl

set_option maxRecDepth 100000 in
set_option maxHeartbeats 4000000 in
theorem lp_X8_bits_L4 {l : Launch} {g : xG} {s : xS} {R : Option Value × xS} (v0 : Int32) : ∀ (n : Nat) (v1 : Int32) (v2 : Int32) (r : (Int32)), f_X8_bits_L4 v0 n v1 v2 = some r → Rx l g 0 M_X8_bits 24 [none, some (.int r), none] [] s R → Rx l g 0 M_X8_bits 4 [some (.int v0), some (.int v1), some (.int v2)] [] s R := by
  intro n
  induction n with
  | zero => intro v1_ v2_ r_ e; cases e
  | succ n ih =>
    intro v1 v2 r e K0
    rw [f_X8_bits_L4] at e
    refine r_iload_n DX8_bits_4 (i := 2) rfl rfl ?_
    refine r_bipush DX8_bits_5 (v := 12) (by decide) ?_
    refine r_icmp_ge DX8_bits_7 (tgt := 24) (by decide) (fun c7 => ?_) (fun c7 => ?_)
    · replace e := x_ift c7 e
      obtain rfl := Option.some.inj e
      refine r_mask (L' := [none, some (.int v1), none]) [false, true, false] rfl ?_
      exact K0
    · replace e := x_iff c7 e
      refine r_iload_n DX8_bits_10 (i := 1) rfl rfl ?_
      refine r_iload_n DX8_bits_11 (i := 0) rfl rfl ?_
      refine r_iload_n DX8_bits_12 (i := 2) rfl rfl ?_
      refine r_ishr DX8_bits_13 ?_
      refine r_iconst DX8_bits_14 (v := 1) (by decide) ?_
      refine r_iand DX8_bits_15 ?_
      refine r_iadd DX8_bits_16 ?_
      refine r_istore_n (L' := [some (.int v0), some (.int (v1 + ((v0 >>> (v2 &&& 31)) &&& 1))), some (.int v2)]) DX8_bits_17 (i := 1) rfl (by decide) rfl rfl ?_
      refine r_iinc (L' := [some (.int v0), some (.int (v1 + ((v0 >>> (v2 &&& 31)) &&& 1))), some (.int (v2 + 1))]) DX8_bits_18 (x := v2) (v := (v2 + 1)) rfl rfl (by decide) rfl rfl ?_
      refine r_goto DX8_bits_21 (tgt := 4) (by decide) ?_
      exact ih _ _ _ e K0

set_option maxRecDepth 100000 in
set_option maxHeartbeats 4000000 in
theorem t_X8_bits {l : Launch} {g : xG} {s : xS} (N : Nat) (v0 : Int32)  {r : Int32} (e : f_X8_bits N v0 = some r) : Ev l g 0 yX8_bits M_X8_bits [.int v0] s (some (.int r), s) := by
  unfold f_X8_bits at e
  refine Ev.of 2 (L0 := [some (.int v0), none, none]) (by decide) rfl (Nat.le_of_ble_eq_true rfl) rfl ?_
  refine r_iconst DX8_bits_0 (v := 0) (by decide) ?_
  refine r_istore_n (L' := [some (.int v0), some (.int 0), none]) DX8_bits_1 (i := 1) rfl (by decide) rfl rfl ?_
  refine r_iconst DX8_bits_2 (v := 0) (by decide) ?_
  refine r_istore_n (L' := [some (.int v0), some (.int 0), some (.int 0)]) DX8_bits_3 (i := 2) rfl (by decide) rfl rfl ?_
  obtain ⟨q4, e4, e⟩ := x_bnd e
  refine lp_X8_bits_L4 v0 N 0 0 q4 e4 ?_
  refine r_iload_n DX8_bits_24 (i := 1) rfl rfl ?_
  obtain rfl := Option.some.inj e
  exact r_iret DX8_bits_25 rfl rfl

set_option maxRecDepth 100000 in
set_option maxHeartbeats 4000000 in
theorem t_X8_meet {l : Launch} {g : xG} {a : xT} (N : Nat) (v1 : Int32) (v2 : Int32) (b : xT)  {r : Int32} (e : f_X8_meet N v1 v2 b = some r) : Ev l g 1 yX8_meet M_X8_meet [.ref (xa g 44), .int v1, .int v2] (a, b) (some (.int r), (a, b)) := by
  unfold f_X8_meet at e
  refine Ev.of 1 (L0 := [some (.ref (xa g 44)), some (.int v1), some (.int v2), none]) (by decide) rfl (Nat.le_of_ble_eq_true rfl) rfl ?_
  refine r_aload_n DX8_meet_0 (i := 0) rfl rfl ?_
  refine r_get (v := .int (gI b 2)) DX8_meet_1 F_X8_13 e_44 rfl ?_
  refine r_aload_n DX8_meet_4 (i := 0) rfl rfl ?_
  refine r_get (v := .int (gI b 1)) DX8_meet_5 F_X8_88 e_44 rfl ?_
  refine r_iconst DX8_meet_8 (v := 2) (by decide) ?_
  refine r_icmp_ge DX8_meet_9 (tgt := 16) (by decide) (fun c9 => ?_) (fun c9 => ?_)
  · replace e := x_ift c9 e
    refine r_aload_n DX8_meet_16 (i := 0) rfl rfl ?_
    refine r_get (v := .int (gI b 3)) DX8_meet_17 F_X8_91 e_44 rfl ?_
    refine r_iadd DX8_meet_20 ?_
    refine r_istore_n (L' := [some (.ref (xa g 44)), some (.int v1), some (.int v2), some (.int ((gI b 2) + (gI b 3)))]) DX8_meet_21 (i := 3) rfl (by decide) rfl rfl ?_
    refine r_iload_n DX8_meet_22 (i := 1) rfl rfl ?_
    refine r_iload_n DX8_meet_23 (i := 2) rfl rfl ?_
    refine r_iconst DX8_meet_24 (v := (-1)) (by decide) ?_
    refine r_ixor DX8_meet_25 ?_
    refine r_iand DX8_meet_26 ?_
    obtain ⟨q27, e27, e⟩ := x_bnd e
    refine r_callS1 (As := [.int (v1 &&& (v2 ^^^ (-1)))]) (S := []) DX8_meet_27 C_X8_101 (by decide) (by decide) (Nat.le_of_ble_eq_true rfl) (t_X8_bits N (v1 &&& (v2 ^^^ (-1))) e27) rfl ?_
    refine r_iload_n DX8_meet_30 (i := 3) rfl rfl ?_
    refine r_icmp_gt DX8_meet_31 (tgt := 50) (by decide) (fun c31 => ?_) (fun c31 => ?_)
    · replace e := x_ift c31 e
      refine r_iconst DX8_meet_50 (v := 0) (by decide) ?_
      obtain rfl := Option.some.inj e
      exact r_zret DX8_meet_51 rfl (by decide) rfl
    · replace e := x_iff c31 e
      refine r_iload_n DX8_meet_34 (i := 2) rfl rfl ?_
      refine r_iload_n DX8_meet_35 (i := 1) rfl rfl ?_
      refine r_iconst DX8_meet_36 (v := (-1)) (by decide) ?_
      refine r_ixor DX8_meet_37 ?_
      refine r_iand DX8_meet_38 ?_
      obtain ⟨q39, e39, e⟩ := x_bnd e
      refine r_callS1 (As := [.int (v2 &&& (v1 ^^^ (-1)))]) (S := []) DX8_meet_39 C_X8_101 (by decide) (by decide) (Nat.le_of_ble_eq_true rfl) (t_X8_bits N (v2 &&& (v1 ^^^ (-1))) e39) rfl ?_
      refine r_iload_n DX8_meet_42 (i := 3) rfl rfl ?_
      refine r_icmp_gt DX8_meet_43 (tgt := 50) (by decide) (fun c43 => ?_) (fun c43 => ?_)
      · replace e := x_ift c43 e
        refine r_iconst DX8_meet_50 (v := 0) (by decide) ?_
        obtain rfl := Option.some.inj e
        exact r_zret DX8_meet_51 rfl (by decide) rfl
      · replace e := x_iff c43 e
        refine r_iconst DX8_meet_46 (v := 1) (by decide) ?_
        refine r_goto DX8_meet_47 (tgt := 51) (by decide) ?_
        obtain rfl := Option.some.inj e
        exact r_zret DX8_meet_51 rfl (by decide) rfl
  · replace e := x_iff c9 e
    refine r_iconst DX8_meet_12 (v := 0) (by decide) ?_
    refine r_goto DX8_meet_13 (tgt := 20) (by decide) ?_
    refine r_iadd DX8_meet_20 ?_
    refine r_istore_n (L' := [some (.ref (xa g 44)), some (.int v1), some (.int v2), some (.int ((gI b 2) + 0))]) DX8_meet_21 (i := 3) rfl (by decide) rfl rfl ?_
    refine r_iload_n DX8_meet_22 (i := 1) rfl rfl ?_
    refine r_iload_n DX8_meet_23 (i := 2) rfl rfl ?_
    refine r_iconst DX8_meet_24 (v := (-1)) (by decide) ?_
    refine r_ixor DX8_meet_25 ?_
    refine r_iand DX8_meet_26 ?_
    obtain ⟨q27, e27, e⟩ := x_bnd e
    refine r_callS1 (As := [.int (v1 &&& (v2 ^^^ (-1)))]) (S := []) DX8_meet_27 C_X8_101 (by decide) (by decide) (Nat.le_of_ble_eq_true rfl) (t_X8_bits N (v1 &&& (v2 ^^^ (-1))) e27) rfl ?_
    refine r_iload_n DX8_meet_30 (i := 3) rfl rfl ?_
    refine r_icmp_gt DX8_meet_31 (tgt := 50) (by decide) (fun c31 => ?_) (fun c31 => ?_)
    · replace e := x_ift c31 e
      refine r_iconst DX8_meet_50 (v := 0) (by decide) ?_
      obtain rfl := Option.some.inj e
      exact r_zret DX8_meet_51 rfl (by decide) rfl
    · replace e := x_iff c31 e
      refine r_iload_n DX8_meet_34 (i := 2) rfl rfl ?_
      refine r_iload_n DX8_meet_35 (i := 1) rfl rfl ?_
      refine r_iconst DX8_meet_36 (v := (-1)) (by decide) ?_
      refine r_ixor DX8_meet_37 ?_
      refine r_iand DX8_meet_38 ?_
      obtain ⟨q39, e39, e⟩ := x_bnd e
      refine r_callS1 (As := [.int (v2 &&& (v1 ^^^ (-1)))]) (S := []) DX8_meet_39 C_X8_101 (by decide) (by decide) (Nat.le_of_ble_eq_true rfl) (t_X8_bits N (v2 &&& (v1 ^^^ (-1))) e39) rfl ?_
      refine r_iload_n DX8_meet_42 (i := 3) rfl rfl ?_
      refine r_icmp_gt DX8_meet_43 (tgt := 50) (by decide) (fun c43 => ?_) (fun c43 => ?_)
      · replace e := x_ift c43 e
        refine r_iconst DX8_meet_50 (v := 0) (by decide) ?_
        obtain rfl := Option.some.inj e
        exact r_zret DX8_meet_51 rfl (by decide) rfl
      · replace e := x_iff c43 e
        refine r_iconst DX8_meet_46 (v := 1) (by decide) ?_
        refine r_goto DX8_meet_47 (tgt := 51) (by decide) ?_
        obtain rfl := Option.some.inj e
        exact r_zret DX8_meet_51 rfl (by decide) rfl

set_option maxRecDepth 100000 in
set_option maxHeartbeats 4000000 in
theorem lp_X8_turnedOf_L4 {l : Launch} {g : xG} {a : xT} {R : Option Value × xS} (v1 : Int32) (b : xT) : ∀ (n : Nat) (v2 : Int32) (v3 : Int32) (r : (Int32)), f_X8_turnedOf_L4 v1 b n v2 v3 = some r → Rx l g 0 M_X8_turnedOf 35 [none, none, some (.int r), none] [] (a, b) R → Rx l g 0 M_X8_turnedOf 4 [some (.ref (xa g 44)), some (.int v1), some (.int v2), some (.int v3)] [] (a, b) R := by
  intro n
  induction n with
  | zero => intro v2_ v3_ r_ e; cases e
  | succ n ih =>
    intro v2 v3 r e K0
    rw [f_X8_turnedOf_L4] at e
    refine r_iload_n DX8_turnedOf_4 (i := 3) rfl rfl ?_
    refine r_aload_n DX8_turnedOf_5 (i := 0) rfl rfl ?_
    refine r_get (v := .int (gI b 0)) DX8_turnedOf_6 F_X8_7 e_44 rfl ?_
    refine r_icmp_ge DX8_turnedOf_9 (tgt := 35) (by decide) (fun c9 => ?_) (fun c9 => ?_)
    · replace e := x_ift c9 e
      obtain rfl := Option.some.inj e
      refine r_mask (L' := [none, none, some (.int v2), none]) [false, false, true, false] rfl ?_
      exact K0
    · replace e := x_iff c9 e
      refine r_iload_n DX8_turnedOf_12 (i := 2) rfl rfl ?_
      refine r_iload_n DX8_turnedOf_13 (i := 1) rfl rfl ?_
      refine r_iload_n DX8_turnedOf_14 (i := 3) rfl rfl ?_
      refine r_ishr DX8_turnedOf_15 ?_
      refine r_iconst DX8_turnedOf_16 (v := 1) (by decide) ?_
      refine r_iand DX8_turnedOf_17 ?_
      refine r_aload_n DX8_turnedOf_18 (i := 0) rfl rfl ?_
      refine r_get (v := .int (gI b 0)) DX8_turnedOf_19 F_X8_7 e_44 rfl ?_
      refine r_iconst DX8_turnedOf_22 (v := 1) (by decide) ?_
      refine r_isub DX8_turnedOf_23 ?_
      refine r_iload_n DX8_turnedOf_24 (i := 3) rfl rfl ?_
      refine r_isub DX8_turnedOf_25 ?_
      refine r_ishl DX8_turnedOf_26 ?_
      refine r_ior DX8_turnedOf_27 ?_
      obtain ⟨w28, e28, e⟩ := x_bnd e
      refine r_istore_nB (L' := [some (.ref (xa g 44)), some (.int v1), some (.int w28), some (.int v3)]) (w := w28) DX8_turnedOf_28 (Option.some.inj e28) (i := 2) rfl (by decide) rfl rfl ?_
      refine r_iinc (L' := [some (.ref (xa g 44)), some (.int v1), some (.int w28), some (.int (v3 + 1))]) DX8_turnedOf_29 (x := v3) (v := (v3 + 1)) rfl rfl (by decide) rfl rfl ?_
      refine r_goto DX8_turnedOf_32 (tgt := 4) (by decide) ?_
      exact ih _ _ _ e K0

set_option maxRecDepth 100000 in
set_option maxHeartbeats 4000000 in
theorem t_X8_turnedOf {l : Launch} {g : xG} {a : xT} (N : Nat) (v1 : Int32) (b : xT)  {r : Int32} (e : f_X8_turnedOf N v1 b = some r) : Ev l g 0 yX8_turnedOf M_X8_turnedOf [.ref (xa g 44), .int v1] (a, b) (some (.int r), (a, b)) := by
  unfold f_X8_turnedOf at e
  refine Ev.of 2 (L0 := [some (.ref (xa g 44)), some (.int v1), none, none]) (by decide) rfl (Nat.le_of_ble_eq_true rfl) rfl ?_
  refine r_iconst DX8_turnedOf_0 (v := 0) (by decide) ?_
  refine r_istore_n (L' := [some (.ref (xa g 44)), some (.int v1), some (.int 0), none]) DX8_turnedOf_1 (i := 2) rfl (by decide) rfl rfl ?_
  refine r_iconst DX8_turnedOf_2 (v := 0) (by decide) ?_
  refine r_istore_n (L' := [some (.ref (xa g 44)), some (.int v1), some (.int 0), some (.int 0)]) DX8_turnedOf_3 (i := 3) rfl (by decide) rfl rfl ?_
  obtain ⟨q4, e4, e⟩ := x_bnd e
  refine lp_X8_turnedOf_L4 v1 b N 0 0 q4 e4 ?_
  refine r_iload_n DX8_turnedOf_35 (i := 2) rfl rfl ?_
  obtain rfl := Option.some.inj e
  exact r_iret DX8_turnedOf_36 rfl rfl

set_option maxRecDepth 100000 in
set_option maxHeartbeats 4000000 in
theorem t_X8_areAlike {l : Launch} {g : xG} {a : xT} (N : Nat) (v1 : Int32) (v2 : Int32) (b : xT)  {r : Int32} (e : f_X8_areAlike N v1 v2 b = some r) : Ev l g 2 yX8_areAlike M_X8_areAlike [.ref (xa g 44), .int v1, .int v2] (a, b) (some (.int r), (a, b)) := by
  unfold f_X8_areAlike at e
  refine Ev.of 0 (L0 := [some (.ref (xa g 44)), some (.int v1), some (.int v2)]) (by decide) rfl (Nat.le_of_ble_eq_true rfl) rfl ?_
  refine r_aload_n DX8_areAlike_0 (i := 0) rfl rfl ?_
  refine r_get (v := .int (gI b 1)) DX8_areAlike_1 F_X8_88 e_44 rfl ?_
  refine r_if_ne DX8_areAlike_4 (tgt := 26) (by decide) (fun c4 => ?_) (fun c4 => ?_)
  · replace e := x_iff c4 e
    refine r_aload_n DX8_areAlike_26 (i := 0) rfl rfl ?_
    refine r_iload_n DX8_areAlike_27 (i := 1) rfl rfl ?_
    refine r_iload_n DX8_areAlike_28 (i := 2) rfl rfl ?_
    obtain ⟨q29, e29, e⟩ := x_bnd e
    refine r_callV1 (As := [.int v1, .int v2]) (S := []) DX8_areAlike_29 C_X8_115 (ci := 8) rfl rfl e_44 (by decide) (by decide) (Nat.le_of_ble_eq_true rfl) (t_X8_meet N v1 v2 b e29) rfl ?_
    refine r_if_ne DX8_areAlike_32 (tgt := 86) (by decide) (fun c32 => ?_) (fun c32 => ?_)
    · replace e := x_iff c32 e
      refine r_iconst DX8_areAlike_86 (v := 1) (by decide) ?_
      refine r_goto DX8_areAlike_87 (tgt := 91) (by decide) ?_
      obtain rfl := Option.some.inj e
      exact r_zret DX8_areAlike_91 rfl (by decide) rfl
    · replace e := x_ift c32 e
      refine r_aload_n DX8_areAlike_35 (i := 0) rfl rfl ?_
      refine r_get (v := .int (gI b 1)) DX8_areAlike_36 F_X8_88 e_44 rfl ?_
      refine r_iconst DX8_areAlike_39 (v := 3) (by decide) ?_
      refine r_icmp_ne DX8_areAlike_40 (tgt := 90) (by decide) (fun c40 => ?_) (fun c40 => ?_)
      · replace e := x_iff c40 e
        refine r_iconst DX8_areAlike_90 (v := 0) (by decide) ?_
        obtain rfl := Option.some.inj e
        exact r_zret DX8_areAlike_91 rfl (by decide) rfl
      · replace e := x_ift c40 e
        refine r_aload_n DX8_areAlike_43 (i := 0) rfl rfl ?_
        refine r_aload_n DX8_areAlike_44 (i := 0) rfl rfl ?_
        refine r_iload_n DX8_areAlike_45 (i := 1) rfl rfl ?_
        obtain ⟨q46, e46, e⟩ := x_bnd e
        refine r_callV1 (As := [.int v1]) (S := [.ref (xa g 44)]) DX8_areAlike_46 C_X8_97 (ci := 8) rfl rfl e_44 (by decide) (by decide) (Nat.le_of_ble_eq_true rfl) (t_X8_turnedOf N v1 b e46) rfl ?_
        refine r_iload_n DX8_areAlike_49 (i := 2) rfl rfl ?_
        obtain ⟨q50, e50, e⟩ := x_bnd e
        refine r_callV1 (As := [.int q46, .int v2]) (S := []) DX8_areAlike_50 C_X8_115 (ci := 8) rfl rfl e_44 (by decide) (by decide) (Nat.le_of_ble_eq_true rfl) (t_X8_meet N q46 v2 b e50) rfl ?_
        refine r_if_ne DX8_areAlike_53 (tgt := 86) (by decide) (fun c53 => ?_) (fun c53 => ?_)
        · replace e := x_iff c53 e
          refine r_iconst DX8_areAlike_86 (v := 1) (by decide) ?_
          refine r_goto DX8_areAlike_87 (tgt := 91) (by decide) ?_
          obtain rfl := Option.some.inj e
          exact r_zret DX8_areAlike_91 rfl (by decide) rfl
        · replace e := x_ift c53 e
          refine r_aload_n DX8_areAlike_56 (i := 0) rfl rfl ?_
          refine r_iload_n DX8_areAlike_57 (i := 1) rfl rfl ?_
          refine r_aload_n DX8_areAlike_58 (i := 0) rfl rfl ?_
          refine r_iload_n DX8_areAlike_59 (i := 2) rfl rfl ?_
          obtain ⟨q60, e60, e⟩ := x_bnd e
          refine r_callV1 (As := [.int v2]) (S := [.int v1, .ref (xa g 44)]) DX8_areAlike_60 C_X8_97 (ci := 8) rfl rfl e_44 (by decide) (by decide) (Nat.le_of_ble_eq_true rfl) (t_X8_turnedOf N v2 b e60) rfl ?_
          obtain ⟨q63, e63, e⟩ := x_bnd e
          refine r_callV1 (As := [.int v1, .int q60]) (S := []) DX8_areAlike_63 C_X8_115 (ci := 8) rfl rfl e_44 (by decide) (by decide) (Nat.le_of_ble_eq_true rfl) (t_X8_meet N v1 q60 b e63) rfl ?_
          refine r_if_ne DX8_areAlike_66 (tgt := 86) (by decide) (fun c66 => ?_) (fun c66 => ?_)
          · replace e := x_iff c66 e
            refine r_iconst DX8_areAlike_86 (v := 1) (by decide) ?_
            refine r_goto DX8_areAlike_87 (tgt := 91) (by decide) ?_
            obtain rfl := Option.some.inj e
            exact r_zret DX8_areAlike_91 rfl (by decide) rfl
          · replace e := x_ift c66 e
            refine r_aload_n DX8_areAlike_69 (i := 0) rfl rfl ?_
            refine r_aload_n DX8_areAlike_70 (i := 0) rfl rfl ?_
            refine r_iload_n DX8_areAlike_71 (i := 1) rfl rfl ?_
            obtain ⟨q72, e72, e⟩ := x_bnd e
            refine r_callV1 (As := [.int v1]) (S := [.ref (xa g 44)]) DX8_areAlike_72 C_X8_97 (ci := 8) rfl rfl e_44 (by decide) (by decide) (Nat.le_of_ble_eq_true rfl) (t_X8_turnedOf N v1 b e72) rfl ?_
            refine r_aload_n DX8_areAlike_75 (i := 0) rfl rfl ?_
            refine r_iload_n DX8_areAlike_76 (i := 2) rfl rfl ?_
            obtain ⟨q77, e77, e⟩ := x_bnd e
            refine r_callV1 (As := [.int v2]) (S := [.int q72, .ref (xa g 44)]) DX8_areAlike_77 C_X8_97 (ci := 8) rfl rfl e_44 (by decide) (by decide) (Nat.le_of_ble_eq_true rfl) (t_X8_turnedOf N v2 b e77) rfl ?_
            obtain ⟨q80, e80, e⟩ := x_bnd e
            refine r_callV1 (As := [.int q72, .int q77]) (S := []) DX8_areAlike_80 C_X8_115 (ci := 8) rfl rfl e_44 (by decide) (by decide) (Nat.le_of_ble_eq_true rfl) (t_X8_meet N q72 q77 b e80) rfl ?_
            refine r_if_eq DX8_areAlike_83 (tgt := 90) (by decide) (fun c83 => ?_) (fun c83 => ?_)
            · replace e := x_ift c83 e
              refine r_iconst DX8_areAlike_90 (v := 0) (by decide) ?_
              obtain rfl := Option.some.inj e
              exact r_zret DX8_areAlike_91 rfl (by decide) rfl
            · replace e := x_iff c83 e
              refine r_iconst DX8_areAlike_86 (v := 1) (by decide) ?_
              refine r_goto DX8_areAlike_87 (tgt := 91) (by decide) ?_
              obtain rfl := Option.some.inj e
              exact r_zret DX8_areAlike_91 rfl (by decide) rfl
  · replace e := x_ift c4 e
    refine r_iload_n DX8_areAlike_7 (i := 1) rfl rfl ?_
    refine r_iload_n DX8_areAlike_8 (i := 2) rfl rfl ?_
    refine r_ixor DX8_areAlike_9 ?_
    obtain ⟨q10, e10, e⟩ := x_bnd e
    refine r_callS1 (As := [.int (v1 ^^^ v2)]) (S := []) DX8_areAlike_10 C_X8_101 (by decide) (by decide) (Nat.le_of_ble_eq_true rfl) (t_X8_bits N (v1 ^^^ v2) e10) rfl ?_
    refine r_aload_n DX8_areAlike_13 (i := 0) rfl rfl ?_
    refine r_get (v := .int (gI b 2)) DX8_areAlike_14 F_X8_13 e_44 rfl ?_
    refine r_icmp_gt DX8_areAlike_17 (tgt := 24) (by decide) (fun c17 => ?_) (fun c17 => ?_)
    · replace e := x_ift c17 e
      refine r_iconst DX8_areAlike_24 (v := 0) (by decide) ?_
      obtain rfl := Option.some.inj e
      exact r_zret DX8_areAlike_25 rfl (by decide) rfl
    · replace e := x_iff c17 e
      refine r_iconst DX8_areAlike_20 (v := 1) (by decide) ?_
      refine r_goto DX8_areAlike_21 (tgt := 25) (by decide) ?_
      obtain rfl := Option.some.inj e
      exact r_zret DX8_areAlike_25 rfl (by decide) rfl

set_option maxRecDepth 100000 in
set_option maxHeartbeats 4000000 in
theorem t_X8_begin {l : Launch} {g : xG} {a : xT} (b : xT)  {r : xT} (e : f_X8_begin b = some r) : Ev l g 0 yX8_begin M_X8_begin [.ref (xa g 44)] (a, b) (none, (a, r)) := by
  unfold f_X8_begin at e
  refine Ev.of 0 (L0 := [some (.ref (xa g 44))]) (by decide) rfl (Nat.le_of_ble_eq_true rfl) rfl ?_
  refine r_aload_n DX8_begin_0 (i := 0) rfl rfl ?_
  refine r_iconst DX8_begin_1 (v := 1) (by decide) ?_
  refine r_put (ty := .int) DX8_begin_2 F_X8_283 Fp_8_31 e_44 rfl rfl (Nat.le_of_ble_eq_true rfl) p_44_31 ?_
  refine r_aload_n DX8_begin_5 (i := 0) rfl rfl ?_
  refine r_get (v := .ref (xa g 59)) DX8_begin_6 F_X8_64 e_44 rfl ?_
  refine r_iconst DX8_begin_9 (v := 0) (by decide) ?_
  refine r_iconst DX8_begin_10 (v := (-1)) (by decide) ?_
  obtain ⟨c11, e⟩ := x_grd e
  refine r_iast (f := (gA b 59)) DX8_begin_11 e_59 rfl c11 p_59 ?_
  obtain rfl := Option.some.inj e
  exact r_vret DX8_begin_12 rfl rfl

set_option maxRecDepth 100000 in
set_option maxHeartbeats 4000000 in
theorem t_X8_isNear {l : Launch} {g : xG} {a : xT} (N : Nat) (v1 : Int32) (v2 : Int32) (b : xT)  {r : Int32} (e : f_X8_isNear N v1 v2 b = some r) : Ev l g 1 yX8_isNear M_X8_isNear [.ref (xa g 44), .int v1, .int v2] (a, b) (some (.int r), (a, b)) := by
  unfold f_X8_isNear at e
  refine Ev.of 0 (L0 := [some (.ref (xa g 44)), some (.int v1), some (.int v2)]) (by decide) rfl (Nat.le_of_ble_eq_true rfl) rfl ?_
  refine r_iload_n DX8_isNear_0 (i := 1) rfl rfl ?_
  refine r_iload_n DX8_isNear_1 (i := 2) rfl rfl ?_
  refine r_iconst DX8_isNear_2 (v := (-1)) (by decide) ?_
  refine r_ixor DX8_isNear_3 ?_
  refine r_iand DX8_isNear_4 ?_
  obtain ⟨q5, e5, e⟩ := x_bnd e
  refine r_callS1 (As := [.int (v1 &&& (v2 ^^^ (-1)))]) (S := []) DX8_isNear_5 C_X8_101 (by decide) (by decide) (Nat.le_of_ble_eq_true rfl) (t_X8_bits N (v1 &&& (v2 ^^^ (-1))) e5) rfl ?_
  refine r_aload_n DX8_isNear_8 (i := 0) rfl rfl ?_
  refine r_get (v := .int (gI b 2)) DX8_isNear_9 F_X8_13 e_44 rfl ?_
  refine r_icmp_gt DX8_isNear_12 (tgt := 46) (by decide) (fun c12 => ?_) (fun c12 => ?_)
  · replace e := x_ift c12 e
    refine r_iconst DX8_isNear_46 (v := 0) (by decide) ?_
    obtain rfl := Option.some.inj e
    exact r_zret DX8_isNear_47 rfl (by decide) rfl
  · replace e := x_iff c12 e
    refine r_iload_n DX8_isNear_15 (i := 2) rfl rfl ?_
    refine r_iload_n DX8_isNear_16 (i := 1) rfl rfl ?_
    refine r_iconst DX8_isNear_17 (v := (-1)) (by decide) ?_
    refine r_ixor DX8_isNear_18 ?_
    refine r_iand DX8_isNear_19 ?_
    obtain ⟨q20, e20, e⟩ := x_bnd e
    refine r_callS1 (As := [.int (v2 &&& (v1 ^^^ (-1)))]) (S := []) DX8_isNear_20 C_X8_101 (by decide) (by decide) (Nat.le_of_ble_eq_true rfl) (t_X8_bits N (v2 &&& (v1 ^^^ (-1))) e20) rfl ?_
    refine r_aload_n DX8_isNear_23 (i := 0) rfl rfl ?_
    refine r_get (v := .int (gI b 1)) DX8_isNear_24 F_X8_88 e_44 rfl ?_
    refine r_iconst DX8_isNear_27 (v := 2) (by decide) ?_
    refine r_icmp_ge DX8_isNear_28 (tgt := 35) (by decide) (fun c28 => ?_) (fun c28 => ?_)
    · replace e := x_ift c28 e
      refine r_aload_n DX8_isNear_35 (i := 0) rfl rfl ?_
      refine r_get (v := .int (gI b 3)) DX8_isNear_36 F_X8_91 e_44 rfl ?_
      refine r_icmp_gt DX8_isNear_39 (tgt := 46) (by decide) (fun c39 => ?_) (fun c39 => ?_)
      · replace e := x_ift c39 e
        refine r_iconst DX8_isNear_46 (v := 0) (by decide) ?_
        obtain rfl := Option.some.inj e
        exact r_zret DX8_isNear_47 rfl (by decide) rfl
      · replace e := x_iff c39 e
        refine r_iconst DX8_isNear_42 (v := 1) (by decide) ?_
        refine r_goto DX8_isNear_43 (tgt := 47) (by decide) ?_
        obtain rfl := Option.some.inj e
        exact r_zret DX8_isNear_47 rfl (by decide) rfl
    · replace e := x_iff c28 e
      refine r_iconst DX8_isNear_31 (v := 0) (by decide) ?_
      refine r_goto DX8_isNear_32 (tgt := 39) (by decide) ?_
      refine r_icmp_gt DX8_isNear_39 (tgt := 46) (by decide) (fun c39 => ?_) (fun c39 => ?_)
      · replace e := x_ift c39 e
        refine r_iconst DX8_isNear_46 (v := 0) (by decide) ?_
        obtain rfl := Option.some.inj e
        exact r_zret DX8_isNear_47 rfl (by decide) rfl
      · replace e := x_iff c39 e
        refine r_iconst DX8_isNear_42 (v := 1) (by decide) ?_
        refine r_goto DX8_isNear_43 (tgt := 47) (by decide) ?_
        obtain rfl := Option.some.inj e
        exact r_zret DX8_isNear_47 rfl (by decide) rfl

set_option maxRecDepth 100000 in
set_option maxHeartbeats 4000000 in
theorem t_X8_maySee {l : Launch} {g : xG} {a : xT} (N : Nat) (v1 : Int32) (v2 : Int32) (v3 : Int32) (b : xT)  {r : Int32} (e : f_X8_maySee N v1 v2 v3 b = some r) : Ev l g 2 yX8_maySee M_X8_maySee [.ref (xa g 44), .int v1, .int v2, .int v3] (a, b) (some (.int r), (a, b)) := by
  unfold f_X8_maySee at e
  refine Ev.of 0 (L0 := [some (.ref (xa g 44)), some (.int v1), some (.int v2), some (.int v3)]) (by decide) rfl (Nat.le_of_ble_eq_true rfl) rfl ?_
  refine r_aload_n DX8_maySee_0 (i := 0) rfl rfl ?_
  refine r_get (v := .int (gI b 1)) DX8_maySee_1 F_X8_88 e_44 rfl ?_
  refine r_if_ne DX8_maySee_4 (tgt := 33) (by decide) (fun c4 => ?_) (fun c4 => ?_)
  · replace e := x_iff c4 e
    refine r_iload_n DX8_maySee_33 (i := 3) rfl rfl ?_
    refine r_if_ne DX8_maySee_34 (tgt := 71) (by decide) (fun c34 => ?_) (fun c34 => ?_)
    · replace e := x_iff c34 e
      refine r_iconst DX8_maySee_71 (v := 0) (by decide) ?_
      obtain rfl := Option.some.inj e
      exact r_zret DX8_maySee_72 rfl (by decide) rfl
    · replace e := x_ift c34 e
      refine r_aload_n DX8_maySee_37 (i := 0) rfl rfl ?_
      refine r_iload_n DX8_maySee_38 (i := 1) rfl rfl ?_
      refine r_iload_n DX8_maySee_39 (i := 2) rfl rfl ?_
      obtain ⟨q40, e40, e⟩ := x_bnd e
      refine r_callV1 (As := [.int v1, .int v2]) (S := []) DX8_maySee_40 C_X8_104 (ci := 8) rfl rfl e_44 (by decide) (by decide) (Nat.le_of_ble_eq_true rfl) (t_X8_isNear N v1 v2 b e40) rfl ?_
      refine r_if_ne DX8_maySee_43 (tgt := 67) (by decide) (fun c43 => ?_) (fun c43 => ?_)
      · replace e := x_iff c43 e
        refine r_iconst DX8_maySee_67 (v := 1) (by decide) ?_
        refine r_goto DX8_maySee_68 (tgt := 72) (by decide) ?_
        obtain rfl := Option.some.inj e
        exact r_zret DX8_maySee_72 rfl (by decide) rfl
      · replace e := x_ift c43 e
        refine r_aload_n DX8_maySee_46 (i := 0) rfl rfl ?_
        refine r_get (v := .int (gI b 1)) DX8_maySee_47 F_X8_88 e_44 rfl ?_
        refine r_iconst DX8_maySee_50 (v := 3) (by decide) ?_
        refine r_icmp_ne DX8_maySee_51 (tgt := 71) (by decide) (fun c51 => ?_) (fun c51 => ?_)
        · replace e := x_iff c51 e
          refine r_iconst DX8_maySee_71 (v := 0) (by decide) ?_
          obtain rfl := Option.some.inj e
          exact r_zret DX8_maySee_72 rfl (by decide) rfl
        · replace e := x_ift c51 e
          refine r_aload_n DX8_maySee_54 (i := 0) rfl rfl ?_
          refine r_aload_n DX8_maySee_55 (i := 0) rfl rfl ?_
          refine r_iload_n DX8_maySee_56 (i := 1) rfl rfl ?_
          obtain ⟨q57, e57, e⟩ := x_bnd e
          refine r_callV1 (As := [.int v1]) (S := [.ref (xa g 44)]) DX8_maySee_57 C_X8_97 (ci := 8) rfl rfl e_44 (by decide) (by decide) (Nat.le_of_ble_eq_true rfl) (t_X8_turnedOf N v1 b e57) rfl ?_
          refine r_iload_n DX8_maySee_60 (i := 2) rfl rfl ?_
          obtain ⟨q61, e61, e⟩ := x_bnd e
          refine r_callV1 (As := [.int q57, .int v2]) (S := []) DX8_maySee_61 C_X8_104 (ci := 8) rfl rfl e_44 (by decide) (by decide) (Nat.le_of_ble_eq_true rfl) (t_X8_isNear N q57 v2 b e61) rfl ?_
          refine r_if_eq DX8_maySee_64 (tgt := 71) (by decide) (fun c64 => ?_) (fun c64 => ?_)
          · replace e := x_ift c64 e
            refine r_iconst DX8_maySee_71 (v := 0) (by decide) ?_
            obtain rfl := Option.some.inj e
            exact r_zret DX8_maySee_72 rfl (by decide) rfl
          · replace e := x_iff c64 e
            refine r_iconst DX8_maySee_67 (v := 1) (by decide) ?_
            refine r_goto DX8_maySee_68 (tgt := 72) (by decide) ?_
            obtain rfl := Option.some.inj e
            exact r_zret DX8_maySee_72 rfl (by decide) rfl
  · replace e := x_ift c4 e
    refine r_iload_n DX8_maySee_7 (i := 3) rfl rfl ?_
    obtain ⟨q8, e8, e⟩ := x_bnd e
    refine r_callS1 (As := [.int v3]) (S := []) DX8_maySee_8 C_X8_101 (by decide) (by decide) (Nat.le_of_ble_eq_true rfl) (t_X8_bits N v3 e8) rfl ?_
    refine r_aload_n DX8_maySee_11 (i := 0) rfl rfl ?_
    refine r_get (v := .int (gI b 2)) DX8_maySee_12 F_X8_13 e_44 rfl ?_
    refine r_icmp_gt DX8_maySee_15 (tgt := 31) (by decide) (fun c15 => ?_) (fun c15 => ?_)
    · replace e := x_ift c15 e
      refine r_iconst DX8_maySee_31 (v := 0) (by decide) ?_
      obtain rfl := Option.some.inj e
      exact r_zret DX8_maySee_32 rfl (by decide) rfl
    · replace e := x_iff c15 e
      refine r_iload_n DX8_maySee_18 (i := 1) rfl rfl ?_
      refine r_iload_n DX8_maySee_19 (i := 3) rfl rfl ?_
      refine r_iconst DX8_maySee_20 (v := (-1)) (by decide) ?_
      refine r_ixor DX8_maySee_21 ?_
      refine r_iand DX8_maySee_22 ?_
      refine r_iload_n DX8_maySee_23 (i := 2) rfl rfl ?_
      refine r_icmp_ne DX8_maySee_24 (tgt := 31) (by decide) (fun c24 => ?_) (fun c24 => ?_)
      · replace e := x_iff c24 e
        refine r_iconst DX8_maySee_31 (v := 0) (by decide) ?_
        obtain rfl := Option.some.inj e
        exact r_zret DX8_maySee_32 rfl (by decide) rfl
      · replace e := x_ift c24 e
        refine r_iconst DX8_maySee_27 (v := 1) (by decide) ?_
        refine r_goto DX8_maySee_28 (tgt := 32) (by decide) ?_
        obtain rfl := Option.some.inj e
        exact r_zret DX8_maySee_32 rfl (by decide) rfl

set_option maxRecDepth 100000 in
set_option maxHeartbeats 4000000 in
theorem lp_X8_witness_L28 {l : Launch} {g : xG} {a : xT} {R : Option Value × xS} (N : Nat) (v1 : Int32) (v2 : Int32) (v3 : Int32) (b : xT) : ∀ (n : Nat) (v4 : Int32) (r : (Int32)), f_X8_witness_L28 N v1 v2 v3 b n v4 = some r → Rx l g 3 M_X8_witness 56 [none, none, none, some (.int v3), some (.int r)] [] (a, b) R → Rx l g 3 M_X8_witness 28 [some (.ref (xa g 44)), some (.int v1), some (.int v2), some (.int v3), some (.int v4)] [] (a, b) R := by
  intro n
  induction n with
  | zero => intro v4_ r_ e; cases e
  | succ n ih =>
    intro v4 r e K0
    rw [f_X8_witness_L28] at e
    refine r_aload_n DX8_witness_28 (i := 0) rfl rfl ?_
    refine r_iload_n DX8_witness_29 (i := 1) rfl rfl ?_
    refine r_iload DX8_witness_30 rfl ?_
    refine r_iconst DX8_witness_32 (v := 0) (by decide) ?_
    obtain ⟨q33, e33, e⟩ := x_bnd e
    refine r_callV1 (As := [.int v1, .int v4, .int 0]) (S := []) DX8_witness_33 C_X8_111 (ci := 8) rfl rfl e_44 (by decide) (by decide) (Nat.le_of_ble_eq_true rfl) (t_X8_maySee N v1 v4 0 b e33) rfl ?_
    refine r_if_eq DX8_witness_36 (tgt := 50) (by decide) (fun c36 => ?_) (fun c36 => ?_)
    · replace e := x_ift c36 e
      refine r_iinc (L' := [some (.ref (xa g 44)), some (.int v1), some (.int v2), some (.int v3), some (.int (v4 + 1))]) DX8_witness_50 (x := v4) (v := (v4 + 1)) rfl rfl (by decide) rfl rfl ?_
      refine r_goto DX8_witness_53 (tgt := 28) (by decide) ?_
      exact ih _ _ e K0
    · replace e := x_iff c36 e
      refine r_aload_n DX8_witness_39 (i := 0) rfl rfl ?_
      refine r_iload_n DX8_witness_40 (i := 2) rfl rfl ?_
      refine r_iload DX8_witness_41 rfl ?_
      refine r_iconst DX8_witness_43 (v := 0) (by decide) ?_
      obtain ⟨q44, e44, e⟩ := x_bnd e
      refine r_callV1 (As := [.int v2, .int v4, .int 0]) (S := []) DX8_witness_44 C_X8_111 (ci := 8) rfl rfl e_44 (by decide) (by decide) (Nat.le_of_ble_eq_true rfl) (t_X8_maySee N v2 v4 0 b e44) rfl ?_
      refine r_if_ne DX8_witness_47 (tgt := 56) (by decide) (fun c47 => ?_) (fun c47 => ?_)
      · replace e := x_iff c47 e
        obtain rfl := Option.some.inj e
        refine r_mask (L' := [none, none, none, some (.int v3), some (.int v4)]) [false, false, false, true, true] rfl ?_
        exact K0
      · replace e := x_ift c47 e
        refine r_iinc (L' := [some (.ref (xa g 44)), some (.int v1), some (.int v2), some (.int v3), some (.int (v4 + 1))]) DX8_witness_50 (x := v4) (v := (v4 + 1)) rfl rfl (by decide) rfl rfl ?_
        refine r_goto DX8_witness_53 (tgt := 28) (by decide) ?_
        exact ih _ _ e K0

set_option maxRecDepth 100000 in
set_option maxHeartbeats 4000000 in
theorem t_X8_witness {l : Launch} {g : xG} {a : xT} (N : Nat) (v1 : Int32) (v2 : Int32) (v3 : Int32) (b : xT)  {r : Int32} (e : f_X8_witness N v1 v2 v3 b = some r) : Ev l g 3 yX8_witness M_X8_witness [.ref (xa g 44), .int v1, .int v2, .int v3] (a, b) (some (.int r), (a, b)) := by
  unfold f_X8_witness at e
  refine Ev.of 1 (L0 := [some (.ref (xa g 44)), some (.int v1), some (.int v2), some (.int v3), none]) (by decide) rfl (Nat.le_of_ble_eq_true rfl) rfl ?_
  refine r_aload_n DX8_witness_0 (i := 0) rfl rfl ?_
  refine r_get (v := .int (gI b 1)) DX8_witness_1 F_X8_88 e_44 rfl ?_
  refine r_if_ne DX8_witness_4 (tgt := 25) (by decide) (fun c4 => ?_) (fun c4 => ?_)
  · replace e := x_iff c4 e
    refine r_iconst DX8_witness_25 (v := 0) (by decide) ?_
    refine r_istore (L' := [some (.ref (xa g 44)), some (.int v1), some (.int v2), some (.int v3), some (.int 0)]) DX8_witness_26 (by decide) rfl rfl ?_
    obtain ⟨q28, e28, e⟩ := x_bnd e
    refine lp_X8_witness_L28 N v1 v2 v3 b N 0 q28 e28 ?_
    refine r_iload_n DX8_witness_56 (i := 3) rfl rfl ?_
    refine r_if_eq DX8_witness_57 (tgt := 64) (by decide) (fun c57 => ?_) (fun c57 => ?_)
    · replace e := x_ift c57 e
      refine r_iload DX8_witness_64 rfl ?_
      obtain rfl := Option.some.inj e
      exact r_iret DX8_witness_66 rfl rfl
    · replace e := x_iff c57 e
      refine r_iconst DX8_witness_60 (v := 0) (by decide) ?_
      refine r_goto DX8_witness_61 (tgt := 66) (by decide) ?_
      obtain rfl := Option.some.inj e
      exact r_iret DX8_witness_66 rfl rfl
  · replace e := x_ift c4 e
    refine r_iload_n DX8_witness_7 (i := 3) rfl rfl ?_
    refine r_if_eq DX8_witness_8 (tgt := 17) (by decide) (fun c8 => ?_) (fun c8 => ?_)
    · replace e := x_ift c8 e
      refine r_iload_n DX8_witness_17 (i := 1) rfl rfl ?_
      refine r_iload_n DX8_witness_18 (i := 1) rfl rfl ?_
      refine r_iload_n DX8_witness_19 (i := 2) rfl rfl ?_
      refine r_ixor DX8_witness_20 ?_
      refine r_iconst DX8_witness_21 (v := (-1)) (by decide) ?_
      refine r_ixor DX8_witness_22 ?_
      refine r_iand DX8_witness_23 ?_
      obtain rfl := Option.some.inj e
      exact r_iret DX8_witness_24 rfl rfl
    · replace e := x_iff c8 e
      refine r_iload_n DX8_witness_11 (i := 1) rfl rfl ?_
      refine r_iload_n DX8_witness_12 (i := 2) rfl rfl ?_
      refine r_ixor DX8_witness_13 ?_
      refine r_goto DX8_witness_14 (tgt := 24) (by decide) ?_
      obtain rfl := Option.some.inj e
      exact r_iret DX8_witness_24 rfl rfl

set_option maxRecDepth 100000 in
set_option maxHeartbeats 4000000 in
theorem t_X8_between {l : Launch} {g : xG} {a : xT} (N : Nat) (v1 : Int32) (v2 : Int32) (v3 : Int32) (b : xT)  {r : Int32} (e : f_X8_between N v1 v2 v3 b = some r) : Ev l g 4 yX8_between M_X8_between [.ref (xa g 44), .int v1, .int v2, .int v3] (a, b) (some (.int r), (a, b)) := by
  unfold f_X8_between at e
  refine Ev.of 0 (L0 := [some (.ref (xa g 44)), some (.int v1), some (.int v2), some (.int v3)]) (by decide) rfl (Nat.le_of_ble_eq_true rfl) rfl ?_
  refine r_aload_n DX8_between_0 (i := 0) rfl rfl ?_
  refine r_iload_n DX8_between_1 (i := 1) rfl rfl ?_
  obtain ⟨q2, e2, e⟩ := x_bnd e
  refine r_callV1 (As := [.int v1]) (S := []) DX8_between_2 C_X8_94 (ci := 8) rfl rfl e_44 (by decide) (by decide) (Nat.le_of_ble_eq_true rfl) (t_X8_isMark v1 b e2) rfl ?_
  refine r_if_eq DX8_between_5 (tgt := 26) (by decide) (fun c5 => ?_) (fun c5 => ?_)
  · replace e := x_ift c5 e
    refine r_sipush DX8_between_26 (v := (-1002)) (by decide) ?_
    obtain rfl := Option.some.inj e
    exact r_iret DX8_between_29 rfl rfl
  · replace e := x_iff c5 e
    refine r_aload_n DX8_between_8 (i := 0) rfl rfl ?_
    refine r_iload_n DX8_between_9 (i := 2) rfl rfl ?_
    obtain ⟨q10, e10, e⟩ := x_bnd e
    refine r_callV1 (As := [.int v2]) (S := []) DX8_between_10 C_X8_94 (ci := 8) rfl rfl e_44 (by decide) (by decide) (Nat.le_of_ble_eq_true rfl) (t_X8_isMark v2 b e10) rfl ?_
    refine r_if_eq DX8_between_13 (tgt := 26) (by decide) (fun c13 => ?_) (fun c13 => ?_)
    · replace e := x_ift c13 e
      refine r_sipush DX8_between_26 (v := (-1002)) (by decide) ?_
      obtain rfl := Option.some.inj e
      exact r_iret DX8_between_29 rfl rfl
    · replace e := x_iff c13 e
      refine r_iload_n DX8_between_16 (i := 3) rfl rfl ?_
      refine r_i2l DX8_between_17 ?_
      refine r_lconst DX8_between_18 (v := 0) (by decide) ?_
      refine r_lconst DX8_between_19 (v := 1) (by decide) ?_
      obtain ⟨q20, e20, e⟩ := x_bnd e
      refine r_callS1 (As := [.long (Int32.toInt64 v3), .long 0, .long 1]) (S := []) DX8_between_20 C_X8_70 (by decide) (by decide) (Nat.le_of_ble_eq_true rfl) (t_X8_in (Int32.toInt64 v3) 0 1 e20) rfl ?_
      refine r_if_ne DX8_between_23 (tgt := 30) (by decide) (fun c23 => ?_) (fun c23 => ?_)
      · replace e := x_iff c23 e
        refine r_aload_n DX8_between_30 (i := 0) rfl rfl ?_
        refine r_iload_n DX8_between_31 (i := 1) rfl rfl ?_
        refine r_iload_n DX8_between_32 (i := 2) rfl rfl ?_
        obtain ⟨q33, e33, e⟩ := x_bnd e
        refine r_callV1 (As := [.int v1, .int v2]) (S := []) DX8_between_33 C_X8_118 (ci := 8) rfl rfl e_44 (by decide) (by decide) (Nat.le_of_ble_eq_true rfl) (t_X8_areAlike N v1 v2 b e33) rfl ?_
        refine r_if_eq DX8_between_36 (tgt := 58) (by decide) (fun c36 => ?_) (fun c36 => ?_)
        · replace e := x_ift c36 e
          refine r_iconst DX8_between_58 (v := (-1)) (by decide) ?_
          obtain rfl := Option.some.inj e
          exact r_iret DX8_between_59 rfl rfl
        · replace e := x_iff c36 e
          refine r_aload_n DX8_between_39 (i := 0) rfl rfl ?_
          refine r_iload_n DX8_between_40 (i := 1) rfl rfl ?_
          refine r_iload_n DX8_between_41 (i := 2) rfl rfl ?_
          refine r_iload_n DX8_between_42 (i := 3) rfl rfl ?_
          refine r_iconst DX8_between_43 (v := 1) (by decide) ?_
          refine r_icmp_ne DX8_between_44 (tgt := 51) (by decide) (fun c44 => ?_) (fun c44 => ?_)
          · replace e := x_iff c44 e
            refine r_iconst DX8_between_51 (v := 0) (by decide) ?_
            obtain ⟨q52, e52, e⟩ := x_bnd e
            refine r_callV1 (As := [.int v1, .int v2, .int 0]) (S := []) DX8_between_52 C_X8_121 (ci := 8) rfl rfl e_44 (by decide) (by decide) (Nat.le_of_ble_eq_true rfl) (t_X8_witness N v1 v2 0 b e52) rfl ?_
            refine r_goto DX8_between_55 (tgt := 59) (by decide) ?_
            obtain rfl := Option.some.inj e
            exact r_iret DX8_between_59 rfl rfl
          · replace e := x_ift c44 e
            refine r_iconst DX8_between_47 (v := 1) (by decide) ?_
            refine r_goto DX8_between_48 (tgt := 52) (by decide) ?_
            obtain ⟨q52, e52, e⟩ := x_bnd e
            refine r_callV1 (As := [.int v1, .int v2, .int 1]) (S := []) DX8_between_52 C_X8_121 (ci := 8) rfl rfl e_44 (by decide) (by decide) (Nat.le_of_ble_eq_true rfl) (t_X8_witness N v1 v2 1 b e52) rfl ?_
            refine r_goto DX8_between_55 (tgt := 59) (by decide) ?_
            obtain rfl := Option.some.inj e
            exact r_iret DX8_between_59 rfl rfl
      · replace e := x_ift c23 e
        refine r_sipush DX8_between_26 (v := (-1002)) (by decide) ?_
        obtain rfl := Option.some.inj e
        exact r_iret DX8_between_29 rfl rfl

set_option maxRecDepth 100000 in
set_option maxHeartbeats 4000000 in
theorem lp_X8_bits32_L4 {l : Launch} {g : xG} {s : xS} {R : Option Value × xS} (v0 : Int32) : ∀ (n : Nat) (v1 : Int32) (v2 : Int32) (r : (Int32)), f_X8_bits32_L4 v0 n v1 v2 = some r → Rx l g 0 M_X8_bits32 24 [none, some (.int r), none] [] s R → Rx l g 0 M_X8_bits32 4 [some (.int v0), some (.int v1), some (.int v2)] [] s R := by
  intro n
  induction n with
  | zero => intro v1_ v2_ r_ e; cases e
  | succ n ih =>
    intro v1 v2 r e K0
    rw [f_X8_bits32_L4] at e
    refine r_iload_n DX8_bits32_4 (i := 2) rfl rfl ?_
    refine r_bipush DX8_bits32_5 (v := 32) (by decide) ?_
    refine r_icmp_ge DX8_bits32_7 (tgt := 24) (by decide) (fun c7 => ?_) (fun c7 => ?_)
    · replace e := x_ift c7 e
      obtain rfl := Option.some.inj e
      refine r_mask (L' := [none, some (.int v1), none]) [false, true, false] rfl ?_
      exact K0
    · replace e := x_iff c7 e
      refine r_iload_n DX8_bits32_10 (i := 1) rfl rfl ?_
      refine r_iload_n DX8_bits32_11 (i := 0) rfl rfl ?_
      refine r_iload_n DX8_bits32_12 (i := 2) rfl rfl ?_
      refine r_iushr DX8_bits32_13 ?_
      refine r_iconst DX8_bits32_14 (v := 1) (by decide) ?_
      refine r_iand DX8_bits32_15 ?_
      refine r_iadd DX8_bits32_16 ?_
      refine r_istore_n (L' := [some (.int v0), some (.int (v1 + ((xushr v0 v2) &&& 1))), some (.int v2)]) DX8_bits32_17 (i := 1) rfl (by decide) rfl rfl ?_
      refine r_iinc (L' := [some (.int v0), some (.int (v1 + ((xushr v0 v2) &&& 1))), some (.int (v2 + 1))]) DX8_bits32_18 (x := v2) (v := (v2 + 1)) rfl rfl (by decide) rfl rfl ?_
      refine r_goto DX8_bits32_21 (tgt := 4) (by decide) ?_
      exact ih _ _ _ e K0

set_option maxRecDepth 100000 in
set_option maxHeartbeats 4000000 in
theorem t_X8_bits32 {l : Launch} {g : xG} {s : xS} (N : Nat) (v0 : Int32)  {r : Int32} (e : f_X8_bits32 N v0 = some r) : Ev l g 0 yX8_bits32 M_X8_bits32 [.int v0] s (some (.int r), s) := by
  unfold f_X8_bits32 at e
  refine Ev.of 2 (L0 := [some (.int v0), none, none]) (by decide) rfl (Nat.le_of_ble_eq_true rfl) rfl ?_
  refine r_iconst DX8_bits32_0 (v := 0) (by decide) ?_
  refine r_istore_n (L' := [some (.int v0), some (.int 0), none]) DX8_bits32_1 (i := 1) rfl (by decide) rfl rfl ?_
  refine r_iconst DX8_bits32_2 (v := 0) (by decide) ?_
  refine r_istore_n (L' := [some (.int v0), some (.int 0), some (.int 0)]) DX8_bits32_3 (i := 2) rfl (by decide) rfl rfl ?_
  obtain ⟨q4, e4, e⟩ := x_bnd e
  refine lp_X8_bits32_L4 v0 N 0 0 q4 e4 ?_
  refine r_iload_n DX8_bits32_24 (i := 1) rfl rfl ?_
  obtain rfl := Option.some.inj e
  exact r_iret DX8_bits32_25 rfl rfl

set_option maxRecDepth 100000 in
set_option maxHeartbeats 4000000 in
theorem lp_X8_choose_L4 {l : Launch} {g : xG} {s : xS} {R : Option Value × xS} (v0 : Int32) (v1 : Int32) : ∀ (n : Nat) (v2 : Int32) (v3 : Int32) (r : (Int32)), f_X8_choose_L4 v0 v1 n v2 v3 = some r → Rx l g 0 M_X8_choose 25 [some (.int v0), some (.int v1), some (.int r), none] [] s R → Rx l g 0 M_X8_choose 4 [some (.int v0), some (.int v1), some (.int v2), some (.int v3)] [] s R := by
  intro n
  induction n with
  | zero => intro v2_ v3_ r_ e; cases e
  | succ n ih =>
    intro v2 v3 r e K0
    rw [f_X8_choose_L4] at e
    refine r_iload_n DX8_choose_4 (i := 3) rfl rfl ?_
    refine r_iload_n DX8_choose_5 (i := 1) rfl rfl ?_
    refine r_icmp_gt DX8_choose_6 (tgt := 25) (by decide) (fun c6 => ?_) (fun c6 => ?_)
    · replace e := x_ift c6 e
      obtain rfl := Option.some.inj e
      refine r_mask (L' := [some (.int v0), some (.int v1), some (.int v2), none]) [true, true, true, false] rfl ?_
      exact K0
    · replace e := x_iff c6 e
      refine r_iload_n DX8_choose_9 (i := 2) rfl rfl ?_
      refine r_iload_n DX8_choose_10 (i := 0) rfl rfl ?_
      refine r_iload_n DX8_choose_11 (i := 3) rfl rfl ?_
      refine r_isub DX8_choose_12 ?_
      refine r_iconst DX8_choose_13 (v := 1) (by decide) ?_
      refine r_iadd DX8_choose_14 ?_
      refine r_imul DX8_choose_15 ?_
      refine r_iload_n DX8_choose_16 (i := 3) rfl rfl ?_
      obtain ⟨c17, e⟩ := x_grd e
      refine r_idiv DX8_choose_17 c17 ?_
      refine r_istore_n (L' := [some (.int v0), some (.int v1), some (.int ((v2 * ((v0 - v3) + 1)) / v3)), some (.int v3)]) DX8_choose_18 (i := 2) rfl (by decide) rfl rfl ?_
      refine r_iinc (L' := [some (.int v0), some (.int v1), some (.int ((v2 * ((v0 - v3) + 1)) / v3)), some (.int (v3 + 1))]) DX8_choose_19 (x := v3) (v := (v3 + 1)) rfl rfl (by decide) rfl rfl ?_
      refine r_goto DX8_choose_22 (tgt := 4) (by decide) ?_
      exact ih _ _ _ e K0

set_option maxRecDepth 100000 in
set_option maxHeartbeats 4000000 in
theorem t_X8_choose {l : Launch} {g : xG} {s : xS} (N : Nat) (v0 : Int32) (v1 : Int32)  {r : Int32} (e : f_X8_choose N v0 v1 = some r) : Ev l g 0 yX8_choose M_X8_choose [.int v0, .int v1] s (some (.int r), s) := by
  unfold f_X8_choose at e
  refine Ev.of 2 (L0 := [some (.int v0), some (.int v1), none, none]) (by decide) rfl (Nat.le_of_ble_eq_true rfl) rfl ?_
  refine r_iconst DX8_choose_0 (v := 1) (by decide) ?_
  refine r_istore_n (L' := [some (.int v0), some (.int v1), some (.int 1), none]) DX8_choose_1 (i := 2) rfl (by decide) rfl rfl ?_
  refine r_iconst DX8_choose_2 (v := 1) (by decide) ?_
  refine r_istore_n (L' := [some (.int v0), some (.int v1), some (.int 1), some (.int 1)]) DX8_choose_3 (i := 3) rfl (by decide) rfl rfl ?_
  obtain ⟨q4, e4, e⟩ := x_bnd e
  refine lp_X8_choose_L4 v0 v1 N 1 1 q4 e4 ?_
  refine r_iload_n DX8_choose_25 (i := 1) rfl rfl ?_
  refine r_iload_n DX8_choose_26 (i := 0) rfl rfl ?_
  refine r_icmp_le DX8_choose_27 (tgt := 34) (by decide) (fun c27 => ?_) (fun c27 => ?_)
  · replace e := x_ift c27 e
    refine r_iload_n DX8_choose_34 (i := 2) rfl rfl ?_
    obtain rfl := Option.some.inj e
    exact r_iret DX8_choose_35 rfl rfl
  · replace e := x_iff c27 e
    refine r_iconst DX8_choose_30 (v := 0) (by decide) ?_
    refine r_goto DX8_choose_31 (tgt := 35) (by decide) ?_
    obtain rfl := Option.some.inj e
    exact r_iret DX8_choose_35 rfl rfl

set_option maxRecDepth 100000 in
set_option maxHeartbeats 4000000 in
theorem lp_X8_upTo_L4 {l : Launch} {g : xG} {s : xS} {R : Option Value × xS} (N : Nat) (v0 : Int32) (v1 : Int32) : ∀ (n : Nat) (v2 : Int32) (v3 : Int32) (r : (Int32)), f_X8_upTo_L4 N v0 v1 n v2 v3 = some r → Rx l g 1 M_X8_upTo 23 [none, none, some (.int r), none] [] s R → Rx l g 1 M_X8_upTo 4 [some (.int v0), some (.int v1), some (.int v2), some (.int v3)] [] s R := by
  intro n
  induction n with
  | zero => intro v2_ v3_ r_ e; cases e
  | succ n ih =>
    intro v2 v3 r e K0
    rw [f_X8_upTo_L4] at e
    refine r_iload_n DX8_upTo_4 (i := 3) rfl rfl ?_
    refine r_iload_n DX8_upTo_5 (i := 1) rfl rfl ?_
    refine r_icmp_gt DX8_upTo_6 (tgt := 23) (by decide) (fun c6 => ?_) (fun c6 => ?_)
    · replace e := x_ift c6 e
      obtain rfl := Option.some.inj e
      refine r_mask (L' := [none, none, some (.int v2), none]) [false, false, true, false] rfl ?_
      exact K0
    · replace e := x_iff c6 e
      refine r_iload_n DX8_upTo_9 (i := 2) rfl rfl ?_
      refine r_iload_n DX8_upTo_10 (i := 0) rfl rfl ?_
      refine r_iload_n DX8_upTo_11 (i := 3) rfl rfl ?_
      obtain ⟨q12, e12, e⟩ := x_bnd e
      refine r_callS1 (As := [.int v0, .int v3]) (S := [.int v2]) DX8_upTo_12 C_X8_125 (by decide) (by decide) (Nat.le_of_ble_eq_true rfl) (t_X8_choose N v0 v3 e12) rfl ?_
      refine r_iadd DX8_upTo_15 ?_
      refine r_istore_n (L' := [some (.int v0), some (.int v1), some (.int (v2 + q12)), some (.int v3)]) DX8_upTo_16 (i := 2) rfl (by decide) rfl rfl ?_
      refine r_iinc (L' := [some (.int v0), some (.int v1), some (.int (v2 + q12)), some (.int (v3 + 1))]) DX8_upTo_17 (x := v3) (v := (v3 + 1)) rfl rfl (by decide) rfl rfl ?_
      refine r_goto DX8_upTo_20 (tgt := 4) (by decide) ?_
      exact ih _ _ _ e K0

set_option maxRecDepth 100000 in
set_option maxHeartbeats 4000000 in
theorem t_X8_upTo {l : Launch} {g : xG} {s : xS} (N : Nat) (v0 : Int32) (v1 : Int32)  {r : Int32} (e : f_X8_upTo N v0 v1 = some r) : Ev l g 1 yX8_upTo M_X8_upTo [.int v0, .int v1] s (some (.int r), s) := by
  unfold f_X8_upTo at e
  refine Ev.of 2 (L0 := [some (.int v0), some (.int v1), none, none]) (by decide) rfl (Nat.le_of_ble_eq_true rfl) rfl ?_
  refine r_iconst DX8_upTo_0 (v := 0) (by decide) ?_
  refine r_istore_n (L' := [some (.int v0), some (.int v1), some (.int 0), none]) DX8_upTo_1 (i := 2) rfl (by decide) rfl rfl ?_
  refine r_iconst DX8_upTo_2 (v := 0) (by decide) ?_
  refine r_istore_n (L' := [some (.int v0), some (.int v1), some (.int 0), some (.int 0)]) DX8_upTo_3 (i := 3) rfl (by decide) rfl rfl ?_
  obtain ⟨q4, e4, e⟩ := x_bnd e
  refine lp_X8_upTo_L4 N v0 v1 N 0 0 q4 e4 ?_
  refine r_iload_n DX8_upTo_23 (i := 2) rfl rfl ?_
  obtain rfl := Option.some.inj e
  exact r_iret DX8_upTo_24 rfl rfl

set_option maxRecDepth 100000 in
set_option maxHeartbeats 4000000 in
theorem lp_X8_filledByBoth_L47 {l : Launch} {g : xG} {a : xT} {R : Option Value × xS} (N : Nat) (v2 : Int32) (v3 : Int32) (v4 : Int32) (v6 : Int32) (b : xT) : ∀ (n : Nat) (v5 : Int32) (v7 : Int32) (r : (Int32)), f_X8_filledByBoth_L47 N v2 v3 v4 v6 b n v5 v7 = some r → Rx l g 2 M_X8_filledByBoth 170 [some (.ref (xa g 44)), none, some (.int v2), some (.int v3), some (.int v4), some (.int r), some (.int v6), none, none, none, none] [] (a, b) R → Rx l g 2 M_X8_filledByBoth 47 [some (.ref (xa g 44)), none, some (.int v2), some (.int v3), some (.int v4), some (.int v5), some (.int v6), some (.int v7), none, none, none] [] (a, b) R := by
  intro n
  induction n with
  | zero => intro v5_ v7_ r_ e; cases e
  | succ n ih =>
    intro v5 v7 r e K0
    rw [f_X8_filledByBoth_L47] at e
    refine r_iload DX8_filledByBoth_47 rfl ?_
    refine r_iload_n DX8_filledByBoth_49 (i := 2) rfl rfl ?_
    refine r_icmp_gt DX8_filledByBoth_50 (tgt := 170) (by decide) (fun c50 => ?_) (fun c50 => ?_)
    · replace e := x_ift c50 e
      obtain rfl := Option.some.inj e
      refine r_mask (L' := [some (.ref (xa g 44)), none, some (.int v2), some (.int v3), some (.int v4), some (.int v5), some (.int v6), none, none, none, none]) [true, false, true, true, true, true, true, false, false, false, false] rfl ?_
      exact K0
    · replace e := x_iff c50 e
      refine r_iload_n DX8_filledByBoth_53 (i := 2) rfl rfl ?_
      refine r_iload DX8_filledByBoth_54 rfl ?_
      refine r_iload DX8_filledByBoth_56 rfl ?_
      refine r_icmp_ge DX8_filledByBoth_58 (tgt := 66) (by decide) (fun c58 => ?_) (fun c58 => ?_)
      · replace e := x_ift c58 e
        refine r_iload DX8_filledByBoth_66 rfl ?_
        refine r_isub DX8_filledByBoth_68 ?_
        refine r_istore (L' := [some (.ref (xa g 44)), none, some (.int v2), some (.int v3), some (.int v4), some (.int v5), some (.int v6), some (.int v7), some (.int (v2 - v7)), none, none]) DX8_filledByBoth_69 (by decide) rfl rfl ?_
        refine r_iload DX8_filledByBoth_71 rfl ?_
        refine r_iload DX8_filledByBoth_73 rfl ?_
        refine r_icmp_le DX8_filledByBoth_75 (tgt := 83) (by decide) (fun c75 => ?_) (fun c75 => ?_)
        · replace e := x_ift c75 e
          refine r_iload DX8_filledByBoth_83 rfl ?_
          refine r_istore (L' := [some (.ref (xa g 44)), none, some (.int v2), some (.int v3), some (.int v4), some (.int v5), some (.int v6), some (.int v7), some (.int (v2 - v7)), some (.int v7), none]) DX8_filledByBoth_85 (by decide) rfl rfl ?_
          refine r_iload DX8_filledByBoth_87 rfl ?_
          refine r_aload_n DX8_filledByBoth_89 (i := 0) rfl rfl ?_
          refine r_get (v := .int (gI b 2)) DX8_filledByBoth_90 F_X8_13 e_44 rfl ?_
          refine r_icmp_gt DX8_filledByBoth_93 (tgt := 109) (by decide) (fun c93 => ?_) (fun c93 => ?_)
          · replace e := x_ift c93 e
            refine r_iconst DX8_filledByBoth_109 (v := 0) (by decide) ?_
            refine r_istore (L' := [some (.ref (xa g 44)), none, some (.int v2), some (.int v3), some (.int v4), some (.int v5), some (.int v6), some (.int v7), some (.int (v2 - v7)), some (.int v7), some (.int 0)]) DX8_filledByBoth_110 (by decide) rfl rfl ?_
            refine r_iload DX8_filledByBoth_112 rfl ?_
            refine r_iload DX8_filledByBoth_114 rfl ?_
            refine r_if_eq DX8_filledByBoth_116 (tgt := 160) (by decide) (fun _ => ?_) (fun c => absurd (by decide) c)
            refine r_iconst DX8_filledByBoth_160 (v := 0) (by decide) ?_
            refine r_iadd DX8_filledByBoth_161 ?_
            refine r_istore (L' := [some (.ref (xa g 44)), none, some (.int v2), some (.int v3), some (.int v4), some (.int (v5 + 0)), some (.int v6), some (.int v7), some (.int (v2 - v7)), some (.int v7), some (.int 0)]) DX8_filledByBoth_162 (by decide) rfl rfl ?_
            refine r_iinc (L' := [some (.ref (xa g 44)), none, some (.int v2), some (.int v3), some (.int v4), some (.int (v5 + 0)), some (.int v6), some (.int (v7 + 1)), some (.int (v2 - v7)), some (.int v7), some (.int 0)]) DX8_filledByBoth_164 (x := v7) (v := (v7 + 1)) rfl rfl (by decide) rfl rfl ?_
            refine r_goto DX8_filledByBoth_167 (tgt := 47) (by decide) ?_
            refine r_mask (L' := [some (.ref (xa g 44)), none, some (.int v2), some (.int v3), some (.int v4), some (.int (v5 + 0)), some (.int v6), some (.int (v7 + 1)), none, none, none]) [true, false, true, true, true, true, true, true, false, false, false] rfl ?_
            exact ih _ _ _ e K0
          · replace e := x_iff c93 e
            refine r_iload DX8_filledByBoth_96 rfl ?_
            refine r_aload_n DX8_filledByBoth_98 (i := 0) rfl rfl ?_
            refine r_get (v := .int (gI b 3)) DX8_filledByBoth_99 F_X8_91 e_44 rfl ?_
            refine r_icmp_gt DX8_filledByBoth_102 (tgt := 109) (by decide) (fun c102 => ?_) (fun c102 => ?_)
            · replace e := x_ift c102 e
              refine r_iconst DX8_filledByBoth_109 (v := 0) (by decide) ?_
              refine r_istore (L' := [some (.ref (xa g 44)), none, some (.int v2), some (.int v3), some (.int v4), some (.int v5), some (.int v6), some (.int v7), some (.int (v2 - v7)), some (.int v7), some (.int 0)]) DX8_filledByBoth_110 (by decide) rfl rfl ?_
              refine r_iload DX8_filledByBoth_112 rfl ?_
              refine r_iload DX8_filledByBoth_114 rfl ?_
              refine r_if_eq DX8_filledByBoth_116 (tgt := 160) (by decide) (fun _ => ?_) (fun c => absurd (by decide) c)
              refine r_iconst DX8_filledByBoth_160 (v := 0) (by decide) ?_
              refine r_iadd DX8_filledByBoth_161 ?_
              refine r_istore (L' := [some (.ref (xa g 44)), none, some (.int v2), some (.int v3), some (.int v4), some (.int (v5 + 0)), some (.int v6), some (.int v7), some (.int (v2 - v7)), some (.int v7), some (.int 0)]) DX8_filledByBoth_162 (by decide) rfl rfl ?_
              refine r_iinc (L' := [some (.ref (xa g 44)), none, some (.int v2), some (.int v3), some (.int v4), some (.int (v5 + 0)), some (.int v6), some (.int (v7 + 1)), some (.int (v2 - v7)), some (.int v7), some (.int 0)]) DX8_filledByBoth_164 (x := v7) (v := (v7 + 1)) rfl rfl (by decide) rfl rfl ?_
              refine r_goto DX8_filledByBoth_167 (tgt := 47) (by decide) ?_
              refine r_mask (L' := [some (.ref (xa g 44)), none, some (.int v2), some (.int v3), some (.int v4), some (.int (v5 + 0)), some (.int v6), some (.int (v7 + 1)), none, none, none]) [true, false, true, true, true, true, true, true, false, false, false] rfl ?_
              exact ih _ _ _ e K0
            · replace e := x_iff c102 e
              refine r_iconst DX8_filledByBoth_105 (v := 1) (by decide) ?_
              refine r_goto DX8_filledByBoth_106 (tgt := 110) (by decide) ?_
              refine r_istore (L' := [some (.ref (xa g 44)), none, some (.int v2), some (.int v3), some (.int v4), some (.int v5), some (.int v6), some (.int v7), some (.int (v2 - v7)), some (.int v7), some (.int 1)]) DX8_filledByBoth_110 (by decide) rfl rfl ?_
              refine r_iload DX8_filledByBoth_112 rfl ?_
              refine r_iload DX8_filledByBoth_114 rfl ?_
              refine r_if_eq DX8_filledByBoth_116 (tgt := 160) (by decide) (fun c => absurd c (by decide)) (fun _ => ?_)
              refine r_iload_n DX8_filledByBoth_119 (i := 2) rfl rfl ?_
              refine r_iload DX8_filledByBoth_120 rfl ?_
              obtain ⟨q122, e122, e⟩ := x_bnd e
              refine r_callS1 (As := [.int v2, .int v6]) (S := [.int v5]) DX8_filledByBoth_122 C_X8_125 (by decide) (by decide) (Nat.le_of_ble_eq_true rfl) (t_X8_choose N v2 v6 e122) rfl ?_
              refine r_iload_n DX8_filledByBoth_125 (i := 2) rfl rfl ?_
              refine r_iload DX8_filledByBoth_126 rfl ?_
              obtain ⟨q128, e128, e⟩ := x_bnd e
              refine r_callS1 (As := [.int v2, .int v7]) (S := [.int q122, .int v5]) DX8_filledByBoth_128 C_X8_125 (by decide) (by decide) (Nat.le_of_ble_eq_true rfl) (t_X8_choose N v2 v7 e128) rfl ?_
              refine r_imul DX8_filledByBoth_131 ?_
              refine r_iload_n DX8_filledByBoth_132 (i := 3) rfl rfl ?_
              refine r_aload_n DX8_filledByBoth_133 (i := 0) rfl rfl ?_
              refine r_get (v := .int (gI b 2)) DX8_filledByBoth_134 F_X8_13 e_44 rfl ?_
              refine r_iload DX8_filledByBoth_137 rfl ?_
              refine r_isub DX8_filledByBoth_139 ?_
              obtain ⟨q140, e140, e⟩ := x_bnd e
              refine r_callS1 (As := [.int v3, .int ((gI b 2) - (v2 - v7))]) (S := [.int (q122 * q128), .int v5]) DX8_filledByBoth_140 C_X8_129 (by decide) (by decide) (Nat.le_of_ble_eq_true rfl) (t_X8_upTo N v3 ((gI b 2) - (v2 - v7)) e140) rfl ?_
              refine r_imul DX8_filledByBoth_143 ?_
              refine r_iload DX8_filledByBoth_144 rfl ?_
              refine r_aload_n DX8_filledByBoth_146 (i := 0) rfl rfl ?_
              refine r_get (v := .int (gI b 3)) DX8_filledByBoth_147 F_X8_91 e_44 rfl ?_
              refine r_iload DX8_filledByBoth_150 rfl ?_
              refine r_isub DX8_filledByBoth_152 ?_
              obtain ⟨q153, e153, e⟩ := x_bnd e
              refine r_callS1 (As := [.int v4, .int ((gI b 3) - v7)]) (S := [.int ((q122 * q128) * q140), .int v5]) DX8_filledByBoth_153 C_X8_129 (by decide) (by decide) (Nat.le_of_ble_eq_true rfl) (t_X8_upTo N v4 ((gI b 3) - v7) e153) rfl ?_
              refine r_imul DX8_filledByBoth_156 ?_
              refine r_goto DX8_filledByBoth_157 (tgt := 161) (by decide) ?_
              refine r_iadd DX8_filledByBoth_161 ?_
              refine r_istore (L' := [some (.ref (xa g 44)), none, some (.int v2), some (.int v3), some (.int v4), some (.int (v5 + (((q122 * q128) * q140) * q153))), some (.int v6), some (.int v7), some (.int (v2 - v7)), some (.int v7), some (.int 1)]) DX8_filledByBoth_162 (by decide) rfl rfl ?_
              refine r_iinc (L' := [some (.ref (xa g 44)), none, some (.int v2), some (.int v3), some (.int v4), some (.int (v5 + (((q122 * q128) * q140) * q153))), some (.int v6), some (.int (v7 + 1)), some (.int (v2 - v7)), some (.int v7), some (.int 1)]) DX8_filledByBoth_164 (x := v7) (v := (v7 + 1)) rfl rfl (by decide) rfl rfl ?_
              refine r_goto DX8_filledByBoth_167 (tgt := 47) (by decide) ?_
              refine r_mask (L' := [some (.ref (xa g 44)), none, some (.int v2), some (.int v3), some (.int v4), some (.int (v5 + (((q122 * q128) * q140) * q153))), some (.int v6), some (.int (v7 + 1)), none, none, none]) [true, false, true, true, true, true, true, true, false, false, false] rfl ?_
              exact ih _ _ _ e K0
        · replace e := x_iff c75 e
          refine r_iload DX8_filledByBoth_78 rfl ?_
          refine r_goto DX8_filledByBoth_80 (tgt := 85) (by decide) ?_
          refine r_istore (L' := [some (.ref (xa g 44)), none, some (.int v2), some (.int v3), some (.int v4), some (.int v5), some (.int v6), some (.int v7), some (.int (v2 - v7)), some (.int v6), none]) DX8_filledByBoth_85 (by decide) rfl rfl ?_
          refine r_iload DX8_filledByBoth_87 rfl ?_
          refine r_aload_n DX8_filledByBoth_89 (i := 0) rfl rfl ?_
          refine r_get (v := .int (gI b 2)) DX8_filledByBoth_90 F_X8_13 e_44 rfl ?_
          refine r_icmp_gt DX8_filledByBoth_93 (tgt := 109) (by decide) (fun c93 => ?_) (fun c93 => ?_)
          · replace e := x_ift c93 e
            refine r_iconst DX8_filledByBoth_109 (v := 0) (by decide) ?_
            refine r_istore (L' := [some (.ref (xa g 44)), none, some (.int v2), some (.int v3), some (.int v4), some (.int v5), some (.int v6), some (.int v7), some (.int (v2 - v7)), some (.int v6), some (.int 0)]) DX8_filledByBoth_110 (by decide) rfl rfl ?_
            refine r_iload DX8_filledByBoth_112 rfl ?_
            refine r_iload DX8_filledByBoth_114 rfl ?_
            refine r_if_eq DX8_filledByBoth_116 (tgt := 160) (by decide) (fun _ => ?_) (fun c => absurd (by decide) c)
            refine r_iconst DX8_filledByBoth_160 (v := 0) (by decide) ?_
            refine r_iadd DX8_filledByBoth_161 ?_
            refine r_istore (L' := [some (.ref (xa g 44)), none, some (.int v2), some (.int v3), some (.int v4), some (.int (v5 + 0)), some (.int v6), some (.int v7), some (.int (v2 - v7)), some (.int v6), some (.int 0)]) DX8_filledByBoth_162 (by decide) rfl rfl ?_
            refine r_iinc (L' := [some (.ref (xa g 44)), none, some (.int v2), some (.int v3), some (.int v4), some (.int (v5 + 0)), some (.int v6), some (.int (v7 + 1)), some (.int (v2 - v7)), some (.int v6), some (.int 0)]) DX8_filledByBoth_164 (x := v7) (v := (v7 + 1)) rfl rfl (by decide) rfl rfl ?_
            refine r_goto DX8_filledByBoth_167 (tgt := 47) (by decide) ?_
            refine r_mask (L' := [some (.ref (xa g 44)), none, some (.int v2), some (.int v3), some (.int v4), some (.int (v5 + 0)), some (.int v6), some (.int (v7 + 1)), none, none, none]) [true, false, true, true, true, true, true, true, false, false, false] rfl ?_
            exact ih _ _ _ e K0
          · replace e := x_iff c93 e
            refine r_iload DX8_filledByBoth_96 rfl ?_
            refine r_aload_n DX8_filledByBoth_98 (i := 0) rfl rfl ?_
            refine r_get (v := .int (gI b 3)) DX8_filledByBoth_99 F_X8_91 e_44 rfl ?_
            refine r_icmp_gt DX8_filledByBoth_102 (tgt := 109) (by decide) (fun c102 => ?_) (fun c102 => ?_)
            · replace e := x_ift c102 e
              refine r_iconst DX8_filledByBoth_109 (v := 0) (by decide) ?_
              refine r_istore (L' := [some (.ref (xa g 44)), none, some (.int v2), some (.int v3), some (.int v4), some (.int v5), some (.int v6), some (.int v7), some (.int (v2 - v7)), some (.int v6), some (.int 0)]) DX8_filledByBoth_110 (by decide) rfl rfl ?_
              refine r_iload DX8_filledByBoth_112 rfl ?_
              refine r_iload DX8_filledByBoth_114 rfl ?_
              refine r_if_eq DX8_filledByBoth_116 (tgt := 160) (by decide) (fun _ => ?_) (fun c => absurd (by decide) c)
              refine r_iconst DX8_filledByBoth_160 (v := 0) (by decide) ?_
              refine r_iadd DX8_filledByBoth_161 ?_
              refine r_istore (L' := [some (.ref (xa g 44)), none, some (.int v2), some (.int v3), some (.int v4), some (.int (v5 + 0)), some (.int v6), some (.int v7), some (.int (v2 - v7)), some (.int v6), some (.int 0)]) DX8_filledByBoth_162 (by decide) rfl rfl ?_
              refine r_iinc (L' := [some (.ref (xa g 44)), none, some (.int v2), some (.int v3), some (.int v4), some (.int (v5 + 0)), some (.int v6), some (.int (v7 + 1)), some (.int (v2 - v7)), some (.int v6), some (.int 0)]) DX8_filledByBoth_164 (x := v7) (v := (v7 + 1)) rfl rfl (by decide) rfl rfl ?_
              refine r_goto DX8_filledByBoth_167 (tgt := 47) (by decide) ?_
              refine r_mask (L' := [some (.ref (xa g 44)), none, some (.int v2), some (.int v3), some (.int v4), some (.int (v5 + 0)), some (.int v6), some (.int (v7 + 1)), none, none, none]) [true, false, true, true, true, true, true, true, false, false, false] rfl ?_
              exact ih _ _ _ e K0
            · replace e := x_iff c102 e
              refine r_iconst DX8_filledByBoth_105 (v := 1) (by decide) ?_
              refine r_goto DX8_filledByBoth_106 (tgt := 110) (by decide) ?_
              refine r_istore (L' := [some (.ref (xa g 44)), none, some (.int v2), some (.int v3), some (.int v4), some (.int v5), some (.int v6), some (.int v7), some (.int (v2 - v7)), some (.int v6), some (.int 1)]) DX8_filledByBoth_110 (by decide) rfl rfl ?_
              refine r_iload DX8_filledByBoth_112 rfl ?_
              refine r_iload DX8_filledByBoth_114 rfl ?_
              refine r_if_eq DX8_filledByBoth_116 (tgt := 160) (by decide) (fun c => absurd c (by decide)) (fun _ => ?_)
              refine r_iload_n DX8_filledByBoth_119 (i := 2) rfl rfl ?_
              refine r_iload DX8_filledByBoth_120 rfl ?_
              obtain ⟨q122, e122, e⟩ := x_bnd e
              refine r_callS1 (As := [.int v2, .int v6]) (S := [.int v5]) DX8_filledByBoth_122 C_X8_125 (by decide) (by decide) (Nat.le_of_ble_eq_true rfl) (t_X8_choose N v2 v6 e122) rfl ?_
              refine r_iload_n DX8_filledByBoth_125 (i := 2) rfl rfl ?_
              refine r_iload DX8_filledByBoth_126 rfl ?_
              obtain ⟨q128, e128, e⟩ := x_bnd e
              refine r_callS1 (As := [.int v2, .int v7]) (S := [.int q122, .int v5]) DX8_filledByBoth_128 C_X8_125 (by decide) (by decide) (Nat.le_of_ble_eq_true rfl) (t_X8_choose N v2 v7 e128) rfl ?_
              refine r_imul DX8_filledByBoth_131 ?_
              refine r_iload_n DX8_filledByBoth_132 (i := 3) rfl rfl ?_
              refine r_aload_n DX8_filledByBoth_133 (i := 0) rfl rfl ?_
              refine r_get (v := .int (gI b 2)) DX8_filledByBoth_134 F_X8_13 e_44 rfl ?_
              refine r_iload DX8_filledByBoth_137 rfl ?_
              refine r_isub DX8_filledByBoth_139 ?_
              obtain ⟨q140, e140, e⟩ := x_bnd e
              refine r_callS1 (As := [.int v3, .int ((gI b 2) - (v2 - v7))]) (S := [.int (q122 * q128), .int v5]) DX8_filledByBoth_140 C_X8_129 (by decide) (by decide) (Nat.le_of_ble_eq_true rfl) (t_X8_upTo N v3 ((gI b 2) - (v2 - v7)) e140) rfl ?_
              refine r_imul DX8_filledByBoth_143 ?_
              refine r_iload DX8_filledByBoth_144 rfl ?_
              refine r_aload_n DX8_filledByBoth_146 (i := 0) rfl rfl ?_
              refine r_get (v := .int (gI b 3)) DX8_filledByBoth_147 F_X8_91 e_44 rfl ?_
              refine r_iload DX8_filledByBoth_150 rfl ?_
              refine r_isub DX8_filledByBoth_152 ?_
              obtain ⟨q153, e153, e⟩ := x_bnd e
              refine r_callS1 (As := [.int v4, .int ((gI b 3) - v6)]) (S := [.int ((q122 * q128) * q140), .int v5]) DX8_filledByBoth_153 C_X8_129 (by decide) (by decide) (Nat.le_of_ble_eq_true rfl) (t_X8_upTo N v4 ((gI b 3) - v6) e153) rfl ?_
              refine r_imul DX8_filledByBoth_156 ?_
              refine r_goto DX8_filledByBoth_157 (tgt := 161) (by decide) ?_
              refine r_iadd DX8_filledByBoth_161 ?_
              refine r_istore (L' := [some (.ref (xa g 44)), none, some (.int v2), some (.int v3), some (.int v4), some (.int (v5 + (((q122 * q128) * q140) * q153))), some (.int v6), some (.int v7), some (.int (v2 - v7)), some (.int v6), some (.int 1)]) DX8_filledByBoth_162 (by decide) rfl rfl ?_
              refine r_iinc (L' := [some (.ref (xa g 44)), none, some (.int v2), some (.int v3), some (.int v4), some (.int (v5 + (((q122 * q128) * q140) * q153))), some (.int v6), some (.int (v7 + 1)), some (.int (v2 - v7)), some (.int v6), some (.int 1)]) DX8_filledByBoth_164 (x := v7) (v := (v7 + 1)) rfl rfl (by decide) rfl rfl ?_
              refine r_goto DX8_filledByBoth_167 (tgt := 47) (by decide) ?_
              refine r_mask (L' := [some (.ref (xa g 44)), none, some (.int v2), some (.int v3), some (.int v4), some (.int (v5 + (((q122 * q128) * q140) * q153))), some (.int v6), some (.int (v7 + 1)), none, none, none]) [true, false, true, true, true, true, true, true, false, false, false] rfl ?_
              exact ih _ _ _ e K0
      · replace e := x_iff c58 e
        refine r_iload DX8_filledByBoth_61 rfl ?_
        refine r_goto DX8_filledByBoth_63 (tgt := 68) (by decide) ?_
        refine r_isub DX8_filledByBoth_68 ?_
        refine r_istore (L' := [some (.ref (xa g 44)), none, some (.int v2), some (.int v3), some (.int v4), some (.int v5), some (.int v6), some (.int v7), some (.int (v2 - v6)), none, none]) DX8_filledByBoth_69 (by decide) rfl rfl ?_
        refine r_iload DX8_filledByBoth_71 rfl ?_
        refine r_iload DX8_filledByBoth_73 rfl ?_
        refine r_icmp_le DX8_filledByBoth_75 (tgt := 83) (by decide) (fun c75 => ?_) (fun c75 => ?_)
        · replace e := x_ift c75 e
          refine r_iload DX8_filledByBoth_83 rfl ?_
          refine r_istore (L' := [some (.ref (xa g 44)), none, some (.int v2), some (.int v3), some (.int v4), some (.int v5), some (.int v6), some (.int v7), some (.int (v2 - v6)), some (.int v7), none]) DX8_filledByBoth_85 (by decide) rfl rfl ?_
          refine r_iload DX8_filledByBoth_87 rfl ?_
          refine r_aload_n DX8_filledByBoth_89 (i := 0) rfl rfl ?_
          refine r_get (v := .int (gI b 2)) DX8_filledByBoth_90 F_X8_13 e_44 rfl ?_
          refine r_icmp_gt DX8_filledByBoth_93 (tgt := 109) (by decide) (fun c93 => ?_) (fun c93 => ?_)
          · replace e := x_ift c93 e
            refine r_iconst DX8_filledByBoth_109 (v := 0) (by decide) ?_
            refine r_istore (L' := [some (.ref (xa g 44)), none, some (.int v2), some (.int v3), some (.int v4), some (.int v5), some (.int v6), some (.int v7), some (.int (v2 - v6)), some (.int v7), some (.int 0)]) DX8_filledByBoth_110 (by decide) rfl rfl ?_
            refine r_iload DX8_filledByBoth_112 rfl ?_
            refine r_iload DX8_filledByBoth_114 rfl ?_
            refine r_if_eq DX8_filledByBoth_116 (tgt := 160) (by decide) (fun _ => ?_) (fun c => absurd (by decide) c)
            refine r_iconst DX8_filledByBoth_160 (v := 0) (by decide) ?_
            refine r_iadd DX8_filledByBoth_161 ?_
            refine r_istore (L' := [some (.ref (xa g 44)), none, some (.int v2), some (.int v3), some (.int v4), some (.int (v5 + 0)), some (.int v6), some (.int v7), some (.int (v2 - v6)), some (.int v7), some (.int 0)]) DX8_filledByBoth_162 (by decide) rfl rfl ?_
            refine r_iinc (L' := [some (.ref (xa g 44)), none, some (.int v2), some (.int v3), some (.int v4), some (.int (v5 + 0)), some (.int v6), some (.int (v7 + 1)), some (.int (v2 - v6)), some (.int v7), some (.int 0)]) DX8_filledByBoth_164 (x := v7) (v := (v7 + 1)) rfl rfl (by decide) rfl rfl ?_
            refine r_goto DX8_filledByBoth_167 (tgt := 47) (by decide) ?_
            refine r_mask (L' := [some (.ref (xa g 44)), none, some (.int v2), some (.int v3), some (.int v4), some (.int (v5 + 0)), some (.int v6), some (.int (v7 + 1)), none, none, none]) [true, false, true, true, true, true, true, true, false, false, false] rfl ?_
            exact ih _ _ _ e K0
          · replace e := x_iff c93 e
            refine r_iload DX8_filledByBoth_96 rfl ?_
            refine r_aload_n DX8_filledByBoth_98 (i := 0) rfl rfl ?_
            refine r_get (v := .int (gI b 3)) DX8_filledByBoth_99 F_X8_91 e_44 rfl ?_
            refine r_icmp_gt DX8_filledByBoth_102 (tgt := 109) (by decide) (fun c102 => ?_) (fun c102 => ?_)
            · replace e := x_ift c102 e
              refine r_iconst DX8_filledByBoth_109 (v := 0) (by decide) ?_
              refine r_istore (L' := [some (.ref (xa g 44)), none, some (.int v2), some (.int v3), some (.int v4), some (.int v5), some (.int v6), some (.int v7), some (.int (v2 - v6)), some (.int v7), some (.int 0)]) DX8_filledByBoth_110 (by decide) rfl rfl ?_
              refine r_iload DX8_filledByBoth_112 rfl ?_
              refine r_iload DX8_filledByBoth_114 rfl ?_
              refine r_if_eq DX8_filledByBoth_116 (tgt := 160) (by decide) (fun _ => ?_) (fun c => absurd (by decide) c)
              refine r_iconst DX8_filledByBoth_160 (v := 0) (by decide) ?_
              refine r_iadd DX8_filledByBoth_161 ?_
              refine r_istore (L' := [some (.ref (xa g 44)), none, some (.int v2), some (.int v3), some (.int v4), some (.int (v5 + 0)), some (.int v6), some (.int v7), some (.int (v2 - v6)), some (.int v7), some (.int 0)]) DX8_filledByBoth_162 (by decide) rfl rfl ?_
              refine r_iinc (L' := [some (.ref (xa g 44)), none, some (.int v2), some (.int v3), some (.int v4), some (.int (v5 + 0)), some (.int v6), some (.int (v7 + 1)), some (.int (v2 - v6)), some (.int v7), some (.int 0)]) DX8_filledByBoth_164 (x := v7) (v := (v7 + 1)) rfl rfl (by decide) rfl rfl ?_
              refine r_goto DX8_filledByBoth_167 (tgt := 47) (by decide) ?_
              refine r_mask (L' := [some (.ref (xa g 44)), none, some (.int v2), some (.int v3), some (.int v4), some (.int (v5 + 0)), some (.int v6), some (.int (v7 + 1)), none, none, none]) [true, false, true, true, true, true, true, true, false, false, false] rfl ?_
              exact ih _ _ _ e K0
            · replace e := x_iff c102 e
              refine r_iconst DX8_filledByBoth_105 (v := 1) (by decide) ?_
              refine r_goto DX8_filledByBoth_106 (tgt := 110) (by decide) ?_
              refine r_istore (L' := [some (.ref (xa g 44)), none, some (.int v2), some (.int v3), some (.int v4), some (.int v5), some (.int v6), some (.int v7), some (.int (v2 - v6)), some (.int v7), some (.int 1)]) DX8_filledByBoth_110 (by decide) rfl rfl ?_
              refine r_iload DX8_filledByBoth_112 rfl ?_
              refine r_iload DX8_filledByBoth_114 rfl ?_
              refine r_if_eq DX8_filledByBoth_116 (tgt := 160) (by decide) (fun c => absurd c (by decide)) (fun _ => ?_)
              refine r_iload_n DX8_filledByBoth_119 (i := 2) rfl rfl ?_
              refine r_iload DX8_filledByBoth_120 rfl ?_
              obtain ⟨q122, e122, e⟩ := x_bnd e
              refine r_callS1 (As := [.int v2, .int v6]) (S := [.int v5]) DX8_filledByBoth_122 C_X8_125 (by decide) (by decide) (Nat.le_of_ble_eq_true rfl) (t_X8_choose N v2 v6 e122) rfl ?_
              refine r_iload_n DX8_filledByBoth_125 (i := 2) rfl rfl ?_
              refine r_iload DX8_filledByBoth_126 rfl ?_
              obtain ⟨q128, e128, e⟩ := x_bnd e
              refine r_callS1 (As := [.int v2, .int v7]) (S := [.int q122, .int v5]) DX8_filledByBoth_128 C_X8_125 (by decide) (by decide) (Nat.le_of_ble_eq_true rfl) (t_X8_choose N v2 v7 e128) rfl ?_
              refine r_imul DX8_filledByBoth_131 ?_
              refine r_iload_n DX8_filledByBoth_132 (i := 3) rfl rfl ?_
              refine r_aload_n DX8_filledByBoth_133 (i := 0) rfl rfl ?_
              refine r_get (v := .int (gI b 2)) DX8_filledByBoth_134 F_X8_13 e_44 rfl ?_
              refine r_iload DX8_filledByBoth_137 rfl ?_
              refine r_isub DX8_filledByBoth_139 ?_
              obtain ⟨q140, e140, e⟩ := x_bnd e
              refine r_callS1 (As := [.int v3, .int ((gI b 2) - (v2 - v6))]) (S := [.int (q122 * q128), .int v5]) DX8_filledByBoth_140 C_X8_129 (by decide) (by decide) (Nat.le_of_ble_eq_true rfl) (t_X8_upTo N v3 ((gI b 2) - (v2 - v6)) e140) rfl ?_
              refine r_imul DX8_filledByBoth_143 ?_
              refine r_iload DX8_filledByBoth_144 rfl ?_
              refine r_aload_n DX8_filledByBoth_146 (i := 0) rfl rfl ?_
              refine r_get (v := .int (gI b 3)) DX8_filledByBoth_147 F_X8_91 e_44 rfl ?_
              refine r_iload DX8_filledByBoth_150 rfl ?_
              refine r_isub DX8_filledByBoth_152 ?_
              obtain ⟨q153, e153, e⟩ := x_bnd e
              refine r_callS1 (As := [.int v4, .int ((gI b 3) - v7)]) (S := [.int ((q122 * q128) * q140), .int v5]) DX8_filledByBoth_153 C_X8_129 (by decide) (by decide) (Nat.le_of_ble_eq_true rfl) (t_X8_upTo N v4 ((gI b 3) - v7) e153) rfl ?_
              refine r_imul DX8_filledByBoth_156 ?_
              refine r_goto DX8_filledByBoth_157 (tgt := 161) (by decide) ?_
              refine r_iadd DX8_filledByBoth_161 ?_
              refine r_istore (L' := [some (.ref (xa g 44)), none, some (.int v2), some (.int v3), some (.int v4), some (.int (v5 + (((q122 * q128) * q140) * q153))), some (.int v6), some (.int v7), some (.int (v2 - v6)), some (.int v7), some (.int 1)]) DX8_filledByBoth_162 (by decide) rfl rfl ?_
              refine r_iinc (L' := [some (.ref (xa g 44)), none, some (.int v2), some (.int v3), some (.int v4), some (.int (v5 + (((q122 * q128) * q140) * q153))), some (.int v6), some (.int (v7 + 1)), some (.int (v2 - v6)), some (.int v7), some (.int 1)]) DX8_filledByBoth_164 (x := v7) (v := (v7 + 1)) rfl rfl (by decide) rfl rfl ?_
              refine r_goto DX8_filledByBoth_167 (tgt := 47) (by decide) ?_
              refine r_mask (L' := [some (.ref (xa g 44)), none, some (.int v2), some (.int v3), some (.int v4), some (.int (v5 + (((q122 * q128) * q140) * q153))), some (.int v6), some (.int (v7 + 1)), none, none, none]) [true, false, true, true, true, true, true, true, false, false, false] rfl ?_
              exact ih _ _ _ e K0
        · replace e := x_iff c75 e
          refine r_iload DX8_filledByBoth_78 rfl ?_
          refine r_goto DX8_filledByBoth_80 (tgt := 85) (by decide) ?_
          refine r_istore (L' := [some (.ref (xa g 44)), none, some (.int v2), some (.int v3), some (.int v4), some (.int v5), some (.int v6), some (.int v7), some (.int (v2 - v6)), some (.int v6), none]) DX8_filledByBoth_85 (by decide) rfl rfl ?_
          refine r_iload DX8_filledByBoth_87 rfl ?_
          refine r_aload_n DX8_filledByBoth_89 (i := 0) rfl rfl ?_
          refine r_get (v := .int (gI b 2)) DX8_filledByBoth_90 F_X8_13 e_44 rfl ?_
          refine r_icmp_gt DX8_filledByBoth_93 (tgt := 109) (by decide) (fun c93 => ?_) (fun c93 => ?_)
          · replace e := x_ift c93 e
            refine r_iconst DX8_filledByBoth_109 (v := 0) (by decide) ?_
            refine r_istore (L' := [some (.ref (xa g 44)), none, some (.int v2), some (.int v3), some (.int v4), some (.int v5), some (.int v6), some (.int v7), some (.int (v2 - v6)), some (.int v6), some (.int 0)]) DX8_filledByBoth_110 (by decide) rfl rfl ?_
            refine r_iload DX8_filledByBoth_112 rfl ?_
            refine r_iload DX8_filledByBoth_114 rfl ?_
            refine r_if_eq DX8_filledByBoth_116 (tgt := 160) (by decide) (fun _ => ?_) (fun c => absurd (by decide) c)
            refine r_iconst DX8_filledByBoth_160 (v := 0) (by decide) ?_
            refine r_iadd DX8_filledByBoth_161 ?_
            refine r_istore (L' := [some (.ref (xa g 44)), none, some (.int v2), some (.int v3), some (.int v4), some (.int (v5 + 0)), some (.int v6), some (.int v7), some (.int (v2 - v6)), some (.int v6), some (.int 0)]) DX8_filledByBoth_162 (by decide) rfl rfl ?_
            refine r_iinc (L' := [some (.ref (xa g 44)), none, some (.int v2), some (.int v3), some (.int v4), some (.int (v5 + 0)), some (.int v6), some (.int (v7 + 1)), some (.int (v2 - v6)), some (.int v6), some (.int 0)]) DX8_filledByBoth_164 (x := v7) (v := (v7 + 1)) rfl rfl (by decide) rfl rfl ?_
            refine r_goto DX8_filledByBoth_167 (tgt := 47) (by decide) ?_
            refine r_mask (L' := [some (.ref (xa g 44)), none, some (.int v2), some (.int v3), some (.int v4), some (.int (v5 + 0)), some (.int v6), some (.int (v7 + 1)), none, none, none]) [true, false, true, true, true, true, true, true, false, false, false] rfl ?_
            exact ih _ _ _ e K0
          · replace e := x_iff c93 e
            refine r_iload DX8_filledByBoth_96 rfl ?_
            refine r_aload_n DX8_filledByBoth_98 (i := 0) rfl rfl ?_
            refine r_get (v := .int (gI b 3)) DX8_filledByBoth_99 F_X8_91 e_44 rfl ?_
            refine r_icmp_gt DX8_filledByBoth_102 (tgt := 109) (by decide) (fun c102 => ?_) (fun c102 => ?_)
            · replace e := x_ift c102 e
              refine r_iconst DX8_filledByBoth_109 (v := 0) (by decide) ?_
              refine r_istore (L' := [some (.ref (xa g 44)), none, some (.int v2), some (.int v3), some (.int v4), some (.int v5), some (.int v6), some (.int v7), some (.int (v2 - v6)), some (.int v6), some (.int 0)]) DX8_filledByBoth_110 (by decide) rfl rfl ?_
              refine r_iload DX8_filledByBoth_112 rfl ?_
              refine r_iload DX8_filledByBoth_114 rfl ?_
              refine r_if_eq DX8_filledByBoth_116 (tgt := 160) (by decide) (fun _ => ?_) (fun c => absurd (by decide) c)
              refine r_iconst DX8_filledByBoth_160 (v := 0) (by decide) ?_
              refine r_iadd DX8_filledByBoth_161 ?_
              refine r_istore (L' := [some (.ref (xa g 44)), none, some (.int v2), some (.int v3), some (.int v4), some (.int (v5 + 0)), some (.int v6), some (.int v7), some (.int (v2 - v6)), some (.int v6), some (.int 0)]) DX8_filledByBoth_162 (by decide) rfl rfl ?_
              refine r_iinc (L' := [some (.ref (xa g 44)), none, some (.int v2), some (.int v3), some (.int v4), some (.int (v5 + 0)), some (.int v6), some (.int (v7 + 1)), some (.int (v2 - v6)), some (.int v6), some (.int 0)]) DX8_filledByBoth_164 (x := v7) (v := (v7 + 1)) rfl rfl (by decide) rfl rfl ?_
              refine r_goto DX8_filledByBoth_167 (tgt := 47) (by decide) ?_
              refine r_mask (L' := [some (.ref (xa g 44)), none, some (.int v2), some (.int v3), some (.int v4), some (.int (v5 + 0)), some (.int v6), some (.int (v7 + 1)), none, none, none]) [true, false, true, true, true, true, true, true, false, false, false] rfl ?_
              exact ih _ _ _ e K0
            · replace e := x_iff c102 e
              refine r_iconst DX8_filledByBoth_105 (v := 1) (by decide) ?_
              refine r_goto DX8_filledByBoth_106 (tgt := 110) (by decide) ?_
              refine r_istore (L' := [some (.ref (xa g 44)), none, some (.int v2), some (.int v3), some (.int v4), some (.int v5), some (.int v6), some (.int v7), some (.int (v2 - v6)), some (.int v6), some (.int 1)]) DX8_filledByBoth_110 (by decide) rfl rfl ?_
              refine r_iload DX8_filledByBoth_112 rfl ?_
              refine r_iload DX8_filledByBoth_114 rfl ?_
              refine r_if_eq DX8_filledByBoth_116 (tgt := 160) (by decide) (fun c => absurd c (by decide)) (fun _ => ?_)
              refine r_iload_n DX8_filledByBoth_119 (i := 2) rfl rfl ?_
              refine r_iload DX8_filledByBoth_120 rfl ?_
              obtain ⟨q122, e122, e⟩ := x_bnd e
              refine r_callS1 (As := [.int v2, .int v6]) (S := [.int v5]) DX8_filledByBoth_122 C_X8_125 (by decide) (by decide) (Nat.le_of_ble_eq_true rfl) (t_X8_choose N v2 v6 e122) rfl ?_
              refine r_iload_n DX8_filledByBoth_125 (i := 2) rfl rfl ?_
              refine r_iload DX8_filledByBoth_126 rfl ?_
              obtain ⟨q128, e128, e⟩ := x_bnd e
              refine r_callS1 (As := [.int v2, .int v7]) (S := [.int q122, .int v5]) DX8_filledByBoth_128 C_X8_125 (by decide) (by decide) (Nat.le_of_ble_eq_true rfl) (t_X8_choose N v2 v7 e128) rfl ?_
              refine r_imul DX8_filledByBoth_131 ?_
              refine r_iload_n DX8_filledByBoth_132 (i := 3) rfl rfl ?_
              refine r_aload_n DX8_filledByBoth_133 (i := 0) rfl rfl ?_
              refine r_get (v := .int (gI b 2)) DX8_filledByBoth_134 F_X8_13 e_44 rfl ?_
              refine r_iload DX8_filledByBoth_137 rfl ?_
              refine r_isub DX8_filledByBoth_139 ?_
              obtain ⟨q140, e140, e⟩ := x_bnd e
              refine r_callS1 (As := [.int v3, .int ((gI b 2) - (v2 - v6))]) (S := [.int (q122 * q128), .int v5]) DX8_filledByBoth_140 C_X8_129 (by decide) (by decide) (Nat.le_of_ble_eq_true rfl) (t_X8_upTo N v3 ((gI b 2) - (v2 - v6)) e140) rfl ?_
              refine r_imul DX8_filledByBoth_143 ?_
              refine r_iload DX8_filledByBoth_144 rfl ?_
              refine r_aload_n DX8_filledByBoth_146 (i := 0) rfl rfl ?_
              refine r_get (v := .int (gI b 3)) DX8_filledByBoth_147 F_X8_91 e_44 rfl ?_
              refine r_iload DX8_filledByBoth_150 rfl ?_
              refine r_isub DX8_filledByBoth_152 ?_
              obtain ⟨q153, e153, e⟩ := x_bnd e
              refine r_callS1 (As := [.int v4, .int ((gI b 3) - v6)]) (S := [.int ((q122 * q128) * q140), .int v5]) DX8_filledByBoth_153 C_X8_129 (by decide) (by decide) (Nat.le_of_ble_eq_true rfl) (t_X8_upTo N v4 ((gI b 3) - v6) e153) rfl ?_
              refine r_imul DX8_filledByBoth_156 ?_
              refine r_goto DX8_filledByBoth_157 (tgt := 161) (by decide) ?_
              refine r_iadd DX8_filledByBoth_161 ?_
              refine r_istore (L' := [some (.ref (xa g 44)), none, some (.int v2), some (.int v3), some (.int v4), some (.int (v5 + (((q122 * q128) * q140) * q153))), some (.int v6), some (.int v7), some (.int (v2 - v6)), some (.int v6), some (.int 1)]) DX8_filledByBoth_162 (by decide) rfl rfl ?_
              refine r_iinc (L' := [some (.ref (xa g 44)), none, some (.int v2), some (.int v3), some (.int v4), some (.int (v5 + (((q122 * q128) * q140) * q153))), some (.int v6), some (.int (v7 + 1)), some (.int (v2 - v6)), some (.int v6), some (.int 1)]) DX8_filledByBoth_164 (x := v7) (v := (v7 + 1)) rfl rfl (by decide) rfl rfl ?_
              refine r_goto DX8_filledByBoth_167 (tgt := 47) (by decide) ?_
              refine r_mask (L' := [some (.ref (xa g 44)), none, some (.int v2), some (.int v3), some (.int v4), some (.int (v5 + (((q122 * q128) * q140) * q153))), some (.int v6), some (.int (v7 + 1)), none, none, none]) [true, false, true, true, true, true, true, true, false, false, false] rfl ?_
              exact ih _ _ _ e K0

set_option maxRecDepth 100000 in
set_option maxHeartbeats 4000000 in
theorem lp_X8_filledByBoth_L38 {l : Launch} {g : xG} {a : xT} {R : Option Value × xS} (N : Nat) (v2 : Int32) (v3 : Int32) (v4 : Int32) (b : xT) : ∀ (n : Nat) (v5 : Int32) (v6 : Int32) (r : (Int32)), f_X8_filledByBoth_L38 N v2 v3 v4 b n v5 v6 = some r → Rx l g 2 M_X8_filledByBoth 176 [none, none, none, none, none, some (.int r), none, none, none, none, none] [] (a, b) R → Rx l g 2 M_X8_filledByBoth 38 [some (.ref (xa g 44)), none, some (.int v2), some (.int v3), some (.int v4), some (.int v5), some (.int v6), none, none, none, none] [] (a, b) R := by
  intro n
  induction n with
  | zero => intro v5_ v6_ r_ e; cases e
  | succ n ih =>
    intro v5 v6 r e K0
    rw [f_X8_filledByBoth_L38] at e
    refine r_iload DX8_filledByBoth_38 rfl ?_
    refine r_iload_n DX8_filledByBoth_40 (i := 2) rfl rfl ?_
    refine r_icmp_gt DX8_filledByBoth_41 (tgt := 176) (by decide) (fun c41 => ?_) (fun c41 => ?_)
    · replace e := x_ift c41 e
      obtain rfl := Option.some.inj e
      refine r_mask (L' := [none, none, none, none, none, some (.int v5), none, none, none, none, none]) [false, false, false, false, false, true, false, false, false, false, false] rfl ?_
      exact K0
    · replace e := x_iff c41 e
      refine r_iconst DX8_filledByBoth_44 (v := 0) (by decide) ?_
      refine r_istore (L' := [some (.ref (xa g 44)), none, some (.int v2), some (.int v3), some (.int v4), some (.int v5), some (.int v6), some (.int 0), none, none, none]) DX8_filledByBoth_45 (by decide) rfl rfl ?_
      obtain ⟨q47, e47, e⟩ := x_bnd e
      refine lp_X8_filledByBoth_L47 N v2 v3 v4 v6 b N v5 0 q47 e47 ?_
      refine r_iinc (L' := [some (.ref (xa g 44)), none, some (.int v2), some (.int v3), some (.int v4), some (.int q47), some (.int (v6 + 1)), none, none, none, none]) DX8_filledByBoth_170 (x := v6) (v := (v6 + 1)) rfl rfl (by decide) rfl rfl ?_
      refine r_goto DX8_filledByBoth_173 (tgt := 38) (by decide) ?_
      exact ih _ _ _ e K0

set_option maxRecDepth 100000 in
set_option maxHeartbeats 4000000 in
theorem t_X8_filledByBoth {l : Launch} {g : xG} {a : xT} (N : Nat) (v1 : Int32) (b : xT)  {r : Int32} (e : f_X8_filledByBoth N v1 b = some r) : Ev l g 2 yX8_filledByBoth M_X8_filledByBoth [.ref (xa g 44), .int v1] (a, b) (some (.int r), (a, b)) := by
  unfold f_X8_filledByBoth at e
  refine Ev.of 9 (L0 := [some (.ref (xa g 44)), some (.int v1), none, none, none, none, none, none, none, none, none]) (by decide) rfl (Nat.le_of_ble_eq_true rfl) rfl ?_
  refine r_iload_n DX8_filledByBoth_0 (i := 1) rfl rfl ?_
  refine r_aload_n DX8_filledByBoth_1 (i := 0) rfl rfl ?_
  refine r_iload_n DX8_filledByBoth_2 (i := 1) rfl rfl ?_
  obtain ⟨q3, e3, e⟩ := x_bnd e
  refine r_callV1 (As := [.int v1]) (S := [.int v1]) DX8_filledByBoth_3 C_X8_97 (ci := 8) rfl rfl e_44 (by decide) (by decide) (Nat.le_of_ble_eq_true rfl) (t_X8_turnedOf N v1 b e3) rfl ?_
  refine r_iconst DX8_filledByBoth_6 (v := (-1)) (by decide) ?_
  refine r_ixor DX8_filledByBoth_7 ?_
  refine r_iand DX8_filledByBoth_8 ?_
  obtain ⟨q9, e9, e⟩ := x_bnd e
  refine r_callS1 (As := [.int (v1 &&& (q3 ^^^ (-1)))]) (S := []) DX8_filledByBoth_9 C_X8_101 (by decide) (by decide) (Nat.le_of_ble_eq_true rfl) (t_X8_bits N (v1 &&& (q3 ^^^ (-1))) e9) rfl ?_
  refine r_istore_n (L' := [some (.ref (xa g 44)), some (.int v1), some (.int q9), none, none, none, none, none, none, none, none]) DX8_filledByBoth_12 (i := 2) rfl (by decide) rfl rfl ?_
  refine r_iload_n DX8_filledByBoth_13 (i := 1) rfl rfl ?_
  obtain ⟨q14, e14, e⟩ := x_bnd e
  refine r_callS1 (As := [.int v1]) (S := []) DX8_filledByBoth_14 C_X8_101 (by decide) (by decide) (Nat.le_of_ble_eq_true rfl) (t_X8_bits N v1 e14) rfl ?_
  refine r_iload_n DX8_filledByBoth_17 (i := 2) rfl rfl ?_
  refine r_isub DX8_filledByBoth_18 ?_
  refine r_istore_n (L' := [some (.ref (xa g 44)), some (.int v1), some (.int q9), some (.int (q14 - q9)), none, none, none, none, none, none, none]) DX8_filledByBoth_19 (i := 3) rfl (by decide) rfl rfl ?_
  refine r_aload_n DX8_filledByBoth_20 (i := 0) rfl rfl ?_
  refine r_get (v := .int (gI b 0)) DX8_filledByBoth_21 F_X8_7 e_44 rfl ?_
  refine r_iload_n DX8_filledByBoth_24 (i := 3) rfl rfl ?_
  refine r_isub DX8_filledByBoth_25 ?_
  refine r_iconst DX8_filledByBoth_26 (v := 2) (by decide) ?_
  refine r_iload_n DX8_filledByBoth_27 (i := 2) rfl rfl ?_
  refine r_imul DX8_filledByBoth_28 ?_
  refine r_isub DX8_filledByBoth_29 ?_
  refine r_istore (L' := [some (.ref (xa g 44)), some (.int v1), some (.int q9), some (.int (q14 - q9)), some (.int (((gI b 0) - (q14 - q9)) - (2 * q9))), none, none, none, none, none, none]) DX8_filledByBoth_30 (by decide) rfl rfl ?_
  refine r_iconst DX8_filledByBoth_32 (v := 0) (by decide) ?_
  refine r_istore (L' := [some (.ref (xa g 44)), some (.int v1), some (.int q9), some (.int (q14 - q9)), some (.int (((gI b 0) - (q14 - q9)) - (2 * q9))), some (.int 0), none, none, none, none, none]) DX8_filledByBoth_33 (by decide) rfl rfl ?_
  refine r_iconst DX8_filledByBoth_35 (v := 0) (by decide) ?_
  refine r_istore (L' := [some (.ref (xa g 44)), some (.int v1), some (.int q9), some (.int (q14 - q9)), some (.int (((gI b 0) - (q14 - q9)) - (2 * q9))), some (.int 0), some (.int 0), none, none, none, none]) DX8_filledByBoth_36 (by decide) rfl rfl ?_
  obtain ⟨q38, e38, e⟩ := x_bnd e
  refine r_mask (L' := [some (.ref (xa g 44)), none, some (.int q9), some (.int (q14 - q9)), some (.int (((gI b 0) - (q14 - q9)) - (2 * q9))), some (.int 0), some (.int 0), none, none, none, none]) [true, false, true, true, true, true, true, false, false, false, false] rfl ?_
  refine lp_X8_filledByBoth_L38 N q9 (q14 - q9) (((gI b 0) - (q14 - q9)) - (2 * q9)) b N 0 0 q38 e38 ?_
  refine r_iload DX8_filledByBoth_176 rfl ?_
  obtain rfl := Option.some.inj e
  exact r_iret DX8_filledByBoth_178 rfl rfl

set_option maxRecDepth 100000 in
set_option maxHeartbeats 4000000 in
theorem t_X8_filledBy {l : Launch} {g : xG} {a : xT} (N : Nat) (v1 : Int32) (b : xT)  {r : Int32} (e : f_X8_filledBy N v1 b = some r) : Ev l g 3 yX8_filledBy M_X8_filledBy [.ref (xa g 44), .int v1] (a, b) (some (.int r), (a, b)) := by
  unfold f_X8_filledBy at e
  refine Ev.of 2 (L0 := [some (.ref (xa g 44)), some (.int v1), none, none]) (by decide) rfl (Nat.le_of_ble_eq_true rfl) rfl ?_
  refine r_iload_n DX8_filledBy_0 (i := 1) rfl rfl ?_
  obtain ⟨q1, e1, e⟩ := x_bnd e
  refine r_callS1 (As := [.int v1]) (S := []) DX8_filledBy_1 C_X8_101 (by decide) (by decide) (Nat.le_of_ble_eq_true rfl) (t_X8_bits N v1 e1) rfl ?_
  refine r_istore_n (L' := [some (.ref (xa g 44)), some (.int v1), some (.int q1), none]) DX8_filledBy_4 (i := 2) rfl (by decide) rfl rfl ?_
  refine r_aload_n DX8_filledBy_5 (i := 0) rfl rfl ?_
  refine r_get (v := .int (gI b 1)) DX8_filledBy_6 F_X8_88 e_44 rfl ?_
  refine r_if_ne DX8_filledBy_9 (tgt := 24) (by decide) (fun c9 => ?_) (fun c9 => ?_)
  · replace e := x_iff c9 e
    refine r_iload_n DX8_filledBy_24 (i := 2) rfl rfl ?_
    refine r_aload_n DX8_filledBy_25 (i := 0) rfl rfl ?_
    refine r_get (v := .int (gI b 2)) DX8_filledBy_26 F_X8_13 e_44 rfl ?_
    obtain ⟨q29, e29, e⟩ := x_bnd e
    refine r_callS1 (As := [.int q1, .int (gI b 2)]) (S := []) DX8_filledBy_29 C_X8_129 (by decide) (by decide) (Nat.le_of_ble_eq_true rfl) (t_X8_upTo N q1 (gI b 2) e29) rfl ?_
    refine r_aload_n DX8_filledBy_32 (i := 0) rfl rfl ?_
    refine r_get (v := .int (gI b 0)) DX8_filledBy_33 F_X8_7 e_44 rfl ?_
    refine r_iload_n DX8_filledBy_36 (i := 2) rfl rfl ?_
    refine r_isub DX8_filledBy_37 ?_
    refine r_aload_n DX8_filledBy_38 (i := 0) rfl rfl ?_
    refine r_get (v := .int (gI b 1)) DX8_filledBy_39 F_X8_88 e_44 rfl ?_
    refine r_iconst DX8_filledBy_42 (v := 2) (by decide) ?_
    refine r_icmp_ge DX8_filledBy_43 (tgt := 50) (by decide) (fun c43 => ?_) (fun c43 => ?_)
    · replace e := x_ift c43 e
      refine r_aload_n DX8_filledBy_50 (i := 0) rfl rfl ?_
      refine r_get (v := .int (gI b 3)) DX8_filledBy_51 F_X8_91 e_44 rfl ?_
      obtain ⟨q54, e54, e⟩ := x_bnd e
      refine r_callS1 (As := [.int ((gI b 0) - q1), .int (gI b 3)]) (S := [.int q29]) DX8_filledBy_54 C_X8_129 (by decide) (by decide) (Nat.le_of_ble_eq_true rfl) (t_X8_upTo N ((gI b 0) - q1) (gI b 3) e54) rfl ?_
      refine r_imul DX8_filledBy_57 ?_
      refine r_istore_n (L' := [some (.ref (xa g 44)), some (.int v1), some (.int q1), some (.int (q29 * q54))]) DX8_filledBy_58 (i := 3) rfl (by decide) rfl rfl ?_
      refine r_aload_n DX8_filledBy_59 (i := 0) rfl rfl ?_
      refine r_get (v := .int (gI b 1)) DX8_filledBy_60 F_X8_88 e_44 rfl ?_
      refine r_iconst DX8_filledBy_63 (v := 3) (by decide) ?_
      refine r_icmp_lt DX8_filledBy_64 (tgt := 76) (by decide) (fun c64 => ?_) (fun c64 => ?_)
      · replace e := x_ift c64 e
        refine r_iload_n DX8_filledBy_76 (i := 3) rfl rfl ?_
        refine r_goto DX8_filledBy_77 (tgt := 89) (by decide) ?_
        obtain rfl := Option.some.inj e
        exact r_iret DX8_filledBy_89 rfl rfl
      · replace e := x_iff c64 e
        refine r_aload_n DX8_filledBy_67 (i := 0) rfl rfl ?_
        refine r_iload_n DX8_filledBy_68 (i := 1) rfl rfl ?_
        obtain ⟨q69, e69, e⟩ := x_bnd e
        refine r_callV1 (As := [.int v1]) (S := []) DX8_filledBy_69 C_X8_97 (ci := 8) rfl rfl e_44 (by decide) (by decide) (Nat.le_of_ble_eq_true rfl) (t_X8_turnedOf N v1 b e69) rfl ?_
        refine r_iload_n DX8_filledBy_72 (i := 1) rfl rfl ?_
        refine r_icmp_ne DX8_filledBy_73 (tgt := 80) (by decide) (fun c73 => ?_) (fun c73 => ?_)
        · replace e := x_iff c73 e
          refine r_iconst DX8_filledBy_80 (v := 2) (by decide) ?_
          refine r_iload_n DX8_filledBy_81 (i := 3) rfl rfl ?_
          refine r_imul DX8_filledBy_82 ?_
          refine r_aload_n DX8_filledBy_83 (i := 0) rfl rfl ?_
          refine r_iload_n DX8_filledBy_84 (i := 1) rfl rfl ?_
          obtain ⟨q85, e85, e⟩ := x_bnd e
          refine r_callV1 (As := [.int v1]) (S := [.int (2 * (q29 * q54))]) DX8_filledBy_85 C_X8_132 (ci := 8) rfl rfl e_44 (by decide) (by decide) (Nat.le_of_ble_eq_true rfl) (t_X8_filledByBoth N v1 b e85) rfl ?_
          refine r_isub DX8_filledBy_88 ?_
          obtain rfl := Option.some.inj e
          exact r_iret DX8_filledBy_89 rfl rfl
        · replace e := x_ift c73 e
          refine r_iload_n DX8_filledBy_76 (i := 3) rfl rfl ?_
          refine r_goto DX8_filledBy_77 (tgt := 89) (by decide) ?_
          obtain rfl := Option.some.inj e
          exact r_iret DX8_filledBy_89 rfl rfl
    · replace e := x_iff c43 e
      refine r_iconst DX8_filledBy_46 (v := 0) (by decide) ?_
      refine r_goto DX8_filledBy_47 (tgt := 54) (by decide) ?_
      obtain ⟨q54, e54, e⟩ := x_bnd e
      refine r_callS1 (As := [.int ((gI b 0) - q1), .int 0]) (S := [.int q29]) DX8_filledBy_54 C_X8_129 (by decide) (by decide) (Nat.le_of_ble_eq_true rfl) (t_X8_upTo N ((gI b 0) - q1) 0 e54) rfl ?_
      refine r_imul DX8_filledBy_57 ?_
      refine r_istore_n (L' := [some (.ref (xa g 44)), some (.int v1), some (.int q1), some (.int (q29 * q54))]) DX8_filledBy_58 (i := 3) rfl (by decide) rfl rfl ?_
      refine r_aload_n DX8_filledBy_59 (i := 0) rfl rfl ?_
      refine r_get (v := .int (gI b 1)) DX8_filledBy_60 F_X8_88 e_44 rfl ?_
      refine r_iconst DX8_filledBy_63 (v := 3) (by decide) ?_
      refine r_icmp_lt DX8_filledBy_64 (tgt := 76) (by decide) (fun c64 => ?_) (fun c64 => ?_)
      · replace e := x_ift c64 e
        refine r_iload_n DX8_filledBy_76 (i := 3) rfl rfl ?_
        refine r_goto DX8_filledBy_77 (tgt := 89) (by decide) ?_
        obtain rfl := Option.some.inj e
        exact r_iret DX8_filledBy_89 rfl rfl
      · replace e := x_iff c64 e
        refine r_aload_n DX8_filledBy_67 (i := 0) rfl rfl ?_
        refine r_iload_n DX8_filledBy_68 (i := 1) rfl rfl ?_
        obtain ⟨q69, e69, e⟩ := x_bnd e
        refine r_callV1 (As := [.int v1]) (S := []) DX8_filledBy_69 C_X8_97 (ci := 8) rfl rfl e_44 (by decide) (by decide) (Nat.le_of_ble_eq_true rfl) (t_X8_turnedOf N v1 b e69) rfl ?_
        refine r_iload_n DX8_filledBy_72 (i := 1) rfl rfl ?_
        refine r_icmp_ne DX8_filledBy_73 (tgt := 80) (by decide) (fun c73 => ?_) (fun c73 => ?_)
        · replace e := x_iff c73 e
          refine r_iconst DX8_filledBy_80 (v := 2) (by decide) ?_
          refine r_iload_n DX8_filledBy_81 (i := 3) rfl rfl ?_
          refine r_imul DX8_filledBy_82 ?_
          refine r_aload_n DX8_filledBy_83 (i := 0) rfl rfl ?_
          refine r_iload_n DX8_filledBy_84 (i := 1) rfl rfl ?_
          obtain ⟨q85, e85, e⟩ := x_bnd e
          refine r_callV1 (As := [.int v1]) (S := [.int (2 * (q29 * q54))]) DX8_filledBy_85 C_X8_132 (ci := 8) rfl rfl e_44 (by decide) (by decide) (Nat.le_of_ble_eq_true rfl) (t_X8_filledByBoth N v1 b e85) rfl ?_
          refine r_isub DX8_filledBy_88 ?_
          obtain rfl := Option.some.inj e
          exact r_iret DX8_filledBy_89 rfl rfl
        · replace e := x_ift c73 e
          refine r_iload_n DX8_filledBy_76 (i := 3) rfl rfl ?_
          refine r_goto DX8_filledBy_77 (tgt := 89) (by decide) ?_
          obtain rfl := Option.some.inj e
          exact r_iret DX8_filledBy_89 rfl rfl
  · replace e := x_ift c9 e
    refine r_aload_n DX8_filledBy_12 (i := 0) rfl rfl ?_
    refine r_get (v := .int (gI b 0)) DX8_filledBy_13 F_X8_7 e_44 rfl ?_
    refine r_aload_n DX8_filledBy_16 (i := 0) rfl rfl ?_
    refine r_get (v := .int (gI b 2)) DX8_filledBy_17 F_X8_13 e_44 rfl ?_
    obtain ⟨q20, e20, e⟩ := x_bnd e
    refine r_callS1 (As := [.int (gI b 0), .int (gI b 2)]) (S := []) DX8_filledBy_20 C_X8_129 (by decide) (by decide) (Nat.le_of_ble_eq_true rfl) (t_X8_upTo N (gI b 0) (gI b 2) e20) rfl ?_
    obtain rfl := Option.some.inj e
    exact r_iret DX8_filledBy_23 rfl rfl

set_option maxRecDepth 100000 in
set_option maxHeartbeats 4000000 in
theorem lp_X8_bound_L15 {l : Launch} {g : xG} {a : xT} {R : Option Value × xS} (N : Nat) (v1 : Int32) (b : xT) : ∀ (n : Nat) (v2 : Int32) (v3 : Int32) (r : (Int32)), f_X8_bound_L15 N v1 b n v2 v3 = some r → Rx l g 4 M_X8_bound 46 [some (.ref (xa g 44)), some (.int v1), some (.int r), none, none] [] (a, b) R → Rx l g 4 M_X8_bound 15 [some (.ref (xa g 44)), some (.int v1), some (.int v2), some (.int v3), none] [] (a, b) R := by
  intro n
  induction n with
  | zero => intro v2_ v3_ r_ e; cases e
  | succ n ih =>
    intro v2 v3 r e K0
    rw [f_X8_bound_L15] at e
    refine r_iload_n DX8_bound_15 (i := 3) rfl rfl ?_
    refine r_iload_n DX8_bound_16 (i := 1) rfl rfl ?_
    refine r_icmp_ge DX8_bound_17 (tgt := 46) (by decide) (fun c17 => ?_) (fun c17 => ?_)
    · replace e := x_ift c17 e
      obtain rfl := Option.some.inj e
      refine r_mask (L' := [some (.ref (xa g 44)), some (.int v1), some (.int v2), none, none]) [true, true, true, false, false] rfl ?_
      exact K0
    · replace e := x_iff c17 e
      refine r_aload_n DX8_bound_20 (i := 0) rfl rfl ?_
      refine r_iload_n DX8_bound_21 (i := 3) rfl rfl ?_
      obtain ⟨q22, e22, e⟩ := x_bnd e
      refine r_callV1 (As := [.int v3]) (S := []) DX8_bound_22 C_X8_135 (ci := 8) rfl rfl e_44 (by decide) (by decide) (Nat.le_of_ble_eq_true rfl) (t_X8_filledBy N v3 b e22) rfl ?_
      refine r_istore (L' := [some (.ref (xa g 44)), some (.int v1), some (.int v2), some (.int v3), some (.int q22)]) DX8_bound_25 (by decide) rfl rfl ?_
      refine r_iload DX8_bound_27 rfl ?_
      refine r_iload_n DX8_bound_29 (i := 2) rfl rfl ?_
      refine r_icmp_ge DX8_bound_30 (tgt := 38) (by decide) (fun c30 => ?_) (fun c30 => ?_)
      · replace e := x_ift c30 e
        refine r_iload_n DX8_bound_38 (i := 2) rfl rfl ?_
        refine r_istore_n (L' := [some (.ref (xa g 44)), some (.int v1), some (.int v2), some (.int v3), some (.int q22)]) DX8_bound_39 (i := 2) rfl (by decide) rfl rfl ?_
        refine r_iinc (L' := [some (.ref (xa g 44)), some (.int v1), some (.int v2), some (.int (v3 + 1)), some (.int q22)]) DX8_bound_40 (x := v3) (v := (v3 + 1)) rfl rfl (by decide) rfl rfl ?_
        refine r_goto DX8_bound_43 (tgt := 15) (by decide) ?_
        refine r_mask (L' := [some (.ref (xa g 44)), some (.int v1), some (.int v2), some (.int (v3 + 1)), none]) [true, true, true, true, false] rfl ?_
        exact ih _ _ _ e K0
      · replace e := x_iff c30 e
        refine r_iload DX8_bound_33 rfl ?_
        refine r_goto DX8_bound_35 (tgt := 39) (by decide) ?_
        refine r_istore_n (L' := [some (.ref (xa g 44)), some (.int v1), some (.int q22), some (.int v3), some (.int q22)]) DX8_bound_39 (i := 2) rfl (by decide) rfl rfl ?_
        refine r_iinc (L' := [some (.ref (xa g 44)), some (.int v1), some (.int q22), some (.int (v3 + 1)), some (.int q22)]) DX8_bound_40 (x := v3) (v := (v3 + 1)) rfl rfl (by decide) rfl rfl ?_
        refine r_goto DX8_bound_43 (tgt := 15) (by decide) ?_
        refine r_mask (L' := [some (.ref (xa g 44)), some (.int v1), some (.int q22), some (.int (v3 + 1)), none]) [true, true, true, true, false] rfl ?_
        exact ih _ _ _ e K0

set_option maxRecDepth 100000 in
set_option maxHeartbeats 4000000 in
theorem lp_X8_bound_L60 {l : Launch} {g : xG} {a : xT} {R : Option Value × xS} (N : Nat) (v2 : Int32) (b : xT) : ∀ (n : Nat) (v3 : Int32) (v4 : Int32) (r : (Int32)), f_X8_bound_L60 N v2 b n v3 v4 = some r → Rx l g 4 M_X8_bound 108 [none, none, some (.int v2), some (.int r), none] [] (a, b) R → Rx l g 4 M_X8_bound 60 [some (.ref (xa g 44)), none, some (.int v2), some (.int v3), some (.int v4)] [] (a, b) R := by
  intro n
  induction n with
  | zero => intro v3_ v4_ r_ e; cases e
  | succ n ih =>
    intro v3 v4 r e K0
    rw [f_X8_bound_L60] at e
    refine r_iload DX8_bound_60 rfl ?_
    refine r_aload_n DX8_bound_62 (i := 0) rfl rfl ?_
    refine r_get (v := .int (gI b 2)) DX8_bound_63 F_X8_13 e_44 rfl ?_
    refine r_icmp_gt DX8_bound_66 (tgt := 108) (by decide) (fun c66 => ?_) (fun c66 => ?_)
    · replace e := x_ift c66 e
      obtain rfl := Option.some.inj e
      refine r_mask (L' := [none, none, some (.int v2), some (.int v3), none]) [false, false, true, true, false] rfl ?_
      exact K0
    · replace e := x_iff c66 e
      refine r_iload_n DX8_bound_69 (i := 3) rfl rfl ?_
      refine r_iload DX8_bound_70 rfl ?_
      refine r_aload_n DX8_bound_72 (i := 0) rfl rfl ?_
      refine r_get (v := .int (gI b 0)) DX8_bound_73 F_X8_7 e_44 rfl ?_
      refine r_icmp_le DX8_bound_76 (tgt := 83) (by decide) (fun c76 => ?_) (fun c76 => ?_)
      · replace e := x_ift c76 e
        refine r_aload_n DX8_bound_83 (i := 0) rfl rfl ?_
        refine r_get (v := .int (gI b 0)) DX8_bound_84 F_X8_7 e_44 rfl ?_
        refine r_iload DX8_bound_87 rfl ?_
        obtain ⟨q89, e89, e⟩ := x_bnd e
        refine r_callS1 (As := [.int (gI b 0), .int v4]) (S := [.int v3]) DX8_bound_89 C_X8_125 (by decide) (by decide) (Nat.le_of_ble_eq_true rfl) (t_X8_choose N (gI b 0) v4 e89) rfl ?_
        refine r_aload_n DX8_bound_92 (i := 0) rfl rfl ?_
        refine r_get (v := .int (gI b 0)) DX8_bound_93 F_X8_7 e_44 rfl ?_
        refine r_iload DX8_bound_96 rfl ?_
        refine r_isub DX8_bound_98 ?_
        refine r_ishl DX8_bound_99 ?_
        refine r_iadd DX8_bound_100 ?_
        refine r_istore_n (L' := [some (.ref (xa g 44)), none, some (.int v2), some (.int (v3 + (q89 <<< (((gI b 0) - v4) &&& 31)))), some (.int v4)]) DX8_bound_101 (i := 3) rfl (by decide) rfl rfl ?_
        refine r_iinc (L' := [some (.ref (xa g 44)), none, some (.int v2), some (.int (v3 + (q89 <<< (((gI b 0) - v4) &&& 31)))), some (.int (v4 + 1))]) DX8_bound_102 (x := v4) (v := (v4 + 1)) rfl rfl (by decide) rfl rfl ?_
        refine r_goto DX8_bound_105 (tgt := 60) (by decide) ?_
        exact ih _ _ _ e K0
      · replace e := x_iff c76 e
        refine r_iconst DX8_bound_79 (v := 0) (by decide) ?_
        refine r_goto DX8_bound_80 (tgt := 100) (by decide) ?_
        refine r_iadd DX8_bound_100 ?_
        refine r_istore_n (L' := [some (.ref (xa g 44)), none, some (.int v2), some (.int (v3 + 0)), some (.int v4)]) DX8_bound_101 (i := 3) rfl (by decide) rfl rfl ?_
        refine r_iinc (L' := [some (.ref (xa g 44)), none, some (.int v2), some (.int (v3 + 0)), some (.int (v4 + 1))]) DX8_bound_102 (x := v4) (v := (v4 + 1)) rfl rfl (by decide) rfl rfl ?_
        refine r_goto DX8_bound_105 (tgt := 60) (by decide) ?_
        exact ih _ _ _ e K0

set_option maxRecDepth 100000 in
set_option maxHeartbeats 4000000 in
theorem t_X8_bound {l : Launch} {g : xG} {a : xT} (N : Nat) (b : xT)  {r : Int32} (e : f_X8_bound N b = some r) : Ev l g 4 yX8_bound M_X8_bound [.ref (xa g 44)] (a, b) (some (.int r), (a, b)) := by
  unfold f_X8_bound at e
  refine Ev.of 4 (L0 := [some (.ref (xa g 44)), none, none, none, none]) (by decide) rfl (Nat.le_of_ble_eq_true rfl) rfl ?_
  refine r_iconst DX8_bound_0 (v := 1) (by decide) ?_
  refine r_aload_n DX8_bound_1 (i := 0) rfl rfl ?_
  refine r_get (v := .int (gI b 0)) DX8_bound_2 F_X8_7 e_44 rfl ?_
  refine r_ishl DX8_bound_5 ?_
  refine r_istore_n (L' := [some (.ref (xa g 44)), some (.int ((1 : Int32) <<< ((gI b 0) &&& 31))), none, none, none]) DX8_bound_6 (i := 1) rfl (by decide) rfl rfl ?_
  refine r_aload_n DX8_bound_7 (i := 0) rfl rfl ?_
  refine r_iconst DX8_bound_8 (v := 0) (by decide) ?_
  obtain ⟨q9, e9, e⟩ := x_bnd e
  refine r_callV1 (As := [.int 0]) (S := []) DX8_bound_9 C_X8_135 (ci := 8) rfl rfl e_44 (by decide) (by decide) (Nat.le_of_ble_eq_true rfl) (t_X8_filledBy N 0 b e9) rfl ?_
  refine r_istore_n (L' := [some (.ref (xa g 44)), some (.int ((1 : Int32) <<< ((gI b 0) &&& 31))), some (.int q9), none, none]) DX8_bound_12 (i := 2) rfl (by decide) rfl rfl ?_
  refine r_iconst DX8_bound_13 (v := 1) (by decide) ?_
  refine r_istore_n (L' := [some (.ref (xa g 44)), some (.int ((1 : Int32) <<< ((gI b 0) &&& 31))), some (.int q9), some (.int 1), none]) DX8_bound_14 (i := 3) rfl (by decide) rfl rfl ?_
  obtain ⟨q15, e15, e⟩ := x_bnd e
  refine lp_X8_bound_L15 N ((1 : Int32) <<< ((gI b 0) &&& 31)) b N q9 1 q15 e15 ?_
  refine r_iload_n DX8_bound_46 (i := 1) rfl rfl ?_
  refine r_istore_n (L' := [some (.ref (xa g 44)), some (.int ((1 : Int32) <<< ((gI b 0) &&& 31))), some (.int q15), some (.int ((1 : Int32) <<< ((gI b 0) &&& 31))), none]) DX8_bound_47 (i := 3) rfl (by decide) rfl rfl ?_
  refine r_aload_n DX8_bound_48 (i := 0) rfl rfl ?_
  refine r_get (v := .int (gI b 1)) DX8_bound_49 F_X8_88 e_44 rfl ?_
  refine r_if_ne DX8_bound_52 (tgt := 108) (by decide) (fun c52 => ?_) (fun c52 => ?_)
  · replace e := x_iff c52 e
    refine r_iload_n DX8_bound_108 (i := 3) rfl rfl ?_
    refine r_iload_n DX8_bound_109 (i := 2) rfl rfl ?_
    obtain ⟨c110, e⟩ := x_grd e
    refine r_idiv DX8_bound_110 c110 ?_
    obtain rfl := Option.some.inj e
    exact r_iret DX8_bound_111 rfl rfl
  · replace e := x_ift c52 e
    refine r_iconst DX8_bound_55 (v := 0) (by decide) ?_
    refine r_istore_n (L' := [some (.ref (xa g 44)), some (.int ((1 : Int32) <<< ((gI b 0) &&& 31))), some (.int q15), some (.int 0), none]) DX8_bound_56 (i := 3) rfl (by decide) rfl rfl ?_
    refine r_iconst DX8_bound_57 (v := 0) (by decide) ?_
    refine r_istore (L' := [some (.ref (xa g 44)), some (.int ((1 : Int32) <<< ((gI b 0) &&& 31))), some (.int q15), some (.int 0), some (.int 0)]) DX8_bound_58 (by decide) rfl rfl ?_
    obtain ⟨q60, e60, e⟩ := x_bnd e
    refine r_mask (L' := [some (.ref (xa g 44)), none, some (.int q15), some (.int 0), some (.int 0)]) [true, false, true, true, true] rfl ?_
    refine lp_X8_bound_L60 N q15 b N 0 0 q60 e60 ?_
    refine r_iload_n DX8_bound_108 (i := 3) rfl rfl ?_
    refine r_iload_n DX8_bound_109 (i := 2) rfl rfl ?_
    obtain ⟨c110, e⟩ := x_grd e
    refine r_idiv DX8_bound_110 c110 ?_
    obtain rfl := Option.some.inj e
    exact r_iret DX8_bound_111 rfl rfl

set_option maxRecDepth 100000 in
set_option maxHeartbeats 4000000 in
theorem lp_X8_isApart_L2 {l : Launch} {g : xG} {a : xT} {R : Option Value × xS} (N : Nat) (v1 : Int32) (v2 : Int32) (b : xT) : ∀ (n : Nat) (v3 : Int32) (r : ((Unit) ⊕ (Unit))), f_X8_isApart_L2 N v1 v2 b n v3 = some r → (∀ z, r = (.inl z) → Rx l g 3 M_X8_isApart 34 [none, none, none, none] [] (a, b) R) → (∀ z, r = (.inr (z)) → Rx l g 3 M_X8_isApart 26 [none, none, none, none] [] (a, b) R) → Rx l g 3 M_X8_isApart 2 [some (.ref (xa g 44)), some (.int v1), some (.int v2), some (.int v3)] [] (a, b) R := by
  intro n
  induction n with
  | zero => intro v3_ r_ e; cases e
  | succ n ih =>
    intro v3 r e K0 K1
    rw [f_X8_isApart_L2] at e
    refine r_iload_n DX8_isApart_2 (i := 3) rfl rfl ?_
    refine r_aload_n DX8_isApart_3 (i := 0) rfl rfl ?_
    refine r_get (v := .ref (xa g 45)) DX8_isApart_4 F_X8_16 e_44 rfl ?_
    refine r_iload_n DX8_isApart_7 (i := 1) rfl rfl ?_
    obtain ⟨c8, e⟩ := x_grd e
    refine r_iald (f := (gA b 45)) DX8_isApart_8 e_45 rfl c8 ?_
    refine r_icmp_ge DX8_isApart_9 (tgt := 34) (by decide) (fun c9 => ?_) (fun c9 => ?_)
    · replace e := x_ift c9 e
      obtain rfl := Option.some.inj e
      refine r_mask (L' := [none, none, none, none]) [false, false, false, false] rfl ?_
      exact K0 _ rfl
    · replace e := x_iff c9 e
      refine r_aload_n DX8_isApart_12 (i := 0) rfl rfl ?_
      refine r_aload_n DX8_isApart_13 (i := 0) rfl rfl ?_
      refine r_iload_n DX8_isApart_14 (i := 1) rfl rfl ?_
      refine r_iload_n DX8_isApart_15 (i := 3) rfl rfl ?_
      obtain ⟨q16, e16, e⟩ := x_bnd e
      refine r_callV1 (As := [.int v1, .int v3]) (S := [.ref (xa g 44)]) DX8_isApart_16 C_X8_138 (ci := 8) rfl rfl e_44 (by decide) (by decide) (Nat.le_of_ble_eq_true rfl) (t_X8_at v1 v3 b e16) rfl ?_
      refine r_iload_n DX8_isApart_19 (i := 2) rfl rfl ?_
      obtain ⟨q20, e20, e⟩ := x_bnd e
      refine r_callV1 (As := [.int q16, .int v2]) (S := []) DX8_isApart_20 C_X8_118 (ci := 8) rfl rfl e_44 (by decide) (by decide) (Nat.le_of_ble_eq_true rfl) (t_X8_areAlike N q16 v2 b e20) rfl ?_
      refine r_if_eq DX8_isApart_23 (tgt := 28) (by decide) (fun c23 => ?_) (fun c23 => ?_)
      · replace e := x_ift c23 e
        refine r_iinc (L' := [some (.ref (xa g 44)), some (.int v1), some (.int v2), some (.int (v3 + 1))]) DX8_isApart_28 (x := v3) (v := (v3 + 1)) rfl rfl (by decide) rfl rfl ?_
        refine r_goto DX8_isApart_31 (tgt := 2) (by decide) ?_
        exact ih _ _ e K0 K1
      · replace e := x_iff c23 e
        obtain rfl := Option.some.inj e
        refine r_mask (L' := [none, none, none, none]) [false, false, false, false] rfl ?_
        exact K1 _ rfl

set_option maxRecDepth 100000 in
set_option maxHeartbeats 4000000 in
theorem t_X8_isApart {l : Launch} {g : xG} {a : xT} (N : Nat) (v1 : Int32) (v2 : Int32) (b : xT)  {r : Int32} (e : f_X8_isApart N v1 v2 b = some r) : Ev l g 3 yX8_isApart M_X8_isApart [.ref (xa g 44), .int v1, .int v2] (a, b) (some (.int r), (a, b)) := by
  unfold f_X8_isApart at e
  refine Ev.of 1 (L0 := [some (.ref (xa g 44)), some (.int v1), some (.int v2), none]) (by decide) rfl (Nat.le_of_ble_eq_true rfl) rfl ?_
  refine r_iconst DX8_isApart_0 (v := 0) (by decide) ?_
  refine r_istore_n (L' := [some (.ref (xa g 44)), some (.int v1), some (.int v2), some (.int 0)]) DX8_isApart_1 (i := 3) rfl (by decide) rfl rfl ?_
  obtain ⟨q2, e2, e⟩ := x_bnd e
  refine lp_X8_isApart_L2 N v1 v2 b N 0 q2 e2 (fun z2_34 w2 => ?_) (fun z2_26 w2 => ?_)
  · subst w2
    dsimp only [Sum.elim] at e
    refine r_iconst DX8_isApart_34 (v := 1) (by decide) ?_
    obtain rfl := Option.some.inj e
    exact r_zret DX8_isApart_35 rfl (by decide) rfl
  · subst w2
    dsimp only [Sum.elim] at e
    refine r_iconst DX8_isApart_26 (v := 0) (by decide) ?_
    obtain rfl := Option.some.inj e
    exact r_zret DX8_isApart_27 rfl (by decide) rfl

set_option maxRecDepth 100000 in
set_option maxHeartbeats 4000000 in
theorem lp_X8_build_L50 {l : Launch} {g : xG} {a : xT} {R : Option Value × xS} (N : Nat) (v1 : Int32) (v2 : Int32) (v3 : Int32) (v4 : Int32) : ∀ (n : Nat) (v5 : Int32) (b : xT) (r : (xT)), f_X8_build_L50 N v1 v2 v3 v4 n v5 b = some r → Rx l g 4 M_X8_build 105 [some (.ref (xa g 44)), some (.int v1), none, none, none, none, none] [] (a, r) R → Rx l g 4 M_X8_build 50 [some (.ref (xa g 44)), some (.int v1), some (.int v2), some (.int v3), some (.int v4), some (.int v5), none] [] (a, b) R := by
  intro n
  induction n with
  | zero => intro v5_ s_ r_ e; cases e
  | succ n ih =>
    intro v5 b r e K0
    rw [f_X8_build_L50] at e
    refine r_iload DX8_build_50 rfl ?_
    refine r_iload DX8_build_52 rfl ?_
    refine r_icmp_ge DX8_build_54 (tgt := 105) (by decide) (fun c54 => ?_) (fun c54 => ?_)
    · replace e := x_ift c54 e
      obtain rfl := Option.some.inj e
      refine r_mask (L' := [some (.ref (xa g 44)), some (.int v1), none, none, none, none, none]) [true, true, false, false, false, false, false] rfl ?_
      exact K0
    · replace e := x_iff c54 e
      refine r_aload_n DX8_build_57 (i := 0) rfl rfl ?_
      refine r_get (v := .ref (xa g 45)) DX8_build_58 F_X8_16 e_44 rfl ?_
      refine r_iload_n DX8_build_61 (i := 1) rfl rfl ?_
      obtain ⟨c62, e⟩ := x_grd e
      refine r_iald (f := (gA b 45)) DX8_build_62 e_45 rfl c62 ?_
      refine r_iload_n DX8_build_63 (i := 3) rfl rfl ?_
      refine r_icmp_ge DX8_build_64 (tgt := 105) (by decide) (fun c64 => ?_) (fun c64 => ?_)
      · replace e := x_ift c64 e
        obtain rfl := Option.some.inj e
        refine r_mask (L' := [some (.ref (xa g 44)), some (.int v1), none, none, none, none, none]) [true, true, false, false, false, false, false] rfl ?_
        exact K0
      · replace e := x_iff c64 e
        refine r_iload DX8_build_67 rfl ?_
        refine r_iconst DX8_build_69 (v := 2) (by decide) ?_
        refine r_iload_n DX8_build_70 (i := 2) rfl rfl ?_
        refine r_imul DX8_build_71 ?_
        refine r_iconst DX8_build_72 (v := 1) (by decide) ?_
        refine r_iadd DX8_build_73 ?_
        refine r_imul DX8_build_74 ?_
        refine r_iload_n DX8_build_75 (i := 2) rfl rfl ?_
        refine r_iadd DX8_build_76 ?_
        refine r_iload DX8_build_77 rfl ?_
        obtain ⟨c79, e⟩ := x_grd e
        refine r_irem DX8_build_79 c79 ?_
        obtain ⟨w80, e80, e⟩ := x_bnd e
        refine r_istoreB (L' := [some (.ref (xa g 44)), some (.int v1), some (.int v2), some (.int v3), some (.int v4), some (.int v5), some (.int w80)]) (w := w80) DX8_build_80 (Option.some.inj e80) (by decide) rfl rfl ?_
        refine r_aload_n DX8_build_82 (i := 0) rfl rfl ?_
        refine r_iload_n DX8_build_83 (i := 1) rfl rfl ?_
        refine r_iload DX8_build_84 rfl ?_
        obtain ⟨q86, e86, e⟩ := x_bnd e
        refine r_callV1 (As := [.int v1, .int w80]) (S := []) DX8_build_86 C_X8_155 (ci := 8) rfl rfl e_44 (by decide) (by decide) (Nat.le_of_ble_eq_true rfl) (t_X8_isApart N v1 w80 b e86) rfl ?_
        refine r_if_eq DX8_build_89 (tgt := 99) (by decide) (fun c89 => ?_) (fun c89 => ?_)
        · replace e := x_ift c89 e
          refine r_iinc (L' := [some (.ref (xa g 44)), some (.int v1), some (.int v2), some (.int v3), some (.int v4), some (.int (v5 + 1)), some (.int w80)]) DX8_build_99 (x := v5) (v := (v5 + 1)) rfl rfl (by decide) rfl rfl ?_
          refine r_goto DX8_build_102 (tgt := 50) (by decide) ?_
          refine r_mask (L' := [some (.ref (xa g 44)), some (.int v1), some (.int v2), some (.int v3), some (.int v4), some (.int (v5 + 1)), none]) [true, true, true, true, true, true, false] rfl ?_
          exact ih _ _ _ e K0
        · replace e := x_iff c89 e
          refine r_aload_n DX8_build_92 (i := 0) rfl rfl ?_
          refine r_iload_n DX8_build_93 (i := 1) rfl rfl ?_
          refine r_iload DX8_build_94 rfl ?_
          obtain ⟨q96, e96, e⟩ := x_bnd e
          refine r_callV0 (As := [.int v1, .int w80]) (S := []) DX8_build_96 C_X8_144 (ci := 8) rfl rfl e_44 (by decide) (by decide) (Nat.le_of_ble_eq_true rfl) (t_X8_put v1 w80 b e96) rfl ?_
          refine r_iinc (L' := [some (.ref (xa g 44)), some (.int v1), some (.int v2), some (.int v3), some (.int v4), some (.int (v5 + 1)), some (.int w80)]) DX8_build_99 (x := v5) (v := (v5 + 1)) rfl rfl (by decide) rfl rfl ?_
          refine r_goto DX8_build_102 (tgt := 50) (by decide) ?_
          refine r_mask (L' := [some (.ref (xa g 44)), some (.int v1), some (.int v2), some (.int v3), some (.int v4), some (.int (v5 + 1)), none]) [true, true, true, true, true, true, false] rfl ?_
          exact ih _ _ _ e K0

set_option maxRecDepth 100000 in
set_option maxHeartbeats 4000000 in
theorem t_X8_build {l : Launch} {g : xG} {a : xT} (N : Nat) (v1 : Int32) (v2 : Int32) (v3 : Int32) (b : xT)  {r : (Int32 × xT)} (e : f_X8_build N v1 v2 v3 b = some r) : Ev l g 4 yX8_build M_X8_build [.ref (xa g 44), .int v1, .int v2, .int v3] (a, b) (some (.int r.1), (a, r.2)) := by
  unfold f_X8_build at e
  refine Ev.of 3 (L0 := [some (.ref (xa g 44)), some (.int v1), some (.int v2), some (.int v3), none, none, none]) (by decide) rfl (Nat.le_of_ble_eq_true rfl) rfl ?_
  refine r_iload_n DX8_build_0 (i := 1) rfl rfl ?_
  obtain ⟨q1, e1, e⟩ := x_bnd e
  refine r_callS1 (As := [.int v1]) (S := []) DX8_build_1 C_X8_76 (by decide) (by decide) (Nat.le_of_ble_eq_true rfl) (t_X8_isList v1 e1) rfl ?_
  refine r_if_ne DX8_build_4 (tgt := 11) (by decide) (fun c4 => ?_) (fun c4 => ?_)
  · replace e := x_iff c4 e
    refine r_iload_n DX8_build_11 (i := 2) rfl rfl ?_
    refine r_i2l DX8_build_12 ?_
    refine r_lconst DX8_build_13 (v := 0) (by decide) ?_
    refine r_ldc2 DX8_build_14 K_X8_151 ?_
    obtain ⟨q17, e17, e⟩ := x_bnd e
    refine r_callS1 (As := [.long (Int32.toInt64 v2), .long 0, .long 4095]) (S := []) DX8_build_17 C_X8_70 (by decide) (by decide) (Nat.le_of_ble_eq_true rfl) (t_X8_in (Int32.toInt64 v2) 0 4095 e17) rfl ?_
    refine r_if_eq DX8_build_20 (tgt := 35) (by decide) (fun c20 => ?_) (fun c20 => ?_)
    · replace e := x_ift c20 e
      refine r_sipush DX8_build_35 (v := (-1002)) (by decide) ?_
      obtain rfl := Option.some.inj e
      exact r_iret DX8_build_38 rfl rfl
    · replace e := x_iff c20 e
      refine r_iload_n DX8_build_23 (i := 3) rfl rfl ?_
      refine r_i2l DX8_build_24 ?_
      refine r_lconst DX8_build_25 (v := 0) (by decide) ?_
      refine r_ldc2 DX8_build_26 K_X8_153 ?_
      obtain ⟨q29, e29, e⟩ := x_bnd e
      refine r_callS1 (As := [.long (Int32.toInt64 v3), .long 0, .long 64]) (S := []) DX8_build_29 C_X8_70 (by decide) (by decide) (Nat.le_of_ble_eq_true rfl) (t_X8_in (Int32.toInt64 v3) 0 64 e29) rfl ?_
      refine r_if_ne DX8_build_32 (tgt := 39) (by decide) (fun c32 => ?_) (fun c32 => ?_)
      · replace e := x_iff c32 e
        refine r_iconst DX8_build_39 (v := 1) (by decide) ?_
        refine r_aload_n DX8_build_40 (i := 0) rfl rfl ?_
        refine r_get (v := .int (gI b 0)) DX8_build_41 F_X8_7 e_44 rfl ?_
        refine r_ishl DX8_build_44 ?_
        refine r_istore (L' := [some (.ref (xa g 44)), some (.int v1), some (.int v2), some (.int v3), some (.int ((1 : Int32) <<< ((gI b 0) &&& 31))), none, none]) DX8_build_45 (by decide) rfl rfl ?_
        refine r_iconst DX8_build_47 (v := 0) (by decide) ?_
        refine r_istore (L' := [some (.ref (xa g 44)), some (.int v1), some (.int v2), some (.int v3), some (.int ((1 : Int32) <<< ((gI b 0) &&& 31))), some (.int 0), none]) DX8_build_48 (by decide) rfl rfl ?_
        obtain ⟨q50, e50, e⟩ := x_bnd e
        refine lp_X8_build_L50 N v1 v2 v3 ((1 : Int32) <<< ((gI b 0) &&& 31)) N 0 b q50 e50 ?_
        refine r_aload_n DX8_build_105 (i := 0) rfl rfl ?_
        refine r_get (v := .ref (xa g 45)) DX8_build_106 F_X8_16 e_44 rfl ?_
        refine r_iload_n DX8_build_109 (i := 1) rfl rfl ?_
        obtain ⟨c110, e⟩ := x_grd e
        refine r_iald (f := (gA q50 45)) DX8_build_110 e_45 rfl c110 ?_
        obtain rfl := Option.some.inj e
        exact r_iret DX8_build_111 rfl rfl
      · replace e := x_ift c32 e
        refine r_sipush DX8_build_35 (v := (-1002)) (by decide) ?_
        obtain rfl := Option.some.inj e
        exact r_iret DX8_build_38 rfl rfl
  · replace e := x_ift c4 e
    refine r_sipush DX8_build_7 (v := (-1001)) (by decide) ?_
    obtain rfl := Option.some.inj e
    exact r_iret DX8_build_10 rfl rfl

set_option maxRecDepth 100000 in
set_option maxHeartbeats 4000000 in
theorem t_X8_canMake {l : Launch} {g : xG} {s : xS} (v0 : Int32) (v1 : Int32) (v2 : Int32)  {r : Int32} (e : f_X8_canMake v0 v1 v2 = some r) : Ev l g 0 yX8_canMake M_X8_canMake [.int v0, .int v1, .int v2] s (some (.int r), s) := by
  unfold f_X8_canMake at e
  refine Ev.of 0 (L0 := [some (.int v0), some (.int v1), some (.int v2)]) (by decide) rfl (Nat.le_of_ble_eq_true rfl) rfl ?_
  refine r_iload_n DX8_canMake_0 (i := 0) rfl rfl ?_
  refine r_iload_n DX8_canMake_1 (i := 2) rfl rfl ?_
  refine r_iconst DX8_canMake_2 (v := (-1)) (by decide) ?_
  refine r_ixor DX8_canMake_3 ?_
  refine r_iand DX8_canMake_4 ?_
  refine r_if_ne DX8_canMake_5 (tgt := 20) (by decide) (fun c5 => ?_) (fun c5 => ?_)
  · replace e := x_iff c5 e
    refine r_iconst DX8_canMake_20 (v := 0) (by decide) ?_
    obtain rfl := Option.some.inj e
    exact r_zret DX8_canMake_21 rfl (by decide) rfl
  · replace e := x_ift c5 e
    refine r_iload_n DX8_canMake_8 (i := 2) rfl rfl ?_
    refine r_iload_n DX8_canMake_9 (i := 1) rfl rfl ?_
    refine r_iconst DX8_canMake_10 (v := (-1)) (by decide) ?_
    refine r_ixor DX8_canMake_11 ?_
    refine r_iand DX8_canMake_12 ?_
    refine r_if_ne DX8_canMake_13 (tgt := 20) (by decide) (fun c13 => ?_) (fun c13 => ?_)
    · replace e := x_iff c13 e
      refine r_iconst DX8_canMake_20 (v := 0) (by decide) ?_
      obtain rfl := Option.some.inj e
      exact r_zret DX8_canMake_21 rfl (by decide) rfl
    · replace e := x_ift c13 e
      refine r_iconst DX8_canMake_16 (v := 1) (by decide) ?_
      refine r_goto DX8_canMake_17 (tgt := 21) (by decide) ?_
      obtain rfl := Option.some.inj e
      exact r_zret DX8_canMake_21 rfl (by decide) rfl

set_option maxRecDepth 100000 in
set_option maxHeartbeats 4000000 in
theorem lp_X8_chanceOf_L5 {l : Launch} {g : xG} {a : xT} {R : Option Value × xS} (v1 : Int32) (b : xT) : ∀ (n : Nat) (v2 : Int64) (v4 : Int32) (r : (Int64)), f_X8_chanceOf_L5 v1 b n v2 v4 = some r → Rx l g 0 M_X8_chanceOf 69 [none, none, some (.long r), none, none] [] (a, b) R → Rx l g 0 M_X8_chanceOf 5 [some (.ref (xa g 44)), some (.int v1), some (.long v2), none, some (.int v4)] [] (a, b) R := by
  intro n
  induction n with
  | zero => intro v2_ v4_ r_ e; cases e
  | succ n ih =>
    intro v2 v4 r e K0
    rw [f_X8_chanceOf_L5] at e
    refine r_iload DX8_chanceOf_5 rfl ?_
    refine r_aload_n DX8_chanceOf_7 (i := 0) rfl rfl ?_
    refine r_get (v := .int (gI b 0)) DX8_chanceOf_8 F_X8_7 e_44 rfl ?_
    refine r_icmp_ge DX8_chanceOf_11 (tgt := 69) (by decide) (fun c11 => ?_) (fun c11 => ?_)
    · replace e := x_ift c11 e
      obtain rfl := Option.some.inj e
      refine r_mask (L' := [none, none, some (.long v2), none, none]) [false, false, true, false, false] rfl ?_
      exact K0
    · replace e := x_iff c11 e
      refine r_lload_n DX8_chanceOf_14 (i := 2) rfl rfl ?_
      refine r_aload_n DX8_chanceOf_15 (i := 0) rfl rfl ?_
      refine r_get (v := .ref (xa g 57)) DX8_chanceOf_16 F_X8_57 e_44 rfl ?_
      refine r_iload DX8_chanceOf_19 rfl ?_
      obtain ⟨c21, e⟩ := x_grd e
      refine r_iald (f := (gA b 57)) DX8_chanceOf_21 e_57 rfl c21 ?_
      refine r_if_ge DX8_chanceOf_22 (tgt := 29) (by decide) (fun c22 => ?_) (fun c22 => ?_)
      · replace e := x_ift c22 e
        refine r_iload_n DX8_chanceOf_29 (i := 1) rfl rfl ?_
        refine r_iload DX8_chanceOf_30 rfl ?_
        refine r_ishr DX8_chanceOf_32 ?_
        refine r_iconst DX8_chanceOf_33 (v := 1) (by decide) ?_
        refine r_iand DX8_chanceOf_34 ?_
        refine r_iconst DX8_chanceOf_35 (v := 1) (by decide) ?_
        refine r_icmp_ne DX8_chanceOf_36 (tgt := 50) (by decide) (fun c36 => ?_) (fun c36 => ?_)
        · replace e := x_iff c36 e
          refine r_bipush DX8_chanceOf_50 (v := 9) (by decide) ?_
          refine r_aload_n DX8_chanceOf_52 (i := 0) rfl rfl ?_
          refine r_get (v := .ref (xa g 57)) DX8_chanceOf_53 F_X8_57 e_44 rfl ?_
          refine r_iload DX8_chanceOf_56 rfl ?_
          obtain ⟨c58, e⟩ := x_grd e
          refine r_iald (f := (gA b 57)) DX8_chanceOf_58 e_57 rfl c58 ?_
          refine r_isub DX8_chanceOf_59 ?_
          refine r_i2l DX8_chanceOf_60 ?_
          refine r_lmul DX8_chanceOf_61 ?_
          obtain ⟨w62, e62, e⟩ := x_bnd e
          refine r_lstore_nB (L' := [some (.ref (xa g 44)), some (.int v1), some (.long w62), none, some (.int v4)]) (w := w62) DX8_chanceOf_62 (Option.some.inj e62) (i := 2) rfl (by decide) rfl rfl ?_
          refine r_iinc (L' := [some (.ref (xa g 44)), some (.int v1), some (.long w62), none, some (.int (v4 + 1))]) DX8_chanceOf_63 (x := v4) (v := (v4 + 1)) rfl rfl (by decide) rfl rfl ?_
          refine r_goto DX8_chanceOf_66 (tgt := 5) (by decide) ?_
          exact ih _ _ _ e K0
        · replace e := x_ift c36 e
          refine r_aload_n DX8_chanceOf_39 (i := 0) rfl rfl ?_
          refine r_get (v := .ref (xa g 57)) DX8_chanceOf_40 F_X8_57 e_44 rfl ?_
          refine r_iload DX8_chanceOf_43 rfl ?_
          obtain ⟨c45, e⟩ := x_grd e
          refine r_iald (f := (gA b 57)) DX8_chanceOf_45 e_57 rfl c45 ?_
          refine r_i2l DX8_chanceOf_46 ?_
          refine r_goto DX8_chanceOf_47 (tgt := 61) (by decide) ?_
          refine r_lmul DX8_chanceOf_61 ?_
          obtain ⟨w62, e62, e⟩ := x_bnd e
          refine r_lstore_nB (L' := [some (.ref (xa g 44)), some (.int v1), some (.long w62), none, some (.int v4)]) (w := w62) DX8_chanceOf_62 (Option.some.inj e62) (i := 2) rfl (by decide) rfl rfl ?_
          refine r_iinc (L' := [some (.ref (xa g 44)), some (.int v1), some (.long w62), none, some (.int (v4 + 1))]) DX8_chanceOf_63 (x := v4) (v := (v4 + 1)) rfl rfl (by decide) rfl rfl ?_
          refine r_goto DX8_chanceOf_66 (tgt := 5) (by decide) ?_
          exact ih _ _ _ e K0
      · replace e := x_iff c22 e
        refine r_lconst DX8_chanceOf_25 (v := 1) (by decide) ?_
        refine r_goto DX8_chanceOf_26 (tgt := 61) (by decide) ?_
        refine r_lmul DX8_chanceOf_61 ?_
        refine r_lstore_n (L' := [some (.ref (xa g 44)), some (.int v1), some (.long (v2 * 1)), none, some (.int v4)]) DX8_chanceOf_62 (i := 2) rfl (by decide) rfl rfl ?_
        refine r_iinc (L' := [some (.ref (xa g 44)), some (.int v1), some (.long (v2 * 1)), none, some (.int (v4 + 1))]) DX8_chanceOf_63 (x := v4) (v := (v4 + 1)) rfl rfl (by decide) rfl rfl ?_
        refine r_goto DX8_chanceOf_66 (tgt := 5) (by decide) ?_
        exact ih _ _ _ e K0

set_option maxRecDepth 100000 in
set_option maxHeartbeats 4000000 in
theorem t_X8_chanceOf {l : Launch} {g : xG} {a : xT} (N : Nat) (v1 : Int32) (b : xT)  {r : Int64} (e : f_X8_chanceOf N v1 b = some r) : Ev l g 0 yX8_chanceOf M_X8_chanceOf [.ref (xa g 44), .int v1] (a, b) (some (.long r), (a, b)) := by
  unfold f_X8_chanceOf at e
  refine Ev.of 3 (L0 := [some (.ref (xa g 44)), some (.int v1), none, none, none]) (by decide) rfl (Nat.le_of_ble_eq_true rfl) rfl ?_
  refine r_lconst DX8_chanceOf_0 (v := 1) (by decide) ?_
  refine r_lstore_n (L' := [some (.ref (xa g 44)), some (.int v1), some (.long 1), none, none]) DX8_chanceOf_1 (i := 2) rfl (by decide) rfl rfl ?_
  refine r_iconst DX8_chanceOf_2 (v := 0) (by decide) ?_
  refine r_istore (L' := [some (.ref (xa g 44)), some (.int v1), some (.long 1), none, some (.int 0)]) DX8_chanceOf_3 (by decide) rfl rfl ?_
  obtain ⟨q5, e5, e⟩ := x_bnd e
  refine lp_X8_chanceOf_L5 v1 b N 1 0 q5 e5 ?_
  refine r_lload_n DX8_chanceOf_69 (i := 2) rfl rfl ?_
  obtain rfl := Option.some.inj e
  exact r_lret DX8_chanceOf_70 rfl rfl
