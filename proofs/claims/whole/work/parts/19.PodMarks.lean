set_option maxRecDepth 100000 in
set_option maxHeartbeats 4000000 in
theorem t_X7_within {l : Launch} {g : xG} {s : xS} (v0 : Int32) (v1 : Int32) (v2 : Int32)  {r : Int32} (e : f_X7_within v0 v1 v2 = some r) : Ev l g 0 yX7_within M_X7_within [.int v0, .int v1, .int v2] s (some (.int r), s) := by
  unfold f_X7_within at e
  refine Ev.of 0 (L0 := [some (.int v0), some (.int v1), some (.int v2)]) (by decide) rfl (Nat.le_of_ble_eq_true rfl) rfl ?_
  refine r_iload_n DX7_within_0 (i := 0) rfl rfl ?_
  refine r_iload_n DX7_within_1 (i := 1) rfl rfl ?_
  refine r_icmp_lt DX7_within_2 (tgt := 14) (by decide) (fun c2 => ?_) (fun c2 => ?_)
  · replace e := x_ift c2 e
    refine r_iconst DX7_within_14 (v := 0) (by decide) ?_
    obtain rfl := Option.some.inj e
    exact r_zret DX7_within_15 rfl (by decide) rfl
  · replace e := x_iff c2 e
    refine r_iload_n DX7_within_5 (i := 0) rfl rfl ?_
    refine r_iload_n DX7_within_6 (i := 2) rfl rfl ?_
    refine r_icmp_gt DX7_within_7 (tgt := 14) (by decide) (fun c7 => ?_) (fun c7 => ?_)
    · replace e := x_ift c7 e
      refine r_iconst DX7_within_14 (v := 0) (by decide) ?_
      obtain rfl := Option.some.inj e
      exact r_zret DX7_within_15 rfl (by decide) rfl
    · replace e := x_iff c7 e
      refine r_iconst DX7_within_10 (v := 1) (by decide) ?_
      refine r_goto DX7_within_11 (tgt := 15) (by decide) ?_
      obtain rfl := Option.some.inj e
      exact r_zret DX7_within_15 rfl (by decide) rfl

set_option maxRecDepth 100000 in
set_option maxHeartbeats 4000000 in
theorem t_X7_isList {l : Launch} {g : xG} {s : xS} (v0 : Int32)  {r : Int32} (e : f_X7_isList v0 = some r) : Ev l g 1 yX7_isList M_X7_isList [.int v0] s (some (.int r), s) := by
  unfold f_X7_isList at e
  refine Ev.of 0 (L0 := [some (.int v0)]) (by decide) rfl (Nat.le_of_ble_eq_true rfl) rfl ?_
  refine r_iload_n DX7_isList_0 (i := 0) rfl rfl ?_
  refine r_iconst DX7_isList_1 (v := 0) (by decide) ?_
  refine r_iconst DX7_isList_2 (v := 5) (by decide) ?_
  obtain ⟨q3, e3, e⟩ := x_bnd e
  refine r_callS1 (As := [.int v0, .int 0, .int 5]) (S := []) DX7_isList_3 C_X7_73 (by decide) (by decide) (Nat.le_of_ble_eq_true rfl) (t_X7_within v0 0 5 e3) rfl ?_
  obtain ⟨c6, e⟩ := x_grd e
  obtain rfl := Option.some.inj e
  exact r_zret DX7_isList_6 rfl (congrArg Value.int c6) rfl

set_option maxRecDepth 100000 in
set_option maxHeartbeats 4000000 in
theorem t_X7_add {l : Launch} {g : xG} {b : xT} (v1 : Int32) (v2 : Int32) (a : xT)  {r : (Int32 × xT)} (e : f_X7_add v1 v2 a = some r) : Ev l g 2 yX7_add M_X7_add [.ref (xa g 0), .int v1, .int v2] (a, b) (some (.int r.1), (r.2, b)) := by
  unfold f_X7_add at e
  refine Ev.of 0 (L0 := [some (.ref (xa g 0)), some (.int v1), some (.int v2)]) (by decide) rfl (Nat.le_of_ble_eq_true rfl) rfl ?_
  refine r_iload_n DX7_add_0 (i := 1) rfl rfl ?_
  obtain ⟨q1, e1, e⟩ := x_bnd e
  refine r_callS1 (As := [.int v1]) (S := []) DX7_add_1 C_X7_111 (by decide) (by decide) (Nat.le_of_ble_eq_true rfl) (t_X7_isList v1 e1) rfl ?_
  refine r_if_ne DX7_add_4 (tgt := 11) (by decide) (fun c4 => ?_) (fun c4 => ?_)
  · replace e := x_iff c4 e
    refine r_aload_n DX7_add_11 (i := 0) rfl rfl ?_
    refine r_get (v := .ref (xa g 1)) DX7_add_12 F_X7_12 e_0 rfl ?_
    refine r_iload_n DX7_add_15 (i := 2) rfl rfl ?_
    obtain ⟨q16, e16, e⟩ := x_bnd e
    refine r_callV1 (As := [.int v2]) (S := []) DX7_add_16 C_X7_86 (ci := 1) rfl rfl e_1 (by decide) (by decide) (Nat.le_of_ble_eq_true rfl) (t_X1_isSet v2 a e16) rfl ?_
    refine r_if_ne DX7_add_19 (tgt := 26) (by decide) (fun c19 => ?_) (fun c19 => ?_)
    · replace e := x_iff c19 e
      refine r_aload_n DX7_add_26 (i := 0) rfl rfl ?_
      refine r_get (v := .ref (xa g 2)) DX7_add_27 F_X7_18 e_0 rfl ?_
      refine r_iload_n DX7_add_30 (i := 1) rfl rfl ?_
      obtain ⟨c31, e⟩ := x_grd e
      refine r_aald (b := (xa g (23 + (Int32.toNatClampNeg v1)))) DX7_add_31 e_2 rfl c31 rfl ?_
      refine r_iload_n DX7_add_32 (i := 2) rfl rfl ?_
      obtain ⟨q33, e33, e⟩ := x_bnd e
      refine r_callV1 (As := [.int v2]) (S := []) DX7_add_33 C_X7_114 (ci := 3) rfl rfl (e_ml (x_in7 c31)) (by decide) (by decide) (Nat.le_of_ble_eq_true rfl) (t_X3_holds (Int32.toNatClampNeg v1) v2 a (x_in7 c31) e33) rfl ?_
      refine r_if_eq DX7_add_36 (tgt := 43) (by decide) (fun c36 => ?_) (fun c36 => ?_)
      · replace e := x_ift c36 e
        refine r_aload_n DX7_add_43 (i := 0) rfl rfl ?_
        refine r_get (v := .ref (xa g 2)) DX7_add_44 F_X7_18 e_0 rfl ?_
        refine r_iload_n DX7_add_47 (i := 1) rfl rfl ?_
        obtain ⟨c48, e⟩ := x_grd e
        refine r_aald (b := (xa g (23 + (Int32.toNatClampNeg v1)))) DX7_add_48 e_2 rfl c48 rfl ?_
        refine r_iload_n DX7_add_49 (i := 2) rfl rfl ?_
        obtain ⟨q50, e50, e⟩ := x_bnd e
        refine r_callV1 (As := [.int v2]) (S := []) DX7_add_50 C_X7_117 (ci := 3) rfl rfl (e_ml (x_in7 c48)) (by decide) (by decide) (Nat.le_of_ble_eq_true rfl) (t_X3_append (Int32.toNatClampNeg v1) v2 a (x_in7 c48) e50) rfl ?_
        refine r_if_eq DX7_add_53 (tgt := 68) (by decide) (fun c53 => ?_) (fun c53 => ?_)
        · replace e := x_ift c53 e
          refine r_sipush DX7_add_68 (v := (-1004)) (by decide) ?_
          obtain rfl := Option.some.inj e
          exact r_iret DX7_add_71 rfl rfl
        · replace e := x_iff c53 e
          refine r_aload_n DX7_add_56 (i := 0) rfl rfl ?_
          refine r_get (v := .ref (xa g 2)) DX7_add_57 F_X7_18 e_0 rfl ?_
          refine r_iload_n DX7_add_60 (i := 1) rfl rfl ?_
          obtain ⟨c61, e⟩ := x_grd e
          refine r_aald (b := (xa g (23 + (Int32.toNatClampNeg v1)))) DX7_add_61 e_2 rfl c61 rfl ?_
          refine r_get (v := .int (gI q50.2 (23 + (Int32.toNatClampNeg v1)))) DX7_add_62 F_X7_120 (e_ml (x_in7 c61)) rfl ?_
          refine r_goto DX7_add_65 (tgt := 71) (by decide) ?_
          obtain rfl := Option.some.inj e
          exact r_iret DX7_add_71 rfl rfl
      · replace e := x_iff c36 e
        refine r_sipush DX7_add_39 (v := (-1003)) (by decide) ?_
        obtain rfl := Option.some.inj e
        exact r_iret DX7_add_42 rfl rfl
    · replace e := x_ift c19 e
      refine r_sipush DX7_add_22 (v := (-1002)) (by decide) ?_
      obtain rfl := Option.some.inj e
      exact r_iret DX7_add_25 rfl rfl
  · replace e := x_ift c4 e
    refine r_sipush DX7_add_7 (v := (-1001)) (by decide) ?_
    obtain rfl := Option.some.inj e
    exact r_iret DX7_add_10 rfl rfl

set_option maxRecDepth 100000 in
set_option maxHeartbeats 4000000 in
theorem t_X7_becomesFresh {l : Launch} {g : xG} {b : xT} (v1 : Int32) (a : xT)  {r : (Int32 × xT)} (e : f_X7_becomesFresh v1 a = some r) : Ev l g 3 yX7_becomesFresh M_X7_becomesFresh [.ref (xa g 0), .int v1] (a, b) (some (.int r.1), (r.2, b)) := by
  unfold f_X7_becomesFresh at e
  refine Ev.of 0 (L0 := [some (.ref (xa g 0)), some (.int v1)]) (by decide) rfl (Nat.le_of_ble_eq_true rfl) rfl ?_
  refine r_aload_n DX7_becomesFresh_0 (i := 0) rfl rfl ?_
  refine r_get (v := .ref (xa g 2)) DX7_becomesFresh_1 F_X7_18 e_0 rfl ?_
  refine r_iload_n DX7_becomesFresh_4 (i := 1) rfl rfl ?_
  obtain ⟨c5, e⟩ := x_grd e
  refine r_aald (b := (xa g (23 + (Int32.toNatClampNeg v1)))) DX7_becomesFresh_5 e_2 rfl c5 rfl ?_
  refine r_aload_n DX7_becomesFresh_6 (i := 0) rfl rfl ?_
  refine r_get (v := .ref (xa g (23 + 6))) DX7_becomesFresh_7 F_X7_23 e_0 rfl ?_
  obtain ⟨q10, e10, e⟩ := x_bnd e
  refine r_callV0 (As := [.ref (xa g (23 + 6))]) (S := []) DX7_becomesFresh_10 C_X7_166 (ci := 3) rfl rfl (e_ml (x_in7 c5)) (by decide) (by decide) (Nat.le_of_ble_eq_true rfl) (t_X3_copy (Int32.toNatClampNeg v1) 6 a (x_in7 c5) (by decide) e10) rfl ?_
  refine r_aload_n DX7_becomesFresh_13 (i := 0) rfl rfl ?_
  refine r_get (v := .ref (xa g (23 + 6))) DX7_becomesFresh_14 F_X7_23 e_0 rfl ?_
  refine r_get (v := .int (gI q10 (23 + 6))) DX7_becomesFresh_17 F_X7_120 (e_ml (by decide)) rfl ?_
  obtain rfl := Option.some.inj e
  exact r_iret DX7_becomesFresh_20 rfl rfl

set_option maxRecDepth 100000 in
set_option maxHeartbeats 4000000 in
theorem t_X7_between {l : Launch} {g : xG} {b : xT} (N : Nat) (v1 : Int32) (v2 : Int32) (v3 : Int32) (a : xT)  {r : Int32} (e : f_X7_between N v1 v2 v3 a = some r) : Ev l g 4 yX7_between M_X7_between [.ref (xa g 0), .int v1, .int v2, .int v3] (a, b) (some (.int r), (a, b)) := by
  unfold f_X7_between at e
  refine Ev.of 0 (L0 := [some (.ref (xa g 0)), some (.int v1), some (.int v2), some (.int v3)]) (by decide) rfl (Nat.le_of_ble_eq_true rfl) rfl ?_
  refine r_aload_n DX7_between_0 (i := 0) rfl rfl ?_
  refine r_get (v := .ref (xa g 1)) DX7_between_1 F_X7_12 e_0 rfl ?_
  refine r_iload_n DX7_between_4 (i := 1) rfl rfl ?_
  obtain ⟨q5, e5, e⟩ := x_bnd e
  refine r_callV1 (As := [.int v1]) (S := []) DX7_between_5 C_X7_86 (ci := 1) rfl rfl e_1 (by decide) (by decide) (Nat.le_of_ble_eq_true rfl) (t_X1_isSet v1 a e5) rfl ?_
  refine r_if_eq DX7_between_8 (tgt := 31) (by decide) (fun c8 => ?_) (fun c8 => ?_)
  · replace e := x_ift c8 e
    refine r_sipush DX7_between_31 (v := (-1002)) (by decide) ?_
    obtain rfl := Option.some.inj e
    exact r_iret DX7_between_34 rfl rfl
  · replace e := x_iff c8 e
    refine r_aload_n DX7_between_11 (i := 0) rfl rfl ?_
    refine r_get (v := .ref (xa g 1)) DX7_between_12 F_X7_12 e_0 rfl ?_
    refine r_iload_n DX7_between_15 (i := 2) rfl rfl ?_
    obtain ⟨q16, e16, e⟩ := x_bnd e
    refine r_callV1 (As := [.int v2]) (S := []) DX7_between_16 C_X7_86 (ci := 1) rfl rfl e_1 (by decide) (by decide) (Nat.le_of_ble_eq_true rfl) (t_X1_isSet v2 a e16) rfl ?_
    refine r_if_eq DX7_between_19 (tgt := 31) (by decide) (fun c19 => ?_) (fun c19 => ?_)
    · replace e := x_ift c19 e
      refine r_sipush DX7_between_31 (v := (-1002)) (by decide) ?_
      obtain rfl := Option.some.inj e
      exact r_iret DX7_between_34 rfl rfl
    · replace e := x_iff c19 e
      refine r_iload_n DX7_between_22 (i := 3) rfl rfl ?_
      refine r_iconst DX7_between_23 (v := 0) (by decide) ?_
      refine r_iconst DX7_between_24 (v := 1) (by decide) ?_
      obtain ⟨q25, e25, e⟩ := x_bnd e
      refine r_callS1 (As := [.int v3, .int 0, .int 1]) (S := []) DX7_between_25 C_X7_73 (by decide) (by decide) (Nat.le_of_ble_eq_true rfl) (t_X7_within v3 0 1 e25) rfl ?_
      refine r_if_ne DX7_between_28 (tgt := 35) (by decide) (fun c28 => ?_) (fun c28 => ?_)
      · replace e := x_iff c28 e
        refine r_iload_n DX7_between_35 (i := 3) rfl rfl ?_
        refine r_if_ne DX7_between_36 (tgt := 51) (by decide) (fun c36 => ?_) (fun c36 => ?_)
        · replace e := x_iff c36 e
          refine r_aload_n DX7_between_51 (i := 0) rfl rfl ?_
          refine r_get (v := .ref (xa g 1)) DX7_between_52 F_X7_12 e_0 rfl ?_
          refine r_iload_n DX7_between_55 (i := 1) rfl rfl ?_
          refine r_iload_n DX7_between_56 (i := 2) rfl rfl ?_
          obtain ⟨q57, e57, e⟩ := x_bnd e
          refine r_callV1 (As := [.int v1, .int v2]) (S := []) DX7_between_57 C_X7_105 (ci := 1) rfl rfl e_1 (by decide) (by decide) (Nat.le_of_ble_eq_true rfl) (t_X1_witnessLost N v1 v2 a e57) rfl ?_
          obtain rfl := Option.some.inj e
          exact r_iret DX7_between_60 rfl rfl
        · replace e := x_ift c36 e
          refine r_aload_n DX7_between_39 (i := 0) rfl rfl ?_
          refine r_get (v := .ref (xa g 1)) DX7_between_40 F_X7_12 e_0 rfl ?_
          refine r_iload_n DX7_between_43 (i := 1) rfl rfl ?_
          refine r_iload_n DX7_between_44 (i := 2) rfl rfl ?_
          obtain ⟨q45, e45, e⟩ := x_bnd e
          refine r_callV1 (As := [.int v1, .int v2]) (S := []) DX7_between_45 C_X7_101 (ci := 1) rfl rfl e_1 (by decide) (by decide) (Nat.le_of_ble_eq_true rfl) (t_X1_witnessSeen N v1 v2 a e45) rfl ?_
          refine r_goto DX7_between_48 (tgt := 60) (by decide) ?_
          obtain rfl := Option.some.inj e
          exact r_iret DX7_between_60 rfl rfl
      · replace e := x_ift c28 e
        refine r_sipush DX7_between_31 (v := (-1002)) (by decide) ?_
        obtain rfl := Option.some.inj e
        exact r_iret DX7_between_34 rfl rfl

set_option maxRecDepth 100000 in
set_option maxHeartbeats 4000000 in
theorem t_X7_bound {l : Launch} {g : xG} {b : xT} (N : Nat) (a : xT)  {r : Int32} (e : f_X7_bound N a = some r) : Ev l g 4 yX7_bound M_X7_bound [.ref (xa g 0)] (a, b) (some (.int r), (a, b)) := by
  unfold f_X7_bound at e
  refine Ev.of 1 (L0 := [some (.ref (xa g 0)), none]) (by decide) rfl (Nat.le_of_ble_eq_true rfl) rfl ?_
  refine r_aload_n DX7_bound_0 (i := 0) rfl rfl ?_
  refine r_get (v := .ref (xa g 1)) DX7_bound_1 F_X7_12 e_0 rfl ?_
  obtain ⟨q4, e4, e⟩ := x_bnd e
  refine r_callV1 (As := []) (S := []) DX7_bound_4 C_X7_154 (ci := 1) rfl rfl e_1 (by decide) (by decide) (Nat.le_of_ble_eq_true rfl) (t_X1_leastSights N a e4) rfl ?_
  refine r_istore_n (L' := [some (.ref (xa g 0)), some (.int q4)]) DX7_bound_7 (i := 1) rfl (by decide) rfl rfl ?_
  refine r_iload_n DX7_bound_8 (i := 1) rfl rfl ?_
  refine r_if_le DX7_bound_9 (tgt := 24) (by decide) (fun c9 => ?_) (fun c9 => ?_)
  · replace e := x_ift c9 e
    refine r_iconst DX7_bound_24 (v := 0) (by decide) ?_
    obtain rfl := Option.some.inj e
    exact r_iret DX7_bound_25 rfl rfl
  · replace e := x_iff c9 e
    refine r_aload_n DX7_bound_12 (i := 0) rfl rfl ?_
    refine r_get (v := .ref (xa g 1)) DX7_bound_13 F_X7_12 e_0 rfl ?_
    obtain ⟨q16, e16, e⟩ := x_bnd e
    refine r_callV1 (As := []) (S := []) DX7_bound_16 C_X7_157 (ci := 1) rfl rfl e_1 (by decide) (by decide) (Nat.le_of_ble_eq_true rfl) (t_X1_allSights N a e16) rfl ?_
    refine r_iload_n DX7_bound_19 (i := 1) rfl rfl ?_
    obtain ⟨c20, e⟩ := x_grd e
    refine r_idiv DX7_bound_20 c20 ?_
    refine r_goto DX7_bound_21 (tgt := 25) (by decide) ?_
    obtain rfl := Option.some.inj e
    exact r_iret DX7_bound_25 rfl rfl

set_option maxRecDepth 100000 in
set_option maxHeartbeats 4000000 in
theorem lp_X7_firstAlike_L13 {l : Launch} {g : xG} {b : xT} {R : Option Value × xS} (k1 : Nat) (v2 : Int32) (v4 : Int32) (a : xT) (hk1 : k1 < 7): ∀ (n : Nat) (v5 : Int32) (r : ((Unit) ⊕ (Int32))), f_X7_firstAlike_L13 k1 v2 v4 a n v5 = some r → (∀ z, r = (.inl z) → Rx l g 3 M_X7_firstAlike 51 [none, none, none, none, none, none] [] (a, b) R) → (∀ z, r = (.inr (z)) → Rx l g 3 M_X7_firstAlike 42 [none, none, none, none, none, some (.int z)] [] (a, b) R) → Rx l g 3 M_X7_firstAlike 13 [some (.ref (xa g 0)), some (.ref (xa g (23 + k1))), some (.int v2), none, some (.int v4), some (.int v5)] [] (a, b) R := by
  intro n
  induction n with
  | zero => intro v5_ r_ e; cases e
  | succ n ih =>
    intro v5 r e K0 K1
    rw [f_X7_firstAlike_L13] at e
    refine r_iload DX7_firstAlike_13 rfl ?_
    refine r_aload_n DX7_firstAlike_15 (i := 1) rfl rfl ?_
    refine r_get (v := .int (gI a (23 + k1))) DX7_firstAlike_16 F_X7_120 (e_ml hk1) rfl ?_
    refine r_icmp_ge DX7_firstAlike_19 (tgt := 51) (by decide) (fun c19 => ?_) (fun c19 => ?_)
    · replace e := x_ift c19 e
      obtain rfl := Option.some.inj e
      refine r_mask (L' := [none, none, none, none, none, none]) [false, false, false, false, false, false] rfl ?_
      exact K0 _ rfl
    · replace e := x_iff c19 e
      refine r_aload_n DX7_firstAlike_22 (i := 0) rfl rfl ?_
      refine r_get (v := .ref (xa g 1)) DX7_firstAlike_23 F_X7_12 e_0 rfl ?_
      refine r_iload_n DX7_firstAlike_26 (i := 2) rfl rfl ?_
      refine r_iload DX7_firstAlike_27 rfl ?_
      refine r_aload_n DX7_firstAlike_29 (i := 1) rfl rfl ?_
      refine r_get (v := .ref (xa g (30 + k1))) DX7_firstAlike_30 F_X7_130 (e_ml hk1) rfl ?_
      refine r_iload DX7_firstAlike_33 rfl ?_
      obtain ⟨c35, e⟩ := x_grd e
      refine r_iald (f := (gA a (30 + k1))) DX7_firstAlike_35 (e_mk hk1) rfl c35 ?_
      obtain ⟨q36, e36, e⟩ := x_bnd e
      refine r_callV1 (As := [.int v2, .int v4, .int ((gA a (30 + k1)) (Int32.toNatClampNeg v5))]) (S := []) DX7_firstAlike_36 C_X7_270 (ci := 1) rfl rfl e_1 (by decide) (by decide) (Nat.le_of_ble_eq_true rfl) (t_X1_alike v2 v4 ((gA a (30 + k1)) (Int32.toNatClampNeg v5)) a e36) rfl ?_
      refine r_if_eq DX7_firstAlike_39 (tgt := 45) (by decide) (fun c39 => ?_) (fun c39 => ?_)
      · replace e := x_ift c39 e
        refine r_iinc (L' := [some (.ref (xa g 0)), some (.ref (xa g (23 + k1))), some (.int v2), none, some (.int v4), some (.int (v5 + 1))]) DX7_firstAlike_45 (x := v5) (v := (v5 + 1)) rfl rfl (by decide) rfl rfl ?_
        refine r_goto DX7_firstAlike_48 (tgt := 13) (by decide) ?_
        exact ih _ _ e K0 K1
      · replace e := x_iff c39 e
        obtain rfl := Option.some.inj e
        refine r_mask (L' := [none, none, none, none, none, some (.int v5)]) [false, false, false, false, false, true] rfl ?_
        exact K1 _ rfl

set_option maxRecDepth 100000 in
set_option maxHeartbeats 4000000 in
theorem t_X7_firstAlike {l : Launch} {g : xG} {b : xT} (N : Nat) (k1 : Nat) (v2 : Int32) (v3 : Int32) (a : xT) (hk1 : k1 < 7) {r : Int32} (e : f_X7_firstAlike N k1 v2 v3 a = some r) : Ev l g 3 yX7_firstAlike M_X7_firstAlike [.ref (xa g 0), .ref (xa g (23 + k1)), .int v2, .int v3] (a, b) (some (.int r), (a, b)) := by
  unfold f_X7_firstAlike at e
  refine Ev.of 2 (L0 := [some (.ref (xa g 0)), some (.ref (xa g (23 + k1))), some (.int v2), some (.int v3), none, none]) (by decide) rfl (Nat.le_of_ble_eq_true rfl) rfl ?_
  refine r_aload_n DX7_firstAlike_0 (i := 0) rfl rfl ?_
  refine r_get (v := .ref (xa g 1)) DX7_firstAlike_1 F_X7_12 e_0 rfl ?_
  refine r_iload_n DX7_firstAlike_4 (i := 2) rfl rfl ?_
  obtain ⟨q5, e5, e⟩ := x_bnd e
  refine r_callV1 (As := [.int v2]) (S := []) DX7_firstAlike_5 C_X7_90 (ci := 1) rfl rfl e_1 (by decide) (by decide) (Nat.le_of_ble_eq_true rfl) (t_X1_reversed N v2 a e5) rfl ?_
  refine r_istore (L' := [some (.ref (xa g 0)), some (.ref (xa g (23 + k1))), some (.int v2), some (.int v3), some (.int q5), none]) DX7_firstAlike_8 (by decide) rfl rfl ?_
  refine r_iload_n DX7_firstAlike_10 (i := 3) rfl rfl ?_
  refine r_istore (L' := [some (.ref (xa g 0)), some (.ref (xa g (23 + k1))), some (.int v2), some (.int v3), some (.int q5), some (.int v3)]) DX7_firstAlike_11 (by decide) rfl rfl ?_
  obtain ⟨q13, e13, e⟩ := x_bnd e
  refine r_mask (L' := [some (.ref (xa g 0)), some (.ref (xa g (23 + k1))), some (.int v2), none, some (.int q5), some (.int v3)]) [true, true, true, false, true, true] rfl ?_
  refine lp_X7_firstAlike_L13 k1 v2 q5 a hk1 N v3 q13 e13 (fun z13_51 w13 => ?_) (fun z13_42 w13 => ?_)
  · subst w13
    dsimp only [Sum.elim] at e
    refine r_iconst DX7_firstAlike_51 (v := (-1)) (by decide) ?_
    obtain rfl := Option.some.inj e
    exact r_iret DX7_firstAlike_52 rfl rfl
  · subst w13
    dsimp only [Sum.elim] at e
    refine r_iload DX7_firstAlike_42 rfl ?_
    obtain rfl := Option.some.inj e
    exact r_iret DX7_firstAlike_44 rfl rfl

set_option maxRecDepth 100000 in
set_option maxHeartbeats 4000000 in
theorem lp_X7_build_L56 {l : Launch} {g : xG} {b : xT} {R : Option Value × xS} (N : Nat) (v2 : Int32) (v3 : Int32) (k4 : Nat) (v5 : Int32) (hk4 : k4 < 7): ∀ (n : Nat) (v6 : Int32) (a : xT) (r : (xT)), f_X7_build_L56 N v2 v3 k4 v5 n v6 a = some r → Rx l g 4 M_X7_build 114 [none, none, none, none, some (.ref (xa g (23 + k4))), none, none, none] [] (r, b) R → Rx l g 4 M_X7_build 56 [some (.ref (xa g 0)), none, some (.int v2), some (.int v3), some (.ref (xa g (23 + k4))), some (.int v5), some (.int v6), none] [] (a, b) R := by
  intro n
  induction n with
  | zero => intro v6_ s_ r_ e; cases e
  | succ n ih =>
    intro v6 a r e K0
    rw [f_X7_build_L56] at e
    refine r_iload DX7_build_56 rfl ?_
    refine r_iload DX7_build_58 rfl ?_
    refine r_icmp_gt DX7_build_60 (tgt := 114) (by decide) (fun c60 => ?_) (fun c60 => ?_)
    · replace e := x_ift c60 e
      obtain rfl := Option.some.inj e
      refine r_mask (L' := [none, none, none, none, some (.ref (xa g (23 + k4))), none, none, none]) [false, false, false, false, true, false, false, false] rfl ?_
      exact K0
    · replace e := x_iff c60 e
      refine r_aload DX7_build_63 rfl ?_
      refine r_get (v := .int (gI a (23 + k4))) DX7_build_65 F_X7_120 (e_ml hk4) rfl ?_
      refine r_iload_n DX7_build_68 (i := 3) rfl rfl ?_
      refine r_icmp_ge DX7_build_69 (tgt := 114) (by decide) (fun c69 => ?_) (fun c69 => ?_)
      · replace e := x_ift c69 e
        obtain rfl := Option.some.inj e
        refine r_mask (L' := [none, none, none, none, some (.ref (xa g (23 + k4))), none, none, none]) [false, false, false, false, true, false, false, false] rfl ?_
        exact K0
      · replace e := x_iff c69 e
        refine r_iload DX7_build_72 rfl ?_
        refine r_iconst DX7_build_74 (v := 2) (by decide) ?_
        refine r_iload_n DX7_build_75 (i := 2) rfl rfl ?_
        refine r_imul DX7_build_76 ?_
        refine r_iconst DX7_build_77 (v := 1) (by decide) ?_
        refine r_iadd DX7_build_78 ?_
        refine r_imul DX7_build_79 ?_
        refine r_iload_n DX7_build_80 (i := 2) rfl rfl ?_
        refine r_iadd DX7_build_81 ?_
        refine r_iload DX7_build_82 rfl ?_
        refine r_iand DX7_build_84 ?_
        refine r_istore (L' := [some (.ref (xa g 0)), none, some (.int v2), some (.int v3), some (.ref (xa g (23 + k4))), some (.int v5), some (.int v6), some (.int (((v6 * ((2 * v2) + 1)) + v2) &&& v5))]) DX7_build_85 (by decide) rfl rfl ?_
        refine r_aload_n DX7_build_87 (i := 0) rfl rfl ?_
        refine r_aload DX7_build_88 rfl ?_
        refine r_iload DX7_build_90 rfl ?_
        refine r_iconst DX7_build_92 (v := 0) (by decide) ?_
        obtain ⟨q93, e93, e⟩ := x_bnd e
        refine r_callV1 (As := [.ref (xa g (23 + k4)), .int (((v6 * ((2 * v2) + 1)) + v2) &&& v5), .int 0]) (S := []) DX7_build_93 C_X7_134 (ci := 7) rfl rfl e_0 (by decide) (by decide) (Nat.le_of_ble_eq_true rfl) (t_X7_firstAlike N k4 (((v6 * ((2 * v2) + 1)) + v2) &&& v5) 0 a hk4 e93) rfl ?_
        refine r_iconst DX7_build_96 (v := (-1)) (by decide) ?_
        refine r_icmp_ne DX7_build_97 (tgt := 108) (by decide) (fun c97 => ?_) (fun c97 => ?_)
        · replace e := x_iff c97 e
          refine r_iinc (L' := [some (.ref (xa g 0)), none, some (.int v2), some (.int v3), some (.ref (xa g (23 + k4))), some (.int v5), some (.int (v6 + 1)), some (.int (((v6 * ((2 * v2) + 1)) + v2) &&& v5))]) DX7_build_108 (x := v6) (v := (v6 + 1)) rfl rfl (by decide) rfl rfl ?_
          refine r_goto DX7_build_111 (tgt := 56) (by decide) ?_
          refine r_mask (L' := [some (.ref (xa g 0)), none, some (.int v2), some (.int v3), some (.ref (xa g (23 + k4))), some (.int v5), some (.int (v6 + 1)), none]) [true, false, true, true, true, true, true, false] rfl ?_
          exact ih _ _ _ e K0
        · replace e := x_ift c97 e
          refine r_aload DX7_build_100 rfl ?_
          refine r_iload DX7_build_102 rfl ?_
          obtain ⟨q104, e104, e⟩ := x_bnd e
          refine r_callV1 (As := [.int (((v6 * ((2 * v2) + 1)) + v2) &&& v5)]) (S := []) DX7_build_104 C_X7_117 (ci := 3) rfl rfl (e_ml hk4) (by decide) (by decide) (Nat.le_of_ble_eq_true rfl) (t_X3_append k4 (((v6 * ((2 * v2) + 1)) + v2) &&& v5) a hk4 e104) rfl ?_
          refine r_pop DX7_build_107 rfl ?_
          refine r_iinc (L' := [some (.ref (xa g 0)), none, some (.int v2), some (.int v3), some (.ref (xa g (23 + k4))), some (.int v5), some (.int (v6 + 1)), some (.int (((v6 * ((2 * v2) + 1)) + v2) &&& v5))]) DX7_build_108 (x := v6) (v := (v6 + 1)) rfl rfl (by decide) rfl rfl ?_
          refine r_goto DX7_build_111 (tgt := 56) (by decide) ?_
          refine r_mask (L' := [some (.ref (xa g 0)), none, some (.int v2), some (.int v3), some (.ref (xa g (23 + k4))), some (.int v5), some (.int (v6 + 1)), none]) [true, false, true, true, true, true, true, false] rfl ?_
          exact ih _ _ _ e K0

set_option maxRecDepth 100000 in
set_option maxHeartbeats 4000000 in
theorem t_X7_build {l : Launch} {g : xG} {b : xT} (N : Nat) (v1 : Int32) (v2 : Int32) (v3 : Int32) (a : xT)  {r : (Int32 × xT)} (e : f_X7_build N v1 v2 v3 a = some r) : Ev l g 4 yX7_build M_X7_build [.ref (xa g 0), .int v1, .int v2, .int v3] (a, b) (some (.int r.1), (r.2, b)) := by
  unfold f_X7_build at e
  refine Ev.of 4 (L0 := [some (.ref (xa g 0)), some (.int v1), some (.int v2), some (.int v3), none, none, none, none]) (by decide) rfl (Nat.le_of_ble_eq_true rfl) rfl ?_
  refine r_iload_n DX7_build_0 (i := 1) rfl rfl ?_
  obtain ⟨q1, e1, e⟩ := x_bnd e
  refine r_callS1 (As := [.int v1]) (S := []) DX7_build_1 C_X7_111 (by decide) (by decide) (Nat.le_of_ble_eq_true rfl) (t_X7_isList v1 e1) rfl ?_
  refine r_if_ne DX7_build_4 (tgt := 11) (by decide) (fun c4 => ?_) (fun c4 => ?_)
  · replace e := x_iff c4 e
    refine r_iload_n DX7_build_11 (i := 2) rfl rfl ?_
    refine r_iconst DX7_build_12 (v := 0) (by decide) ?_
    refine r_sipush DX7_build_13 (v := 4095) (by decide) ?_
    obtain ⟨q16, e16, e⟩ := x_bnd e
    refine r_callS1 (As := [.int v2, .int 0, .int 4095]) (S := []) DX7_build_16 C_X7_73 (by decide) (by decide) (Nat.le_of_ble_eq_true rfl) (t_X7_within v2 0 4095 e16) rfl ?_
    refine r_if_eq DX7_build_19 (tgt := 32) (by decide) (fun c19 => ?_) (fun c19 => ?_)
    · replace e := x_ift c19 e
      refine r_sipush DX7_build_32 (v := (-1002)) (by decide) ?_
      obtain rfl := Option.some.inj e
      exact r_iret DX7_build_35 rfl rfl
    · replace e := x_iff c19 e
      refine r_iload_n DX7_build_22 (i := 3) rfl rfl ?_
      refine r_iconst DX7_build_23 (v := 0) (by decide) ?_
      refine r_bipush DX7_build_24 (v := 64) (by decide) ?_
      obtain ⟨q26, e26, e⟩ := x_bnd e
      refine r_callS1 (As := [.int v3, .int 0, .int 64]) (S := []) DX7_build_26 C_X7_73 (by decide) (by decide) (Nat.le_of_ble_eq_true rfl) (t_X7_within v3 0 64 e26) rfl ?_
      refine r_if_ne DX7_build_29 (tgt := 36) (by decide) (fun c29 => ?_) (fun c29 => ?_)
      · replace e := x_iff c29 e
        refine r_aload_n DX7_build_36 (i := 0) rfl rfl ?_
        refine r_get (v := .ref (xa g 2)) DX7_build_37 F_X7_18 e_0 rfl ?_
        refine r_iload_n DX7_build_40 (i := 1) rfl rfl ?_
        obtain ⟨c41, e⟩ := x_grd e
        refine r_aald (b := (xa g (23 + (Int32.toNatClampNeg v1)))) DX7_build_41 e_2 rfl c41 rfl ?_
        refine r_astore (L' := [some (.ref (xa g 0)), some (.int v1), some (.int v2), some (.int v3), some (.ref (xa g (23 + (Int32.toNatClampNeg v1)))), none, none, none]) DX7_build_42 (by decide) rfl rfl ?_
        refine r_aload_n DX7_build_44 (i := 0) rfl rfl ?_
        refine r_get (v := .ref (xa g 1)) DX7_build_45 F_X7_12 e_0 rfl ?_
        obtain ⟨q48, e48, e⟩ := x_bnd e
        refine r_callV1 (As := []) (S := []) DX7_build_48 C_X7_142 (ci := 1) rfl rfl e_1 (by decide) (by decide) (Nat.le_of_ble_eq_true rfl) (t_X1_all a e48) rfl ?_
        refine r_istore (L' := [some (.ref (xa g 0)), some (.int v1), some (.int v2), some (.int v3), some (.ref (xa g (23 + (Int32.toNatClampNeg v1)))), some (.int q48), none, none]) DX7_build_51 (by decide) rfl rfl ?_
        refine r_iconst DX7_build_53 (v := 0) (by decide) ?_
        refine r_istore (L' := [some (.ref (xa g 0)), some (.int v1), some (.int v2), some (.int v3), some (.ref (xa g (23 + (Int32.toNatClampNeg v1)))), some (.int q48), some (.int 0), none]) DX7_build_54 (by decide) rfl rfl ?_
        obtain ⟨q56, e56, e⟩ := x_bnd e
        refine r_mask (L' := [some (.ref (xa g 0)), none, some (.int v2), some (.int v3), some (.ref (xa g (23 + (Int32.toNatClampNeg v1)))), some (.int q48), some (.int 0), none]) [true, false, true, true, true, true, true, false] rfl ?_
        refine lp_X7_build_L56 N v2 v3 (Int32.toNatClampNeg v1) q48 (x_in7 c41) N 0 a q56 e56 ?_
        refine r_aload DX7_build_114 rfl ?_
        refine r_get (v := .int (gI q56 (23 + (Int32.toNatClampNeg v1)))) DX7_build_116 F_X7_120 (e_ml (x_in7 c41)) rfl ?_
        obtain rfl := Option.some.inj e
        exact r_iret DX7_build_119 rfl rfl
      · replace e := x_ift c29 e
        refine r_sipush DX7_build_32 (v := (-1002)) (by decide) ?_
        obtain rfl := Option.some.inj e
        exact r_iret DX7_build_35 rfl rfl
  · replace e := x_ift c4 e
    refine r_sipush DX7_build_7 (v := (-1001)) (by decide) ?_
    obtain rfl := Option.some.inj e
    exact r_iret DX7_build_10 rfl rfl

set_option maxRecDepth 100000 in
set_option maxHeartbeats 4000000 in
theorem t_X7_isMark {l : Launch} {g : xG} {b : xT} (v1 : Int32) (v2 : Int32) (a : xT)  {r : Int32} (e : f_X7_isMark v1 v2 a = some r) : Ev l g 2 yX7_isMark M_X7_isMark [.ref (xa g 0), .int v1, .int v2] (a, b) (some (.int r), (a, b)) := by
  unfold f_X7_isMark at e
  refine Ev.of 0 (L0 := [some (.ref (xa g 0)), some (.int v1), some (.int v2)]) (by decide) rfl (Nat.le_of_ble_eq_true rfl) rfl ?_
  refine r_iload_n DX7_isMark_0 (i := 1) rfl rfl ?_
  obtain ⟨q1, e1, e⟩ := x_bnd e
  refine r_callS1 (As := [.int v1]) (S := []) DX7_isMark_1 C_X7_111 (by decide) (by decide) (Nat.le_of_ble_eq_true rfl) (t_X7_isList v1 e1) rfl ?_
  refine r_if_eq DX7_isMark_4 (tgt := 30) (by decide) (fun c4 => ?_) (fun c4 => ?_)
  · replace e := x_ift c4 e
    refine r_iconst DX7_isMark_30 (v := 0) (by decide) ?_
    obtain rfl := Option.some.inj e
    exact r_zret DX7_isMark_31 rfl (by decide) rfl
  · replace e := x_iff c4 e
    refine r_iload_n DX7_isMark_7 (i := 2) rfl rfl ?_
    refine r_iconst DX7_isMark_8 (v := 0) (by decide) ?_
    refine r_aload_n DX7_isMark_9 (i := 0) rfl rfl ?_
    refine r_get (v := .ref (xa g 2)) DX7_isMark_10 F_X7_18 e_0 rfl ?_
    refine r_iload_n DX7_isMark_13 (i := 1) rfl rfl ?_
    obtain ⟨c14, e⟩ := x_grd e
    refine r_aald (b := (xa g (23 + (Int32.toNatClampNeg v1)))) DX7_isMark_14 e_2 rfl c14 rfl ?_
    refine r_get (v := .int (gI a (23 + (Int32.toNatClampNeg v1)))) DX7_isMark_15 F_X7_120 (e_ml (x_in7 c14)) rfl ?_
    refine r_iconst DX7_isMark_18 (v := 1) (by decide) ?_
    refine r_isub DX7_isMark_19 ?_
    obtain ⟨q20, e20, e⟩ := x_bnd e
    refine r_callS1 (As := [.int v2, .int 0, .int ((gI a (23 + (Int32.toNatClampNeg v1))) - 1)]) (S := []) DX7_isMark_20 C_X7_73 (by decide) (by decide) (Nat.le_of_ble_eq_true rfl) (t_X7_within v2 0 ((gI a (23 + (Int32.toNatClampNeg v1))) - 1) e20) rfl ?_
    refine r_if_eq DX7_isMark_23 (tgt := 30) (by decide) (fun c23 => ?_) (fun c23 => ?_)
    · replace e := x_ift c23 e
      refine r_iconst DX7_isMark_30 (v := 0) (by decide) ?_
      obtain rfl := Option.some.inj e
      exact r_zret DX7_isMark_31 rfl (by decide) rfl
    · replace e := x_iff c23 e
      refine r_iconst DX7_isMark_26 (v := 1) (by decide) ?_
      refine r_goto DX7_isMark_27 (tgt := 31) (by decide) ?_
      obtain rfl := Option.some.inj e
      exact r_zret DX7_isMark_31 rfl (by decide) rfl

set_option maxRecDepth 100000 in
set_option maxHeartbeats 4000000 in
theorem t_X7_chance {l : Launch} {g : xG} {b : xT} (N : Nat) (v1 : Int32) (v2 : Int32) (a : xT)  {r : Int64} (e : f_X7_chance N v1 v2 a = some r) : Ev l g 3 yX7_chance M_X7_chance [.ref (xa g 0), .int v1, .int v2] (a, b) (some (.long r), (a, b)) := by
  unfold f_X7_chance at e
  refine Ev.of 0 (L0 := [some (.ref (xa g 0)), some (.int v1), some (.int v2)]) (by decide) rfl (Nat.le_of_ble_eq_true rfl) rfl ?_
  refine r_aload_n DX7_chance_0 (i := 0) rfl rfl ?_
  refine r_iload_n DX7_chance_1 (i := 1) rfl rfl ?_
  refine r_iload_n DX7_chance_2 (i := 2) rfl rfl ?_
  obtain ⟨q3, e3, e⟩ := x_bnd e
  refine r_callV1 (As := [.int v1, .int v2]) (S := []) DX7_chance_3 C_X7_123 (ci := 7) rfl rfl e_0 (by decide) (by decide) (Nat.le_of_ble_eq_true rfl) (t_X7_isMark v1 v2 a e3) rfl ?_
  refine r_if_eq DX7_chance_6 (tgt := 30) (by decide) (fun c6 => ?_) (fun c6 => ?_)
  · replace e := x_ift c6 e
    refine r_ldc2 DX7_chance_30 K_X7_212 ?_
    obtain rfl := Option.some.inj e
    exact r_lret DX7_chance_33 rfl rfl
  · replace e := x_iff c6 e
    refine r_aload_n DX7_chance_9 (i := 0) rfl rfl ?_
    refine r_get (v := .ref (xa g 3)) DX7_chance_10 F_X7_30 e_0 rfl ?_
    refine r_aload_n DX7_chance_13 (i := 0) rfl rfl ?_
    refine r_get (v := .ref (xa g 2)) DX7_chance_14 F_X7_18 e_0 rfl ?_
    refine r_iload_n DX7_chance_17 (i := 1) rfl rfl ?_
    obtain ⟨c18, e⟩ := x_grd e
    refine r_aald (b := (xa g (23 + (Int32.toNatClampNeg v1)))) DX7_chance_18 e_2 rfl c18 rfl ?_
    refine r_get (v := .ref (xa g (30 + (Int32.toNatClampNeg v1)))) DX7_chance_19 F_X7_130 (e_ml (x_in7 c18)) rfl ?_
    refine r_iload_n DX7_chance_22 (i := 2) rfl rfl ?_
    obtain ⟨c23, e⟩ := x_grd e
    refine r_iald (f := (gA a (30 + (Int32.toNatClampNeg v1)))) DX7_chance_23 (e_mk (x_in7 c18)) rfl c23 ?_
    obtain ⟨q24, e24, e⟩ := x_bnd e
    refine r_callV1 (As := [.int ((gA a (30 + (Int32.toNatClampNeg v1))) (Int32.toNatClampNeg v2))]) (S := []) DX7_chance_24 C_X7_208 (ci := 4) rfl rfl e_3 (by decide) (by decide) (Nat.le_of_ble_eq_true rfl) (t_X4_chanceOf N ((gA a (30 + (Int32.toNatClampNeg v1))) (Int32.toNatClampNeg v2)) a e24) rfl ?_
    refine r_goto DX7_chance_27 (tgt := 33) (by decide) ?_
    obtain rfl := Option.some.inj e
    exact r_lret DX7_chance_33 rfl rfl

set_option maxRecDepth 100000 in
set_option maxHeartbeats 4000000 in
theorem t_X7_clear {l : Launch} {g : xG} {b : xT} (N : Nat) (v1 : Int32) (a : xT)  {r : (Int32 × xT)} (e : f_X7_clear N v1 a = some r) : Ev l g 2 yX7_clear M_X7_clear [.ref (xa g 0), .int v1] (a, b) (some (.int r.1), (r.2, b)) := by
  unfold f_X7_clear at e
  refine Ev.of 1 (L0 := [some (.ref (xa g 0)), some (.int v1), none]) (by decide) rfl (Nat.le_of_ble_eq_true rfl) rfl ?_
  refine r_iload_n DX7_clear_0 (i := 1) rfl rfl ?_
  obtain ⟨q1, e1, e⟩ := x_bnd e
  refine r_callS1 (As := [.int v1]) (S := []) DX7_clear_1 C_X7_111 (by decide) (by decide) (Nat.le_of_ble_eq_true rfl) (t_X7_isList v1 e1) rfl ?_
  refine r_if_ne DX7_clear_4 (tgt := 11) (by decide) (fun c4 => ?_) (fun c4 => ?_)
  · replace e := x_iff c4 e
    refine r_aload_n DX7_clear_11 (i := 0) rfl rfl ?_
    refine r_get (v := .ref (xa g 2)) DX7_clear_12 F_X7_18 e_0 rfl ?_
    refine r_iload_n DX7_clear_15 (i := 1) rfl rfl ?_
    obtain ⟨c16, e⟩ := x_grd e
    refine r_aald (b := (xa g (23 + (Int32.toNatClampNeg v1)))) DX7_clear_16 e_2 rfl c16 rfl ?_
    refine r_get (v := .int (gI a (23 + (Int32.toNatClampNeg v1)))) DX7_clear_17 F_X7_120 (e_ml (x_in7 c16)) rfl ?_
    refine r_istore_n (L' := [some (.ref (xa g 0)), some (.int v1), some (.int (gI a (23 + (Int32.toNatClampNeg v1))))]) DX7_clear_20 (i := 2) rfl (by decide) rfl rfl ?_
    refine r_aload_n DX7_clear_21 (i := 0) rfl rfl ?_
    refine r_get (v := .ref (xa g 2)) DX7_clear_22 F_X7_18 e_0 rfl ?_
    refine r_iload_n DX7_clear_25 (i := 1) rfl rfl ?_
    obtain ⟨c26, e⟩ := x_grd e
    refine r_aald (b := (xa g (23 + (Int32.toNatClampNeg v1)))) DX7_clear_26 e_2 rfl c26 rfl ?_
    obtain ⟨q27, e27, e⟩ := x_bnd e
    refine r_callV0 (As := []) (S := []) DX7_clear_27 C_X7_66 (ci := 3) rfl rfl (e_ml (x_in7 c26)) (by decide) (by decide) (Nat.le_of_ble_eq_true rfl) (t_X3_wipe N (Int32.toNatClampNeg v1) a (x_in7 c26) e27) rfl ?_
    refine r_iload_n DX7_clear_30 (i := 2) rfl rfl ?_
    obtain rfl := Option.some.inj e
    exact r_iret DX7_clear_31 rfl rfl
  · replace e := x_ift c4 e
    refine r_sipush DX7_clear_7 (v := (-1001)) (by decide) ?_
    obtain rfl := Option.some.inj e
    exact r_iret DX7_clear_10 rfl rfl

set_option maxRecDepth 100000 in
set_option maxHeartbeats 4000000 in
theorem lp_X7_marksInAll_L4 {l : Launch} {g : xG} {b : xT} {R : Option Value × xS} (a : xT) : ∀ (n : Nat) (v1 : Int32) (v2 : Int32) (r : (Int32)), f_X7_marksInAll_L4 a n v1 v2 = some r → Rx l g 0 M_X7_marksInAll 28 [none, some (.int r), none] [] (a, b) R → Rx l g 0 M_X7_marksInAll 4 [some (.ref (xa g 0)), some (.int v1), some (.int v2)] [] (a, b) R := by
  intro n
  induction n with
  | zero => intro v1_ v2_ r_ e; cases e
  | succ n ih =>
    intro v1 v2 r e K0
    rw [f_X7_marksInAll_L4] at e
    refine r_iload_n DX7_marksInAll_4 (i := 2) rfl rfl ?_
    refine r_bipush DX7_marksInAll_5 (v := 6) (by decide) ?_
    refine r_icmp_ge DX7_marksInAll_7 (tgt := 28) (by decide) (fun c7 => ?_) (fun c7 => ?_)
    · replace e := x_ift c7 e
      obtain rfl := Option.some.inj e
      refine r_mask (L' := [none, some (.int v1), none]) [false, true, false] rfl ?_
      exact K0
    · replace e := x_iff c7 e
      refine r_iload_n DX7_marksInAll_10 (i := 1) rfl rfl ?_
      refine r_aload_n DX7_marksInAll_11 (i := 0) rfl rfl ?_
      refine r_get (v := .ref (xa g 2)) DX7_marksInAll_12 F_X7_18 e_0 rfl ?_
      refine r_iload_n DX7_marksInAll_15 (i := 2) rfl rfl ?_
      obtain ⟨c16, e⟩ := x_grd e
      refine r_aald (b := (xa g (23 + (Int32.toNatClampNeg v2)))) DX7_marksInAll_16 e_2 rfl c16 rfl ?_
      refine r_get (v := .int (gI a (23 + (Int32.toNatClampNeg v2)))) DX7_marksInAll_17 F_X7_120 (e_ml (x_in7 c16)) rfl ?_
      refine r_iadd DX7_marksInAll_20 ?_
      refine r_istore_n (L' := [some (.ref (xa g 0)), some (.int (v1 + (gI a (23 + (Int32.toNatClampNeg v2))))), some (.int v2)]) DX7_marksInAll_21 (i := 1) rfl (by decide) rfl rfl ?_
      refine r_iinc (L' := [some (.ref (xa g 0)), some (.int (v1 + (gI a (23 + (Int32.toNatClampNeg v2))))), some (.int (v2 + 1))]) DX7_marksInAll_22 (x := v2) (v := (v2 + 1)) rfl rfl (by decide) rfl rfl ?_
      refine r_goto DX7_marksInAll_25 (tgt := 4) (by decide) ?_
      exact ih _ _ _ e K0

set_option maxRecDepth 100000 in
set_option maxHeartbeats 4000000 in
theorem t_X7_marksInAll {l : Launch} {g : xG} {b : xT} (N : Nat) (a : xT)  {r : Int32} (e : f_X7_marksInAll N a = some r) : Ev l g 0 yX7_marksInAll M_X7_marksInAll [.ref (xa g 0)] (a, b) (some (.int r), (a, b)) := by
  unfold f_X7_marksInAll at e
  refine Ev.of 2 (L0 := [some (.ref (xa g 0)), none, none]) (by decide) rfl (Nat.le_of_ble_eq_true rfl) rfl ?_
  refine r_iconst DX7_marksInAll_0 (v := 0) (by decide) ?_
  refine r_istore_n (L' := [some (.ref (xa g 0)), some (.int 0), none]) DX7_marksInAll_1 (i := 1) rfl (by decide) rfl rfl ?_
  refine r_iconst DX7_marksInAll_2 (v := 0) (by decide) ?_
  refine r_istore_n (L' := [some (.ref (xa g 0)), some (.int 0), some (.int 0)]) DX7_marksInAll_3 (i := 2) rfl (by decide) rfl rfl ?_
  obtain ⟨q4, e4, e⟩ := x_bnd e
  refine lp_X7_marksInAll_L4 a N 0 0 q4 e4 ?_
  refine r_iload_n DX7_marksInAll_28 (i := 1) rfl rfl ?_
  obtain rfl := Option.some.inj e
  exact r_iret DX7_marksInAll_29 rfl rfl

set_option maxRecDepth 100000 in
set_option maxHeartbeats 4000000 in
theorem t_X7_count {l : Launch} {g : xG} {b : xT} (N : Nat) (v1 : Int32) (a : xT)  {r : Int32} (e : f_X7_count N v1 a = some r) : Ev l g 1 yX7_count M_X7_count [.ref (xa g 0), .int v1] (a, b) (some (.int r), (a, b)) := by
  unfold f_X7_count at e
  refine Ev.of 0 (L0 := [some (.ref (xa g 0)), some (.int v1)]) (by decide) rfl (Nat.le_of_ble_eq_true rfl) rfl ?_
  refine r_iload_n DX7_count_0 (i := 1) rfl rfl ?_
  by_cases c1_0 : v1 = 0
  · replace e := x_ift c1_0 e
    refine r_tsIn DX7_count_1 (tgt := 28) (by rw [c1_0]; decide) (by rw [c1_0]; decide) (by rw [c1_0]; rfl) (by decide) ?_
    refine r_aload_n DX7_count_28 (i := 0) rfl rfl ?_
    obtain ⟨q29, e29, e⟩ := x_bnd e
    refine r_callV1 (As := []) (S := []) DX7_count_29 C_X7_199 (ci := 7) rfl rfl e_0 (by decide) (by decide) (Nat.le_of_ble_eq_true rfl) (t_X7_marksInAll N a e29) rfl ?_
    obtain rfl := Option.some.inj e
    exact r_iret DX7_count_32 rfl rfl
  replace e := x_iff c1_0 e
  by_cases c1_1 : v1 = 1
  · replace e := x_ift c1_1 e
    refine r_tsIn DX7_count_1 (tgt := 33) (by rw [c1_1]; decide) (by rw [c1_1]; decide) (by rw [c1_1]; rfl) (by decide) ?_
    refine r_aload_n DX7_count_33 (i := 0) rfl rfl ?_
    refine r_get (v := .ref (xa g 6)) DX7_count_34 F_X7_37 e_0 rfl ?_
    refine r_get (v := .int (gI a 5)) DX7_count_37 F_X7_182 e_6 rfl ?_
    obtain rfl := Option.some.inj e
    exact r_iret DX7_count_40 rfl rfl
  replace e := x_iff c1_1 e
  by_cases c1_2 : v1 = 2
  · replace e := x_ift c1_2 e
    refine r_tsIn DX7_count_1 (tgt := 41) (by rw [c1_2]; decide) (by rw [c1_2]; decide) (by rw [c1_2]; rfl) (by decide) ?_
    refine r_aload_n DX7_count_41 (i := 0) rfl rfl ?_
    refine r_get (v := .ref (xa g 3)) DX7_count_42 F_X7_30 e_0 rfl ?_
    obtain ⟨q45, e45, e⟩ := x_bnd e
    refine r_callV1 (As := []) (S := []) DX7_count_45 C_X7_202 (ci := 4) rfl rfl e_3 (by decide) (by decide) (Nat.le_of_ble_eq_true rfl) (t_X4_lookedAt N a e45) rfl ?_
    obtain rfl := Option.some.inj e
    exact r_iret DX7_count_48 rfl rfl
  replace e := x_iff c1_2 e
  refine r_tsOut DX7_count_1 (tgt := 49) (x_out0_2 (x_ne c1_0) (x_ne c1_1) (x_ne c1_2)) (by decide) ?_
  refine r_sipush DX7_count_49 (v := (-1002)) (by decide) ?_
  obtain rfl := Option.some.inj e
  exact r_iret DX7_count_52 rfl rfl

set_option maxRecDepth 100000 in
set_option maxHeartbeats 4000000 in
theorem t_X7_drop {l : Launch} {g : xG} {b : xT} (v1 : Int32) (v2 : Int32) (a : xT)  {r : (Int32 × xT)} (e : f_X7_drop v1 v2 a = some r) : Ev l g 3 yX7_drop M_X7_drop [.ref (xa g 0), .int v1, .int v2] (a, b) (some (.int r.1), (r.2, b)) := by
  unfold f_X7_drop at e
  refine Ev.of 0 (L0 := [some (.ref (xa g 0)), some (.int v1), some (.int v2)]) (by decide) rfl (Nat.le_of_ble_eq_true rfl) rfl ?_
  refine r_aload_n DX7_drop_0 (i := 0) rfl rfl ?_
  refine r_iload_n DX7_drop_1 (i := 1) rfl rfl ?_
  refine r_iload_n DX7_drop_2 (i := 2) rfl rfl ?_
  obtain ⟨q3, e3, e⟩ := x_bnd e
  refine r_callV1 (As := [.int v1, .int v2]) (S := []) DX7_drop_3 C_X7_123 (ci := 7) rfl rfl e_0 (by decide) (by decide) (Nat.le_of_ble_eq_true rfl) (t_X7_isMark v1 v2 a e3) rfl ?_
  refine r_if_ne DX7_drop_6 (tgt := 13) (by decide) (fun c6 => ?_) (fun c6 => ?_)
  · replace e := x_iff c6 e
    refine r_aload_n DX7_drop_13 (i := 0) rfl rfl ?_
    refine r_get (v := .ref (xa g 2)) DX7_drop_14 F_X7_18 e_0 rfl ?_
    refine r_iload_n DX7_drop_17 (i := 1) rfl rfl ?_
    obtain ⟨c18, e⟩ := x_grd e
    refine r_aald (b := (xa g (23 + (Int32.toNatClampNeg v1)))) DX7_drop_18 e_2 rfl c18 rfl ?_
    refine r_iload_n DX7_drop_19 (i := 2) rfl rfl ?_
    obtain ⟨q20, e20, e⟩ := x_bnd e
    refine r_callV0 (As := [.int v2]) (S := []) DX7_drop_20 C_X7_126 (ci := 3) rfl rfl (e_ml (x_in7 c18)) (by decide) (by decide) (Nat.le_of_ble_eq_true rfl) (t_X3_remove (Int32.toNatClampNeg v1) v2 a (x_in7 c18) e20) rfl ?_
    refine r_aload_n DX7_drop_23 (i := 0) rfl rfl ?_
    refine r_get (v := .ref (xa g 2)) DX7_drop_24 F_X7_18 e_0 rfl ?_
    refine r_iload_n DX7_drop_27 (i := 1) rfl rfl ?_
    obtain ⟨c28, e⟩ := x_grd e
    refine r_aald (b := (xa g (23 + (Int32.toNatClampNeg v1)))) DX7_drop_28 e_2 rfl c28 rfl ?_
    refine r_get (v := .int (gI q20 (23 + (Int32.toNatClampNeg v1)))) DX7_drop_29 F_X7_120 (e_ml (x_in7 c28)) rfl ?_
    obtain rfl := Option.some.inj e
    exact r_iret DX7_drop_32 rfl rfl
  · replace e := x_ift c6 e
    refine r_sipush DX7_drop_9 (v := (-1001)) (by decide) ?_
    obtain rfl := Option.some.inj e
    exact r_iret DX7_drop_12 rfl rfl

set_option maxRecDepth 100000 in
set_option maxHeartbeats 4000000 in
theorem t_X7_isPlace {l : Launch} {g : xG} {b : xT} (v1 : Int32) (a : xT)  {r : Int32} (e : f_X7_isPlace v1 a = some r) : Ev l g 1 yX7_isPlace M_X7_isPlace [.ref (xa g 0), .int v1] (a, b) (some (.int r), (a, b)) := by
  unfold f_X7_isPlace at e
  refine Ev.of 0 (L0 := [some (.ref (xa g 0)), some (.int v1)]) (by decide) rfl (Nat.le_of_ble_eq_true rfl) rfl ?_
  refine r_iload_n DX7_isPlace_0 (i := 1) rfl rfl ?_
  refine r_iconst DX7_isPlace_1 (v := 0) (by decide) ?_
  refine r_aload_n DX7_isPlace_2 (i := 0) rfl rfl ?_
  refine r_get (v := .ref (xa g 1)) DX7_isPlace_3 F_X7_12 e_0 rfl ?_
  refine r_get (v := .int (gI a 0)) DX7_isPlace_6 F_X7_62 e_1 rfl ?_
  refine r_iconst DX7_isPlace_9 (v := 1) (by decide) ?_
  refine r_isub DX7_isPlace_10 ?_
  obtain ⟨q11, e11, e⟩ := x_bnd e
  refine r_callS1 (As := [.int v1, .int 0, .int ((gI a 0) - 1)]) (S := []) DX7_isPlace_11 C_X7_73 (by decide) (by decide) (Nat.le_of_ble_eq_true rfl) (t_X7_within v1 0 ((gI a 0) - 1) e11) rfl ?_
  obtain ⟨c14, e⟩ := x_grd e
  obtain rfl := Option.some.inj e
  exact r_zret DX7_isPlace_14 rfl (congrArg Value.int c14) rfl

set_option maxRecDepth 100000 in
set_option maxHeartbeats 4000000 in
theorem lp_X7_even_L40 {l : Launch} {g : xG} {b : xT} {R : Option Value × xS} (v1 : Int32) (v2 : Int32) (v3 : Int32) : ∀ (n : Nat) (v4 : Int32) (a : xT) (r : (xT)), f_X7_even_L40 v1 v2 v3 n v4 a = some r → Rx l g 4 M_X7_even 100 [some (.ref (xa g 0)), some (.int v1), none, none, none, none] [] (r, b) R → Rx l g 4 M_X7_even 40 [some (.ref (xa g 0)), some (.int v1), some (.int v2), some (.int v3), some (.int v4), none] [] (a, b) R := by
  intro n
  induction n with
  | zero => intro v4_ s_ r_ e; cases e
  | succ n ih =>
    intro v4 a r e K0
    rw [f_X7_even_L40] at e
    refine r_iload DX7_even_40 rfl ?_
    refine r_aload_n DX7_even_42 (i := 0) rfl rfl ?_
    refine r_get (v := .ref (xa g 2)) DX7_even_43 F_X7_18 e_0 rfl ?_
    refine r_iload_n DX7_even_46 (i := 2) rfl rfl ?_
    obtain ⟨c47, e⟩ := x_grd e
    refine r_aald (b := (xa g (23 + (Int32.toNatClampNeg v2)))) DX7_even_47 e_2 rfl c47 rfl ?_
    refine r_get (v := .int (gI a (23 + (Int32.toNatClampNeg v2)))) DX7_even_48 F_X7_120 (e_ml (x_in7 c47)) rfl ?_
    refine r_icmp_ge DX7_even_51 (tgt := 100) (by decide) (fun c51 => ?_) (fun c51 => ?_)
    · replace e := x_ift c51 e
      obtain rfl := Option.some.inj e
      refine r_mask (L' := [some (.ref (xa g 0)), some (.int v1), none, none, none, none]) [true, true, false, false, false, false] rfl ?_
      exact K0
    · replace e := x_iff c51 e
      refine r_aload_n DX7_even_54 (i := 0) rfl rfl ?_
      refine r_get (v := .ref (xa g 2)) DX7_even_55 F_X7_18 e_0 rfl ?_
      refine r_iload_n DX7_even_58 (i := 2) rfl rfl ?_
      obtain ⟨c59, e⟩ := x_grd e
      refine r_aald (b := (xa g (23 + (Int32.toNatClampNeg v2)))) DX7_even_59 e_2 rfl c59 rfl ?_
      refine r_get (v := .ref (xa g (30 + (Int32.toNatClampNeg v2)))) DX7_even_60 F_X7_130 (e_ml (x_in7 c59)) rfl ?_
      refine r_iload DX7_even_63 rfl ?_
      obtain ⟨c65, e⟩ := x_grd e
      refine r_iald (f := (gA a (30 + (Int32.toNatClampNeg v2)))) DX7_even_65 (e_mk (x_in7 c59)) rfl c65 ?_
      refine r_iconst DX7_even_66 (v := 1) (by decide) ?_
      refine r_iload_n DX7_even_67 (i := 3) rfl rfl ?_
      refine r_ishl DX7_even_68 ?_
      refine r_iconst DX7_even_69 (v := (-1)) (by decide) ?_
      refine r_ixor DX7_even_70 ?_
      refine r_iand DX7_even_71 ?_
      obtain ⟨w72, e72, e⟩ := x_bnd e
      refine r_istoreB (L' := [some (.ref (xa g 0)), some (.int v1), some (.int v2), some (.int v3), some (.int v4), some (.int w72)]) (w := w72) DX7_even_72 (Option.some.inj e72) (by decide) rfl rfl ?_
      refine r_aload_n DX7_even_74 (i := 0) rfl rfl ?_
      refine r_get (v := .ref (xa g (23 + 6))) DX7_even_75 F_X7_23 e_0 rfl ?_
      refine r_iload DX7_even_78 rfl ?_
      refine r_iload DX7_even_80 rfl ?_
      obtain ⟨q82, e82, e⟩ := x_bnd e
      refine r_callS1 (As := [.int w72]) (S := [.int w72, .ref (xa g (23 + 6))]) DX7_even_82 C_X7_173 (by decide) (by decide) (Nat.le_of_ble_eq_true rfl) (t_J6_bitCount_0f7a4 w72 e82) rfl ?_
      refine r_iconst DX7_even_85 (v := 1) (by decide) ?_
      refine r_iand DX7_even_86 ?_
      refine r_iload_n DX7_even_87 (i := 3) rfl rfl ?_
      refine r_ishl DX7_even_88 ?_
      refine r_ior DX7_even_89 ?_
      obtain ⟨q90, e90, e⟩ := x_bnd e
      refine r_callV1 (As := [.int (w72 ||| ((q82 &&& 1) <<< (v3 &&& 31)))]) (S := []) DX7_even_90 C_X7_160 (ci := 3) rfl rfl (e_ml (by decide)) (by decide) (by decide) (Nat.le_of_ble_eq_true rfl) (t_X3_appendOnce 6 (w72 ||| ((q82 &&& 1) <<< (v3 &&& 31))) a (by decide) e90) rfl ?_
      refine r_pop DX7_even_93 rfl ?_
      refine r_iinc (L' := [some (.ref (xa g 0)), some (.int v1), some (.int v2), some (.int v3), some (.int (v4 + 1)), some (.int w72)]) DX7_even_94 (x := v4) (v := (v4 + 1)) rfl rfl (by decide) rfl rfl ?_
      refine r_goto DX7_even_97 (tgt := 40) (by decide) ?_
      refine r_mask (L' := [some (.ref (xa g 0)), some (.int v1), some (.int v2), some (.int v3), some (.int (v4 + 1)), none]) [true, true, true, true, true, false] rfl ?_
      exact ih _ _ _ e K0

set_option maxRecDepth 100000 in
set_option maxHeartbeats 4000000 in
theorem t_X7_even {l : Launch} {g : xG} {b : xT} (N : Nat) (v1 : Int32) (v2 : Int32) (v3 : Int32) (a : xT)  {r : (Int32 × xT)} (e : f_X7_even N v1 v2 v3 a = some r) : Ev l g 4 yX7_even M_X7_even [.ref (xa g 0), .int v1, .int v2, .int v3] (a, b) (some (.int r.1), (r.2, b)) := by
  unfold f_X7_even at e
  refine Ev.of 2 (L0 := [some (.ref (xa g 0)), some (.int v1), some (.int v2), some (.int v3), none, none]) (by decide) rfl (Nat.le_of_ble_eq_true rfl) rfl ?_
  refine r_iload_n DX7_even_0 (i := 1) rfl rfl ?_
  obtain ⟨q1, e1, e⟩ := x_bnd e
  refine r_callS1 (As := [.int v1]) (S := []) DX7_even_1 C_X7_111 (by decide) (by decide) (Nat.le_of_ble_eq_true rfl) (t_X7_isList v1 e1) rfl ?_
  refine r_if_eq DX7_even_4 (tgt := 14) (by decide) (fun c4 => ?_) (fun c4 => ?_)
  · replace e := x_ift c4 e
    refine r_sipush DX7_even_14 (v := (-1001)) (by decide) ?_
    obtain rfl := Option.some.inj e
    exact r_iret DX7_even_17 rfl rfl
  · replace e := x_iff c4 e
    refine r_iload_n DX7_even_7 (i := 2) rfl rfl ?_
    obtain ⟨q8, e8, e⟩ := x_bnd e
    refine r_callS1 (As := [.int v2]) (S := []) DX7_even_8 C_X7_111 (by decide) (by decide) (Nat.le_of_ble_eq_true rfl) (t_X7_isList v2 e8) rfl ?_
    refine r_if_ne DX7_even_11 (tgt := 18) (by decide) (fun c11 => ?_) (fun c11 => ?_)
    · replace e := x_iff c11 e
      refine r_aload_n DX7_even_18 (i := 0) rfl rfl ?_
      refine r_iload_n DX7_even_19 (i := 3) rfl rfl ?_
      obtain ⟨q20, e20, e⟩ := x_bnd e
      refine r_callV1 (As := [.int v3]) (S := []) DX7_even_20 C_X7_170 (ci := 7) rfl rfl e_0 (by decide) (by decide) (Nat.le_of_ble_eq_true rfl) (t_X7_isPlace v3 a e20) rfl ?_
      refine r_if_ne DX7_even_23 (tgt := 30) (by decide) (fun c23 => ?_) (fun c23 => ?_)
      · replace e := x_iff c23 e
        refine r_aload_n DX7_even_30 (i := 0) rfl rfl ?_
        refine r_get (v := .ref (xa g (23 + 6))) DX7_even_31 F_X7_23 e_0 rfl ?_
        obtain ⟨q34, e34, e⟩ := x_bnd e
        refine r_callV0 (As := []) (S := []) DX7_even_34 C_X7_66 (ci := 3) rfl rfl (e_ml (by decide)) (by decide) (by decide) (Nat.le_of_ble_eq_true rfl) (t_X3_wipe N 6 a (by decide) e34) rfl ?_
        refine r_iconst DX7_even_37 (v := 0) (by decide) ?_
        refine r_istore (L' := [some (.ref (xa g 0)), some (.int v1), some (.int v2), some (.int v3), some (.int 0), none]) DX7_even_38 (by decide) rfl rfl ?_
        obtain ⟨q40, e40, e⟩ := x_bnd e
        refine lp_X7_even_L40 v1 v2 v3 N 0 q34 q40 e40 ?_
        refine r_aload_n DX7_even_100 (i := 0) rfl rfl ?_
        refine r_iload_n DX7_even_101 (i := 1) rfl rfl ?_
        obtain ⟨q102, e102, e⟩ := x_bnd e
        refine r_callV1 (As := [.int v1]) (S := []) DX7_even_102 C_X7_163 (ci := 7) rfl rfl e_0 (by decide) (by decide) (Nat.le_of_ble_eq_true rfl) (t_X7_becomesFresh v1 q40 e102) rfl ?_
        obtain rfl := Option.some.inj e
        exact r_iret DX7_even_105 rfl rfl
      · replace e := x_ift c23 e
        refine r_sipush DX7_even_26 (v := (-1002)) (by decide) ?_
        obtain rfl := Option.some.inj e
        exact r_iret DX7_even_29 rfl rfl
    · replace e := x_ift c11 e
      refine r_sipush DX7_even_14 (v := (-1001)) (by decide) ?_
      obtain rfl := Option.some.inj e
      exact r_iret DX7_even_17 rfl rfl

set_option maxRecDepth 100000 in
set_option maxHeartbeats 4000000 in
theorem t_X7_fault {l : Launch} {g : xG} {b : xT} (a : xT)  {r : Int32} (e : f_X7_fault a = some r) : Ev l g 0 yX7_fault M_X7_fault [.ref (xa g 0)] (a, b) (some (.int r), (a, b)) := by
  unfold f_X7_fault at e
  refine Ev.of 0 (L0 := [some (.ref (xa g 0))]) (by decide) rfl (Nat.le_of_ble_eq_true rfl) rfl ?_
  refine r_aload_n DX7_fault_0 (i := 0) rfl rfl ?_
  refine r_get (v := .ref (xa g 8)) DX7_fault_1 F_X7_44 e_0 rfl ?_
  refine r_get (v := .int (gI a 11)) DX7_fault_4 F_X7_196 e_8 rfl ?_
  obtain rfl := Option.some.inj e
  exact r_iret DX7_fault_7 rfl rfl

set_option maxRecDepth 100000 in
set_option maxHeartbeats 4000000 in
theorem t_X7_feed {l : Launch} {g : xG} {b : xT} (N : Nat) (v1 : Int32) (v2 : Int64) (a : xT)  {r : (Int32 × xT)} (e : f_X7_feed N v1 v2 a = some r) : Ev l g 1 yX7_feed M_X7_feed [.ref (xa g 0), .int v1, .long v2] (a, b) (some (.int r.1), (r.2, b)) := by
  unfold f_X7_feed at e
  refine Ev.of 0 (L0 := [some (.ref (xa g 0)), some (.int v1), some (.long v2), none]) (by decide) rfl (Nat.le_of_ble_eq_true rfl) rfl ?_
  refine r_iload_n DX7_feed_0 (i := 1) rfl rfl ?_
  refine r_iconst DX7_feed_1 (v := 1) (by decide) ?_
  refine r_bipush DX7_feed_2 (v := 8) (by decide) ?_
  obtain ⟨q4, e4, e⟩ := x_bnd e
  refine r_callS1 (As := [.int v1, .int 1, .int 8]) (S := []) DX7_feed_4 C_X7_73 (by decide) (by decide) (Nat.le_of_ble_eq_true rfl) (t_X7_within v1 1 8 e4) rfl ?_
  refine r_if_ne DX7_feed_7 (tgt := 14) (by decide) (fun c7 => ?_) (fun c7 => ?_)
  · replace e := x_iff c7 e
    refine r_aload_n DX7_feed_14 (i := 0) rfl rfl ?_
    refine r_get (v := .ref (xa g 6)) DX7_feed_15 F_X7_37 e_0 rfl ?_
    refine r_iload_n DX7_feed_18 (i := 1) rfl rfl ?_
    refine r_lload_n DX7_feed_19 (i := 2) rfl rfl ?_
    obtain ⟨q20, e20, e⟩ := x_bnd e
    refine r_callV1 (As := [.int v1, .long v2]) (S := []) DX7_feed_20 C_X7_178 (ci := 6) rfl rfl e_6 (by decide) (by decide) (Nat.le_of_ble_eq_true rfl) (t_X6_take N v1 v2 a e20) rfl ?_
    refine r_if_eq DX7_feed_23 (tgt := 36) (by decide) (fun c23 => ?_) (fun c23 => ?_)
    · replace e := x_ift c23 e
      refine r_sipush DX7_feed_36 (v := (-1004)) (by decide) ?_
      obtain rfl := Option.some.inj e
      exact r_iret DX7_feed_39 rfl rfl
    · replace e := x_iff c23 e
      refine r_aload_n DX7_feed_26 (i := 0) rfl rfl ?_
      refine r_get (v := .ref (xa g 6)) DX7_feed_27 F_X7_37 e_0 rfl ?_
      refine r_get (v := .int (gI q20.2 5)) DX7_feed_30 F_X7_182 e_6 rfl ?_
      refine r_goto DX7_feed_33 (tgt := 39) (by decide) ?_
      obtain rfl := Option.some.inj e
      exact r_iret DX7_feed_39 rfl rfl
  · replace e := x_ift c7 e
    refine r_sipush DX7_feed_10 (v := (-1002)) (by decide) ?_
    obtain rfl := Option.some.inj e
    exact r_iret DX7_feed_13 rfl rfl

set_option maxRecDepth 100000 in
set_option maxHeartbeats 4000000 in
theorem t_X7_fills {l : Launch} {g : xG} {b : xT} (N : Nat) (v1 : Int32) (a : xT)  {r : Int32} (e : f_X7_fills N v1 a = some r) : Ev l g 4 yX7_fills M_X7_fills [.ref (xa g 0), .int v1] (a, b) (some (.int r), (a, b)) := by
  unfold f_X7_fills at e
  refine Ev.of 0 (L0 := [some (.ref (xa g 0)), some (.int v1)]) (by decide) rfl (Nat.le_of_ble_eq_true rfl) rfl ?_
  refine r_aload_n DX7_fills_0 (i := 0) rfl rfl ?_
  refine r_get (v := .ref (xa g 1)) DX7_fills_1 F_X7_12 e_0 rfl ?_
  refine r_iload_n DX7_fills_4 (i := 1) rfl rfl ?_
  obtain ⟨q5, e5, e⟩ := x_bnd e
  refine r_callV1 (As := [.int v1]) (S := []) DX7_fills_5 C_X7_86 (ci := 1) rfl rfl e_1 (by decide) (by decide) (Nat.le_of_ble_eq_true rfl) (t_X1_isSet v1 a e5) rfl ?_
  refine r_if_eq DX7_fills_8 (tgt := 22) (by decide) (fun c8 => ?_) (fun c8 => ?_)
  · replace e := x_ift c8 e
    refine r_sipush DX7_fills_22 (v := (-1002)) (by decide) ?_
    obtain rfl := Option.some.inj e
    exact r_iret DX7_fills_25 rfl rfl
  · replace e := x_iff c8 e
    refine r_aload_n DX7_fills_11 (i := 0) rfl rfl ?_
    refine r_get (v := .ref (xa g 1)) DX7_fills_12 F_X7_12 e_0 rfl ?_
    refine r_iload_n DX7_fills_15 (i := 1) rfl rfl ?_
    obtain ⟨q16, e16, e⟩ := x_bnd e
    refine r_callV1 (As := [.int v1]) (S := []) DX7_fills_16 C_X7_108 (ci := 1) rfl rfl e_1 (by decide) (by decide) (Nat.le_of_ble_eq_true rfl) (t_X1_sightsOf N v1 a e16) rfl ?_
    refine r_goto DX7_fills_19 (tgt := 25) (by decide) ?_
    obtain rfl := Option.some.inj e
    exact r_iret DX7_fills_25 rfl rfl

set_option maxRecDepth 100000 in
set_option maxHeartbeats 4000000 in
theorem lp_X7_offerRings_L25 {l : Launch} {g : xG} {b : xT} {R : Option Value × xS} (v2 : Int32) (v3 : Int32) (k4 : Nat) (hk4 : k4 < 7): ∀ (n : Nat) (v5 : Int32) (a : xT) (r : (xT)), f_X7_offerRings_L25 v2 v3 k4 n v5 a = some r → Rx l g 2 M_X7_offerRings 72 [none, none, none, none, none, none] [] (r, b) R → Rx l g 2 M_X7_offerRings 25 [some (.ref (xa g 0)), none, some (.int v2), some (.int v3), some (.ref (xa g (23 + k4))), some (.int v5)] [] (a, b) R := by
  intro n
  induction n with
  | zero => intro v5_ s_ r_ e; cases e
  | succ n ih =>
    intro v5 a r e K0
    rw [f_X7_offerRings_L25] at e
    refine r_iload DX7_offerRings_25 rfl ?_
    refine r_aload DX7_offerRings_27 rfl ?_
    refine r_get (v := .int (gI a (23 + k4))) DX7_offerRings_29 F_X7_120 (e_ml hk4) rfl ?_
    refine r_icmp_ge DX7_offerRings_32 (tgt := 72) (by decide) (fun c32 => ?_) (fun c32 => ?_)
    · replace e := x_ift c32 e
      obtain rfl := Option.some.inj e
      refine r_mask (L' := [none, none, none, none, none, none]) [false, false, false, false, false, false] rfl ?_
      exact K0
    · replace e := x_iff c32 e
      refine r_iload DX7_offerRings_35 rfl ?_
      refine r_iload_n DX7_offerRings_37 (i := 3) rfl rfl ?_
      refine r_icmp_eq DX7_offerRings_38 (tgt := 66) (by decide) (fun c38 => ?_) (fun c38 => ?_)
      · replace e := x_ift c38 e
        refine r_iinc (L' := [some (.ref (xa g 0)), none, some (.int v2), some (.int v3), some (.ref (xa g (23 + k4))), some (.int (v5 + 1))]) DX7_offerRings_66 (x := v5) (v := (v5 + 1)) rfl rfl (by decide) rfl rfl ?_
        refine r_goto DX7_offerRings_69 (tgt := 25) (by decide) ?_
        exact ih _ _ _ e K0
      · replace e := x_iff c38 e
        refine r_aload_n DX7_offerRings_41 (i := 0) rfl rfl ?_
        refine r_get (v := .ref (xa g 19)) DX7_offerRings_42 F_X7_58 e_0 rfl ?_
        refine r_iload DX7_offerRings_45 rfl ?_
        refine r_aload_n DX7_offerRings_47 (i := 0) rfl rfl ?_
        refine r_get (v := .ref (xa g 1)) DX7_offerRings_48 F_X7_12 e_0 rfl ?_
        refine r_aload DX7_offerRings_51 rfl ?_
        refine r_get (v := .ref (xa g (30 + k4))) DX7_offerRings_53 F_X7_130 (e_ml hk4) rfl ?_
        refine r_iload DX7_offerRings_56 rfl ?_
        obtain ⟨c58, e⟩ := x_grd e
        refine r_iald (f := (gA a (30 + k4))) DX7_offerRings_58 (e_mk hk4) rfl c58 ?_
        refine r_iload_n DX7_offerRings_59 (i := 2) rfl rfl ?_
        obtain ⟨q60, e60, e⟩ := x_bnd e
        refine r_callV1 (As := [.int ((gA a (30 + k4)) (Int32.toNatClampNeg v5)), .int v2]) (S := [.int v5, .ref (xa g 19)]) DX7_offerRings_60 C_X7_245 (ci := 1) rfl rfl e_1 (by decide) (by decide) (Nat.le_of_ble_eq_true rfl) (t_X1_agreement ((gA a (30 + k4)) (Int32.toNatClampNeg v5)) v2 a e60) rfl ?_
        obtain ⟨q63, e63, e⟩ := x_bnd e
        refine r_callV0 (As := [.int v5, .int q60]) (S := []) DX7_offerRings_63 C_X7_226 (ci := 0) rfl rfl e_19 (by decide) (by decide) (Nat.le_of_ble_eq_true rfl) (t_X0_offer v5 q60 a e63) rfl ?_
        refine r_iinc (L' := [some (.ref (xa g 0)), none, some (.int v2), some (.int v3), some (.ref (xa g (23 + k4))), some (.int (v5 + 1))]) DX7_offerRings_66 (x := v5) (v := (v5 + 1)) rfl rfl (by decide) rfl rfl ?_
        refine r_goto DX7_offerRings_69 (tgt := 25) (by decide) ?_
        exact ih _ _ _ e K0

set_option maxRecDepth 100000 in
set_option maxHeartbeats 4000000 in
theorem t_X7_offerRings {l : Launch} {g : xG} {b : xT} (N : Nat) (v1 : Int32) (v2 : Int32) (v3 : Int32) (a : xT)  {r : xT} (e : f_X7_offerRings N v1 v2 v3 a = some r) : Ev l g 2 yX7_offerRings M_X7_offerRings [.ref (xa g 0), .int v1, .int v2, .int v3] (a, b) (none, (r, b)) := by
  unfold f_X7_offerRings at e
  refine Ev.of 2 (L0 := [some (.ref (xa g 0)), some (.int v1), some (.int v2), some (.int v3), none, none]) (by decide) rfl (Nat.le_of_ble_eq_true rfl) rfl ?_
  refine r_aload_n DX7_offerRings_0 (i := 0) rfl rfl ?_
  refine r_get (v := .ref (xa g 2)) DX7_offerRings_1 F_X7_18 e_0 rfl ?_
  refine r_iload_n DX7_offerRings_4 (i := 1) rfl rfl ?_
  obtain ⟨c5, e⟩ := x_grd e
  refine r_aald (b := (xa g (23 + (Int32.toNatClampNeg v1)))) DX7_offerRings_5 e_2 rfl c5 rfl ?_
  refine r_astore (L' := [some (.ref (xa g 0)), some (.int v1), some (.int v2), some (.int v3), some (.ref (xa g (23 + (Int32.toNatClampNeg v1)))), none]) DX7_offerRings_6 (by decide) rfl rfl ?_
  refine r_aload_n DX7_offerRings_8 (i := 0) rfl rfl ?_
  refine r_get (v := .ref (xa g 19)) DX7_offerRings_9 F_X7_58 e_0 rfl ?_
  refine r_aload_n DX7_offerRings_12 (i := 0) rfl rfl ?_
  refine r_get (v := .ref (xa g 1)) DX7_offerRings_13 F_X7_12 e_0 rfl ?_
  obtain ⟨q16, e16, e⟩ := x_bnd e
  refine r_callV1 (As := []) (S := [.ref (xa g 19)]) DX7_offerRings_16 C_X7_142 (ci := 1) rfl rfl e_1 (by decide) (by decide) (Nat.le_of_ble_eq_true rfl) (t_X1_all a e16) rfl ?_
  obtain ⟨q19, e19, e⟩ := x_bnd e
  refine r_callV0 (As := [.int q16]) (S := []) DX7_offerRings_19 C_X7_223 (ci := 0) rfl rfl e_19 (by decide) (by decide) (Nat.le_of_ble_eq_true rfl) (t_X0_start q16 a e19) rfl ?_
  refine r_iconst DX7_offerRings_22 (v := 0) (by decide) ?_
  refine r_istore (L' := [some (.ref (xa g 0)), some (.int v1), some (.int v2), some (.int v3), some (.ref (xa g (23 + (Int32.toNatClampNeg v1)))), some (.int 0)]) DX7_offerRings_23 (by decide) rfl rfl ?_
  obtain ⟨q25, e25, e⟩ := x_bnd e
  refine r_mask (L' := [some (.ref (xa g 0)), none, some (.int v2), some (.int v3), some (.ref (xa g (23 + (Int32.toNatClampNeg v1)))), some (.int 0)]) [true, false, true, true, true, true] rfl ?_
  refine lp_X7_offerRings_L25 v2 v3 (Int32.toNatClampNeg v1) (x_in7 c5) N 0 q19 q25 e25 ?_
  obtain rfl := Option.some.inj e
  exact r_vret DX7_offerRings_72 rfl rfl

set_option maxRecDepth 100000 in
set_option maxHeartbeats 4000000 in
theorem t_X7_findRings {l : Launch} {g : xG} {b : xT} (N : Nat) (v1 : Int32) (v2 : Int32) (v3 : Int32) (a : xT)  {r : xT} (e : f_X7_findRings N v1 v2 v3 a = some r) : Ev l g 3 yX7_findRings M_X7_findRings [.ref (xa g 0), .int v1, .int v2, .int v3] (a, b) (none, (r, b)) := by
  unfold f_X7_findRings at e
  refine Ev.of 0 (L0 := [some (.ref (xa g 0)), some (.int v1), some (.int v2), some (.int v3)]) (by decide) rfl (Nat.le_of_ble_eq_true rfl) rfl ?_
  refine r_aload_n DX7_findRings_0 (i := 0) rfl rfl ?_
  refine r_iload_n DX7_findRings_1 (i := 1) rfl rfl ?_
  refine r_iload_n DX7_findRings_2 (i := 2) rfl rfl ?_
  refine r_iconst DX7_findRings_3 (v := (-1)) (by decide) ?_
  obtain ⟨q4, e4, e⟩ := x_bnd e
  refine r_callV0 (As := [.int v1, .int v2, .int (-1)]) (S := []) DX7_findRings_4 C_X7_264 (ci := 7) rfl rfl e_0 (by decide) (by decide) (Nat.le_of_ble_eq_true rfl) (t_X7_offerRings N v1 v2 (-1) a e4) rfl ?_
  refine r_aload_n DX7_findRings_7 (i := 0) rfl rfl ?_
  refine r_get (v := .ref (xa g 19)) DX7_findRings_8 F_X7_58 e_0 rfl ?_
  refine r_iload_n DX7_findRings_11 (i := 3) rfl rfl ?_
  obtain ⟨q12, e12, e⟩ := x_bnd e
  refine r_callV0 (As := [.int v3]) (S := []) DX7_findRings_12 C_X7_230 (ci := 0) rfl rfl e_19 (by decide) (by decide) (Nat.le_of_ble_eq_true rfl) (t_X0_search N v3 q4 e12) rfl ?_
  obtain rfl := Option.some.inj e
  exact r_vret DX7_findRings_15 rfl rfl

set_option maxRecDepth 100000 in
set_option maxHeartbeats 4000000 in
theorem lp_X7_framed_L29 {l : Launch} {g : xG} {b : xT} {R : Option Value × xS} (N : Nat) (v1 : Int32) (v2 : Int32) : ∀ (n : Nat) (v3 : Int32) (v4 : Int32) (a : xT) (r : (Int32 × xT)), f_X7_framed_L29 N v1 v2 n v3 v4 a = some r → Rx l g 8 M_X7_framed 82 [none, none, none, some (.int (r.1)), none] [] ((r.2), b) R → Rx l g 8 M_X7_framed 29 [some (.ref (xa g 0)), some (.int v1), some (.int v2), some (.int v3), some (.int v4)] [] (a, b) R := by
  intro n
  induction n with
  | zero => intro v3_ v4_ s_ r_ e; cases e
  | succ n ih =>
    intro v3 v4 a r e K0
    rw [f_X7_framed_L29] at e
    refine r_iload DX7_framed_29 rfl ?_
    refine r_aload_n DX7_framed_31 (i := 0) rfl rfl ?_
    refine r_get (v := .ref (xa g 2)) DX7_framed_32 F_X7_18 e_0 rfl ?_
    refine r_iload_n DX7_framed_35 (i := 1) rfl rfl ?_
    obtain ⟨c36, e⟩ := x_grd e
    refine r_aald (b := (xa g (23 + (Int32.toNatClampNeg v1)))) DX7_framed_36 e_2 rfl c36 rfl ?_
    refine r_get (v := .int (gI a (23 + (Int32.toNatClampNeg v1)))) DX7_framed_37 F_X7_120 (e_ml (x_in7 c36)) rfl ?_
    refine r_icmp_ge DX7_framed_40 (tgt := 82) (by decide) (fun c40 => ?_) (fun c40 => ?_)
    · replace e := x_ift c40 e
      obtain rfl := Option.some.inj e
      refine r_mask (L' := [none, none, none, some (.int v3), none]) [false, false, false, true, false] rfl ?_
      exact K0
    · replace e := x_iff c40 e
      refine r_aload_n DX7_framed_43 (i := 0) rfl rfl ?_
      refine r_iload_n DX7_framed_44 (i := 1) rfl rfl ?_
      refine r_aload_n DX7_framed_45 (i := 0) rfl rfl ?_
      refine r_get (v := .ref (xa g 2)) DX7_framed_46 F_X7_18 e_0 rfl ?_
      refine r_iload_n DX7_framed_49 (i := 1) rfl rfl ?_
      obtain ⟨c50, e⟩ := x_grd e
      refine r_aald (b := (xa g (23 + (Int32.toNatClampNeg v1)))) DX7_framed_50 e_2 rfl c50 rfl ?_
      refine r_get (v := .ref (xa g (30 + (Int32.toNatClampNeg v1)))) DX7_framed_51 F_X7_130 (e_ml (x_in7 c50)) rfl ?_
      refine r_iload DX7_framed_54 rfl ?_
      obtain ⟨c56, e⟩ := x_grd e
      refine r_iald (f := (gA a (30 + (Int32.toNatClampNeg v1)))) DX7_framed_56 (e_mk (x_in7 c50)) rfl c56 ?_
      refine r_iload DX7_framed_57 rfl ?_
      obtain ⟨q59, e59, e⟩ := x_bnd e
      refine r_callV0 (As := [.int v1, .int ((gA a (30 + (Int32.toNatClampNeg v1))) (Int32.toNatClampNeg v4)), .int v4]) (S := []) DX7_framed_59 C_X7_264 (ci := 7) rfl rfl e_0 (by decide) (by decide) (Nat.le_of_ble_eq_true rfl) (t_X7_offerRings N v1 ((gA a (30 + (Int32.toNatClampNeg v1))) (Int32.toNatClampNeg v4)) v4 a e59) rfl ?_
      refine r_aload_n DX7_framed_62 (i := 0) rfl rfl ?_
      refine r_get (v := .ref (xa g 19)) DX7_framed_63 F_X7_58 e_0 rfl ?_
      refine r_iload_n DX7_framed_66 (i := 2) rfl rfl ?_
      obtain ⟨q67, e67, e⟩ := x_bnd e
      refine r_callV1 (As := [.int v2]) (S := []) DX7_framed_67 C_X7_267 (ci := 0) rfl rfl e_19 (by decide) (by decide) (Nat.le_of_ble_eq_true rfl) (t_X0_canCover N v2 q59 e67) rfl ?_
      refine r_if_eq DX7_framed_70 (tgt := 76) (by decide) (fun c70 => ?_) (fun c70 => ?_)
      · replace e := x_ift c70 e
        refine r_iinc (L' := [some (.ref (xa g 0)), some (.int v1), some (.int v2), some (.int v3), some (.int (v4 + 1))]) DX7_framed_76 (x := v4) (v := (v4 + 1)) rfl rfl (by decide) rfl rfl ?_
        refine r_goto DX7_framed_79 (tgt := 29) (by decide) ?_
        exact ih _ _ _ _ e K0
      · replace e := x_iff c70 e
        refine r_iinc (L' := [some (.ref (xa g 0)), some (.int v1), some (.int v2), some (.int (v3 + 1)), some (.int v4)]) DX7_framed_73 (x := v3) (v := (v3 + 1)) rfl rfl (by decide) rfl rfl ?_
        refine r_iinc (L' := [some (.ref (xa g 0)), some (.int v1), some (.int v2), some (.int (v3 + 1)), some (.int (v4 + 1))]) DX7_framed_76 (x := v4) (v := (v4 + 1)) rfl rfl (by decide) rfl rfl ?_
        refine r_goto DX7_framed_79 (tgt := 29) (by decide) ?_
        exact ih _ _ _ _ e K0

set_option maxRecDepth 100000 in
set_option maxHeartbeats 4000000 in
theorem t_X7_framed {l : Launch} {g : xG} {b : xT} (N : Nat) (v1 : Int32) (v2 : Int32) (a : xT)  {r : (Int32 × xT)} (e : f_X7_framed N v1 v2 a = some r) : Ev l g 8 yX7_framed M_X7_framed [.ref (xa g 0), .int v1, .int v2] (a, b) (some (.int r.1), (r.2, b)) := by
  unfold f_X7_framed at e
  refine Ev.of 2 (L0 := [some (.ref (xa g 0)), some (.int v1), some (.int v2), none, none]) (by decide) rfl (Nat.le_of_ble_eq_true rfl) rfl ?_
  refine r_iload_n DX7_framed_0 (i := 1) rfl rfl ?_
  obtain ⟨q1, e1, e⟩ := x_bnd e
  refine r_callS1 (As := [.int v1]) (S := []) DX7_framed_1 C_X7_111 (by decide) (by decide) (Nat.le_of_ble_eq_true rfl) (t_X7_isList v1 e1) rfl ?_
  refine r_if_ne DX7_framed_4 (tgt := 11) (by decide) (fun c4 => ?_) (fun c4 => ?_)
  · replace e := x_iff c4 e
    refine r_iload_n DX7_framed_11 (i := 2) rfl rfl ?_
    refine r_iconst DX7_framed_12 (v := 1) (by decide) ?_
    refine r_iconst DX7_framed_13 (v := 3) (by decide) ?_
    obtain ⟨q14, e14, e⟩ := x_bnd e
    refine r_callS1 (As := [.int v2, .int 1, .int 3]) (S := []) DX7_framed_14 C_X7_73 (by decide) (by decide) (Nat.le_of_ble_eq_true rfl) (t_X7_within v2 1 3 e14) rfl ?_
    refine r_if_ne DX7_framed_17 (tgt := 24) (by decide) (fun c17 => ?_) (fun c17 => ?_)
    · replace e := x_iff c17 e
      refine r_iconst DX7_framed_24 (v := 0) (by decide) ?_
      refine r_istore_n (L' := [some (.ref (xa g 0)), some (.int v1), some (.int v2), some (.int 0), none]) DX7_framed_25 (i := 3) rfl (by decide) rfl rfl ?_
      refine r_iconst DX7_framed_26 (v := 0) (by decide) ?_
      refine r_istore (L' := [some (.ref (xa g 0)), some (.int v1), some (.int v2), some (.int 0), some (.int 0)]) DX7_framed_27 (by decide) rfl rfl ?_
      obtain ⟨q29, e29, e⟩ := x_bnd e
      refine lp_X7_framed_L29 N v1 v2 N 0 0 a q29 e29 ?_
      refine r_iload_n DX7_framed_82 (i := 3) rfl rfl ?_
      obtain rfl := Option.some.inj e
      exact r_iret DX7_framed_83 rfl rfl
    · replace e := x_ift c17 e
      refine r_sipush DX7_framed_20 (v := (-1002)) (by decide) ?_
      obtain rfl := Option.some.inj e
      exact r_iret DX7_framed_23 rfl rfl
  · replace e := x_ift c4 e
    refine r_sipush DX7_framed_7 (v := (-1001)) (by decide) ?_
    obtain rfl := Option.some.inj e
    exact r_iret DX7_framed_10 rfl rfl

set_option maxRecDepth 100000 in
set_option maxHeartbeats 4000000 in
theorem t_X7_ofBadPair {l : Launch} {g : xG} {b : xT} (N : Nat) (k1 : Nat) (v2 : Int32) (v3 : Int32) (v4 : Int32) (a : xT) (hk1 : k1 < 7) {r : Int32} (e : f_X7_ofBadPair N k1 v2 v3 v4 a = some r) : Ev l g 4 yX7_ofBadPair M_X7_ofBadPair [.ref (xa g 0), .ref (xa g (23 + k1)), .int v2, .int v3, .int v4] (a, b) (some (.int r), (a, b)) := by
  unfold f_X7_ofBadPair at e
  refine Ev.of 0 (L0 := [some (.ref (xa g 0)), some (.ref (xa g (23 + k1))), some (.int v2), some (.int v3), some (.int v4)]) (by decide) rfl (Nat.le_of_ble_eq_true rfl) rfl ?_
  refine r_iload DX7_ofBadPair_0 rfl ?_
  by_cases c2_0 : v4 = 0
  · replace e := x_ift c2_0 e
    refine r_tsIn DX7_ofBadPair_2 (tgt := 32) (by rw [c2_0]; decide) (by rw [c2_0]; decide) (by rw [c2_0]; rfl) (by decide) ?_
    refine r_iconst DX7_ofBadPair_32 (v := 0) (by decide) ?_
    obtain rfl := Option.some.inj e
    exact r_iret DX7_ofBadPair_33 rfl rfl
  replace e := x_iff c2_0 e
  by_cases c2_1 : v4 = 1
  · replace e := x_ift c2_1 e
    refine r_tsIn DX7_ofBadPair_2 (tgt := 34) (by rw [c2_1]; decide) (by rw [c2_1]; decide) (by rw [c2_1]; rfl) (by decide) ?_
    refine r_iload_n DX7_ofBadPair_34 (i := 2) rfl rfl ?_
    obtain rfl := Option.some.inj e
    exact r_iret DX7_ofBadPair_35 rfl rfl
  replace e := x_iff c2_1 e
  by_cases c2_2 : v4 = 2
  · replace e := x_ift c2_2 e
    refine r_tsIn DX7_ofBadPair_2 (tgt := 36) (by rw [c2_2]; decide) (by rw [c2_2]; decide) (by rw [c2_2]; rfl) (by decide) ?_
    refine r_iload_n DX7_ofBadPair_36 (i := 3) rfl rfl ?_
    obtain rfl := Option.some.inj e
    exact r_iret DX7_ofBadPair_37 rfl rfl
  replace e := x_iff c2_2 e
  by_cases c2_3 : v4 = 3
  · replace e := x_ift c2_3 e
    refine r_tsIn DX7_ofBadPair_2 (tgt := 38) (by rw [c2_3]; decide) (by rw [c2_3]; decide) (by rw [c2_3]; rfl) (by decide) ?_
    refine r_aload_n DX7_ofBadPair_38 (i := 0) rfl rfl ?_
    refine r_get (v := .ref (xa g 1)) DX7_ofBadPair_39 F_X7_12 e_0 rfl ?_
    refine r_aload_n DX7_ofBadPair_42 (i := 1) rfl rfl ?_
    refine r_get (v := .ref (xa g (30 + k1))) DX7_ofBadPair_43 F_X7_130 (e_ml hk1) rfl ?_
    refine r_iload_n DX7_ofBadPair_46 (i := 2) rfl rfl ?_
    obtain ⟨c47, e⟩ := x_grd e
    refine r_iald (f := (gA a (30 + k1))) DX7_ofBadPair_47 (e_mk hk1) rfl c47 ?_
    refine r_aload_n DX7_ofBadPair_48 (i := 1) rfl rfl ?_
    refine r_get (v := .ref (xa g (30 + k1))) DX7_ofBadPair_49 F_X7_130 (e_ml hk1) rfl ?_
    refine r_iload_n DX7_ofBadPair_52 (i := 3) rfl rfl ?_
    obtain ⟨c53, e⟩ := x_grd e
    refine r_iald (f := (gA a (30 + k1))) DX7_ofBadPair_53 (e_mk hk1) rfl c53 ?_
    obtain ⟨q54, e54, e⟩ := x_bnd e
    refine r_callV1 (As := [.int ((gA a (30 + k1)) (Int32.toNatClampNeg v2)), .int ((gA a (30 + k1)) (Int32.toNatClampNeg v3))]) (S := []) DX7_ofBadPair_54 C_X7_101 (ci := 1) rfl rfl e_1 (by decide) (by decide) (Nat.le_of_ble_eq_true rfl) (t_X1_witnessSeen N ((gA a (30 + k1)) (Int32.toNatClampNeg v2)) ((gA a (30 + k1)) (Int32.toNatClampNeg v3)) a e54) rfl ?_
    obtain rfl := Option.some.inj e
    exact r_iret DX7_ofBadPair_57 rfl rfl
  replace e := x_iff c2_3 e
  refine r_tsOut DX7_ofBadPair_2 (tgt := 58) (x_out0_3 (x_ne c2_0) (x_ne c2_1) (x_ne c2_2) (x_ne c2_3)) (by decide) ?_
  refine r_aload_n DX7_ofBadPair_58 (i := 0) rfl rfl ?_
  refine r_get (v := .ref (xa g 1)) DX7_ofBadPair_59 F_X7_12 e_0 rfl ?_
  refine r_aload_n DX7_ofBadPair_62 (i := 1) rfl rfl ?_
  refine r_get (v := .ref (xa g (30 + k1))) DX7_ofBadPair_63 F_X7_130 (e_ml hk1) rfl ?_
  refine r_iload_n DX7_ofBadPair_66 (i := 2) rfl rfl ?_
  obtain ⟨c67, e⟩ := x_grd e
  refine r_iald (f := (gA a (30 + k1))) DX7_ofBadPair_67 (e_mk hk1) rfl c67 ?_
  refine r_aload_n DX7_ofBadPair_68 (i := 1) rfl rfl ?_
  refine r_get (v := .ref (xa g (30 + k1))) DX7_ofBadPair_69 F_X7_130 (e_ml hk1) rfl ?_
  refine r_iload_n DX7_ofBadPair_72 (i := 3) rfl rfl ?_
  obtain ⟨c73, e⟩ := x_grd e
  refine r_iald (f := (gA a (30 + k1))) DX7_ofBadPair_73 (e_mk hk1) rfl c73 ?_
  obtain ⟨q74, e74, e⟩ := x_bnd e
  refine r_callV1 (As := [.int ((gA a (30 + k1)) (Int32.toNatClampNeg v2)), .int ((gA a (30 + k1)) (Int32.toNatClampNeg v3))]) (S := []) DX7_ofBadPair_74 C_X7_105 (ci := 1) rfl rfl e_1 (by decide) (by decide) (Nat.le_of_ble_eq_true rfl) (t_X1_witnessLost N ((gA a (30 + k1)) (Int32.toNatClampNeg v2)) ((gA a (30 + k1)) (Int32.toNatClampNeg v3)) a e74) rfl ?_
  obtain rfl := Option.some.inj e
  exact r_iret DX7_ofBadPair_77 rfl rfl

set_option maxRecDepth 100000 in
set_option maxHeartbeats 4000000 in
theorem lp_X7_good_L34 {l : Launch} {g : xG} {b : xT} {R : Option Value × xS} (N : Nat) (v2 : Int32) (k3 : Nat) (a : xT) (hk3 : k3 < 7): ∀ (n : Nat) (v4 : Int32) (r : ((Unit) ⊕ (Int32 × Int32))), f_X7_good_L34 N v2 k3 a n v4 = some r → (∀ z, r = (.inl z) → Rx l g 5 M_X7_good 84 [none, none, some (.int v2), none, none, none] [] (a, b) R) → (∀ z, r = (.inr (z)) → Rx l g 5 M_X7_good 67 [some (.ref (xa g 0)), none, some (.int v2), some (.ref (xa g (23 + k3))), some (.int (z.1)), some (.int (z.2))] [] (a, b) R) → Rx l g 5 M_X7_good 34 [some (.ref (xa g 0)), none, some (.int v2), some (.ref (xa g (23 + k3))), some (.int v4), none] [] (a, b) R := by
  intro n
  induction n with
  | zero => intro v4_ r_ e; cases e
  | succ n ih =>
    intro v4 r e K0 K1
    rw [f_X7_good_L34] at e
    refine r_iload DX7_good_34 rfl ?_
    refine r_aload_n DX7_good_36 (i := 3) rfl rfl ?_
    refine r_get (v := .int (gI a (23 + k3))) DX7_good_37 F_X7_120 (e_ml hk3) rfl ?_
    refine r_icmp_ge DX7_good_40 (tgt := 84) (by decide) (fun c40 => ?_) (fun c40 => ?_)
    · replace e := x_ift c40 e
      obtain rfl := Option.some.inj e
      refine r_mask (L' := [none, none, some (.int v2), none, none, none]) [false, false, true, false, false, false] rfl ?_
      exact K0 _ rfl
    · replace e := x_iff c40 e
      refine r_aload_n DX7_good_43 (i := 0) rfl rfl ?_
      refine r_aload_n DX7_good_44 (i := 3) rfl rfl ?_
      refine r_aload_n DX7_good_45 (i := 3) rfl rfl ?_
      refine r_get (v := .ref (xa g (30 + k3))) DX7_good_46 F_X7_130 (e_ml hk3) rfl ?_
      refine r_iload DX7_good_49 rfl ?_
      obtain ⟨c51, e⟩ := x_grd e
      refine r_iald (f := (gA a (30 + k3))) DX7_good_51 (e_mk hk3) rfl c51 ?_
      refine r_iload DX7_good_52 rfl ?_
      refine r_iconst DX7_good_54 (v := 1) (by decide) ?_
      refine r_iadd DX7_good_55 ?_
      obtain ⟨q56, e56, e⟩ := x_bnd e
      refine r_callV1 (As := [.ref (xa g (23 + k3)), .int ((gA a (30 + k3)) (Int32.toNatClampNeg v4)), .int (v4 + 1)]) (S := []) DX7_good_56 C_X7_134 (ci := 7) rfl rfl e_0 (by decide) (by decide) (Nat.le_of_ble_eq_true rfl) (t_X7_firstAlike N k3 ((gA a (30 + k3)) (Int32.toNatClampNeg v4)) (v4 + 1) a hk3 e56) rfl ?_
      refine r_istore (L' := [some (.ref (xa g 0)), none, some (.int v2), some (.ref (xa g (23 + k3))), some (.int v4), some (.int q56)]) DX7_good_59 (by decide) rfl rfl ?_
      refine r_iload DX7_good_61 rfl ?_
      refine r_iconst DX7_good_63 (v := (-1)) (by decide) ?_
      refine r_icmp_eq DX7_good_64 (tgt := 78) (by decide) (fun c64 => ?_) (fun c64 => ?_)
      · replace e := x_ift c64 e
        refine r_iinc (L' := [some (.ref (xa g 0)), none, some (.int v2), some (.ref (xa g (23 + k3))), some (.int (v4 + 1)), some (.int q56)]) DX7_good_78 (x := v4) (v := (v4 + 1)) rfl rfl (by decide) rfl rfl ?_
        refine r_goto DX7_good_81 (tgt := 34) (by decide) ?_
        refine r_mask (L' := [some (.ref (xa g 0)), none, some (.int v2), some (.ref (xa g (23 + k3))), some (.int (v4 + 1)), none]) [true, false, true, true, true, false] rfl ?_
        exact ih _ _ e K0 K1
      · replace e := x_iff c64 e
        obtain rfl := Option.some.inj e
        exact K1 _ rfl

set_option maxRecDepth 100000 in
set_option maxHeartbeats 4000000 in
theorem t_X7_good {l : Launch} {g : xG} {b : xT} (N : Nat) (v1 : Int32) (v2 : Int32) (a : xT)  {r : Int32} (e : f_X7_good N v1 v2 a = some r) : Ev l g 5 yX7_good M_X7_good [.ref (xa g 0), .int v1, .int v2] (a, b) (some (.int r), (a, b)) := by
  unfold f_X7_good at e
  refine Ev.of 3 (L0 := [some (.ref (xa g 0)), some (.int v1), some (.int v2), none, none, none]) (by decide) rfl (Nat.le_of_ble_eq_true rfl) rfl ?_
  refine r_iload_n DX7_good_0 (i := 1) rfl rfl ?_
  obtain ⟨q1, e1, e⟩ := x_bnd e
  refine r_callS1 (As := [.int v1]) (S := []) DX7_good_1 C_X7_111 (by decide) (by decide) (Nat.le_of_ble_eq_true rfl) (t_X7_isList v1 e1) rfl ?_
  refine r_if_ne DX7_good_4 (tgt := 11) (by decide) (fun c4 => ?_) (fun c4 => ?_)
  · replace e := x_iff c4 e
    refine r_iload_n DX7_good_11 (i := 2) rfl rfl ?_
    refine r_iconst DX7_good_12 (v := 0) (by decide) ?_
    refine r_iconst DX7_good_13 (v := 4) (by decide) ?_
    obtain ⟨q14, e14, e⟩ := x_bnd e
    refine r_callS1 (As := [.int v2, .int 0, .int 4]) (S := []) DX7_good_14 C_X7_73 (by decide) (by decide) (Nat.le_of_ble_eq_true rfl) (t_X7_within v2 0 4 e14) rfl ?_
    refine r_if_ne DX7_good_17 (tgt := 24) (by decide) (fun c17 => ?_) (fun c17 => ?_)
    · replace e := x_iff c17 e
      refine r_aload_n DX7_good_24 (i := 0) rfl rfl ?_
      refine r_get (v := .ref (xa g 2)) DX7_good_25 F_X7_18 e_0 rfl ?_
      refine r_iload_n DX7_good_28 (i := 1) rfl rfl ?_
      obtain ⟨c29, e⟩ := x_grd e
      refine r_aald (b := (xa g (23 + (Int32.toNatClampNeg v1)))) DX7_good_29 e_2 rfl c29 rfl ?_
      refine r_astore_n (L' := [some (.ref (xa g 0)), some (.int v1), some (.int v2), some (.ref (xa g (23 + (Int32.toNatClampNeg v1)))), none, none]) DX7_good_30 (i := 3) rfl (by decide) rfl rfl ?_
      refine r_iconst DX7_good_31 (v := 0) (by decide) ?_
      refine r_istore (L' := [some (.ref (xa g 0)), some (.int v1), some (.int v2), some (.ref (xa g (23 + (Int32.toNatClampNeg v1)))), some (.int 0), none]) DX7_good_32 (by decide) rfl rfl ?_
      obtain ⟨q34, e34, e⟩ := x_bnd e
      refine r_mask (L' := [some (.ref (xa g 0)), none, some (.int v2), some (.ref (xa g (23 + (Int32.toNatClampNeg v1)))), some (.int 0), none]) [true, false, true, true, true, false] rfl ?_
      refine lp_X7_good_L34 N v2 (Int32.toNatClampNeg v1) a (x_in7 c29) N 0 q34 e34 (fun z34_84 w34 => ?_) (fun z34_67 w34 => ?_)
      · subst w34
        dsimp only [Sum.elim] at e
        refine r_iload_n DX7_good_84 (i := 2) rfl rfl ?_
        refine r_if_ne DX7_good_85 (tgt := 92) (by decide) (fun c85 => ?_) (fun c85 => ?_)
        · replace e := x_iff c85 e
          refine r_iconst DX7_good_92 (v := (-1)) (by decide) ?_
          obtain rfl := Option.some.inj e
          exact r_iret DX7_good_93 rfl rfl
        · replace e := x_ift c85 e
          refine r_iconst DX7_good_88 (v := 1) (by decide) ?_
          refine r_goto DX7_good_89 (tgt := 93) (by decide) ?_
          obtain rfl := Option.some.inj e
          exact r_iret DX7_good_93 rfl rfl
      · subst w34
        dsimp only [Sum.elim] at e
        refine r_aload_n DX7_good_67 (i := 0) rfl rfl ?_
        refine r_aload_n DX7_good_68 (i := 3) rfl rfl ?_
        refine r_iload DX7_good_69 rfl ?_
        refine r_iload DX7_good_71 rfl ?_
        refine r_iload_n DX7_good_73 (i := 2) rfl rfl ?_
        obtain ⟨q74, e74, e⟩ := x_bnd e
        refine r_callV1 (As := [.ref (xa g (23 + (Int32.toNatClampNeg v1))), .int (z34_67.1), .int (z34_67.2), .int v2]) (S := []) DX7_good_74 C_X7_138 (ci := 7) rfl rfl e_0 (by decide) (by decide) (Nat.le_of_ble_eq_true rfl) (t_X7_ofBadPair N (Int32.toNatClampNeg v1) (z34_67.1) (z34_67.2) v2 a (x_in7 c29) e74) rfl ?_
        obtain rfl := Option.some.inj e
        exact r_iret DX7_good_77 rfl rfl
    · replace e := x_ift c17 e
      refine r_sipush DX7_good_20 (v := (-1002)) (by decide) ?_
      obtain rfl := Option.some.inj e
      exact r_iret DX7_good_23 rfl rfl
  · replace e := x_ift c4 e
    refine r_sipush DX7_good_7 (v := (-1001)) (by decide) ?_
    obtain rfl := Option.some.inj e
    exact r_iret DX7_good_10 rfl rfl

set_option maxRecDepth 100000 in
set_option maxHeartbeats 4000000 in
theorem lp_X7_heap_L64 {l : Launch} {g : xG} {b : xT} {R : Option Value × xS} (v2 : Int32) (v3 : Int32) (v4 : Int32) (k5 : Nat) (hk5 : k5 < 7): ∀ (n : Nat) (v6 : Int32) (a : xT) (r : (xT)), f_X7_heap_L64 v2 v3 v4 k5 n v6 a = some r → Rx l g 3 M_X7_heap 112 [some (.ref (xa g 0)), none, none, some (.int v3), some (.int v4), none, none] [] (r, b) R → Rx l g 3 M_X7_heap 64 [some (.ref (xa g 0)), none, some (.int v2), some (.int v3), some (.int v4), some (.ref (xa g (23 + k5))), some (.int v6)] [] (a, b) R := by
  intro n
  induction n with
  | zero => intro v6_ s_ r_ e; cases e
  | succ n ih =>
    intro v6 a r e K0
    rw [f_X7_heap_L64] at e
    refine r_iload DX7_heap_64 rfl ?_
    refine r_aload DX7_heap_66 rfl ?_
    refine r_get (v := .int (gI a (23 + k5))) DX7_heap_68 F_X7_120 (e_ml hk5) rfl ?_
    refine r_icmp_ge DX7_heap_71 (tgt := 112) (by decide) (fun c71 => ?_) (fun c71 => ?_)
    · replace e := x_ift c71 e
      obtain rfl := Option.some.inj e
      refine r_mask (L' := [some (.ref (xa g 0)), none, none, some (.int v3), some (.int v4), none, none]) [true, false, false, true, true, false, false] rfl ?_
      exact K0
    · replace e := x_iff c71 e
      refine r_aload DX7_heap_74 rfl ?_
      refine r_get (v := .ref (xa g (30 + k5))) DX7_heap_76 F_X7_130 (e_ml hk5) rfl ?_
      refine r_iload DX7_heap_79 rfl ?_
      obtain ⟨c81, e⟩ := x_grd e
      refine r_iald (f := (gA a (30 + k5))) DX7_heap_81 (e_mk hk5) rfl c81 ?_
      refine r_iload_n DX7_heap_82 (i := 2) rfl rfl ?_
      refine r_iconst DX7_heap_83 (v := (-1)) (by decide) ?_
      refine r_ixor DX7_heap_84 ?_
      refine r_iand DX7_heap_85 ?_
      refine r_if_ne DX7_heap_86 (tgt := 106) (by decide) (fun c86 => ?_) (fun c86 => ?_)
      · replace e := x_iff c86 e
        refine r_iinc (L' := [some (.ref (xa g 0)), none, some (.int v2), some (.int v3), some (.int v4), some (.ref (xa g (23 + k5))), some (.int (v6 + 1))]) DX7_heap_106 (x := v6) (v := (v6 + 1)) rfl rfl (by decide) rfl rfl ?_
        refine r_goto DX7_heap_109 (tgt := 64) (by decide) ?_
        exact ih _ _ _ e K0
      · replace e := x_ift c86 e
        refine r_aload_n DX7_heap_89 (i := 0) rfl rfl ?_
        refine r_get (v := .ref (xa g 19)) DX7_heap_90 F_X7_58 e_0 rfl ?_
        refine r_iload DX7_heap_93 rfl ?_
        refine r_aload DX7_heap_95 rfl ?_
        refine r_get (v := .ref (xa g (30 + k5))) DX7_heap_97 F_X7_130 (e_ml hk5) rfl ?_
        refine r_iload DX7_heap_100 rfl ?_
        obtain ⟨c102, e⟩ := x_grd e
        refine r_iald (f := (gA a (30 + k5))) DX7_heap_102 (e_mk hk5) rfl c102 ?_
        obtain ⟨q103, e103, e⟩ := x_bnd e
        refine r_callV0 (As := [.int v6, .int ((gA a (30 + k5)) (Int32.toNatClampNeg v6))]) (S := []) DX7_heap_103 C_X7_226 (ci := 0) rfl rfl e_19 (by decide) (by decide) (Nat.le_of_ble_eq_true rfl) (t_X0_offer v6 ((gA a (30 + k5)) (Int32.toNatClampNeg v6)) a e103) rfl ?_
        refine r_iinc (L' := [some (.ref (xa g 0)), none, some (.int v2), some (.int v3), some (.int v4), some (.ref (xa g (23 + k5))), some (.int (v6 + 1))]) DX7_heap_106 (x := v6) (v := (v6 + 1)) rfl rfl (by decide) rfl rfl ?_
        refine r_goto DX7_heap_109 (tgt := 64) (by decide) ?_
        exact ih _ _ _ e K0

set_option maxRecDepth 100000 in
set_option maxHeartbeats 4000000 in
theorem t_X7_heap {l : Launch} {g : xG} {b : xT} (N : Nat) (v1 : Int32) (v2 : Int32) (v3 : Int32) (v4 : Int32) (a : xT)  {r : (Int32 × xT)} (e : f_X7_heap N v1 v2 v3 v4 a = some r) : Ev l g 3 yX7_heap M_X7_heap [.ref (xa g 0), .int v1, .int v2, .int v3, .int v4] (a, b) (some (.int r.1), (r.2, b)) := by
  unfold f_X7_heap at e
  refine Ev.of 2 (L0 := [some (.ref (xa g 0)), some (.int v1), some (.int v2), some (.int v3), some (.int v4), none, none]) (by decide) rfl (Nat.le_of_ble_eq_true rfl) rfl ?_
  refine r_iload_n DX7_heap_0 (i := 1) rfl rfl ?_
  obtain ⟨q1, e1, e⟩ := x_bnd e
  refine r_callS1 (As := [.int v1]) (S := []) DX7_heap_1 C_X7_111 (by decide) (by decide) (Nat.le_of_ble_eq_true rfl) (t_X7_isList v1 e1) rfl ?_
  refine r_if_ne DX7_heap_4 (tgt := 11) (by decide) (fun c4 => ?_) (fun c4 => ?_)
  · replace e := x_iff c4 e
    refine r_aload_n DX7_heap_11 (i := 0) rfl rfl ?_
    refine r_get (v := .ref (xa g 1)) DX7_heap_12 F_X7_12 e_0 rfl ?_
    refine r_iload_n DX7_heap_15 (i := 2) rfl rfl ?_
    obtain ⟨q16, e16, e⟩ := x_bnd e
    refine r_callV1 (As := [.int v2]) (S := []) DX7_heap_16 C_X7_86 (ci := 1) rfl rfl e_1 (by decide) (by decide) (Nat.le_of_ble_eq_true rfl) (t_X1_isSet v2 a e16) rfl ?_
    refine r_if_eq DX7_heap_19 (tgt := 41) (by decide) (fun c19 => ?_) (fun c19 => ?_)
    · replace e := x_ift c19 e
      refine r_sipush DX7_heap_41 (v := (-1002)) (by decide) ?_
      obtain rfl := Option.some.inj e
      exact r_iret DX7_heap_44 rfl rfl
    · replace e := x_iff c19 e
      refine r_iload_n DX7_heap_22 (i := 3) rfl rfl ?_
      refine r_iconst DX7_heap_23 (v := 1) (by decide) ?_
      refine r_iconst DX7_heap_24 (v := 3) (by decide) ?_
      obtain ⟨q25, e25, e⟩ := x_bnd e
      refine r_callS1 (As := [.int v3, .int 1, .int 3]) (S := []) DX7_heap_25 C_X7_73 (by decide) (by decide) (Nat.le_of_ble_eq_true rfl) (t_X7_within v3 1 3 e25) rfl ?_
      refine r_if_eq DX7_heap_28 (tgt := 41) (by decide) (fun c28 => ?_) (fun c28 => ?_)
      · replace e := x_ift c28 e
        refine r_sipush DX7_heap_41 (v := (-1002)) (by decide) ?_
        obtain rfl := Option.some.inj e
        exact r_iret DX7_heap_44 rfl rfl
      · replace e := x_iff c28 e
        refine r_iload DX7_heap_31 rfl ?_
        refine r_iconst DX7_heap_33 (v := (-1)) (by decide) ?_
        refine r_iconst DX7_heap_34 (v := 3) (by decide) ?_
        obtain ⟨q35, e35, e⟩ := x_bnd e
        refine r_callS1 (As := [.int v4, .int (-1), .int 3]) (S := []) DX7_heap_35 C_X7_73 (by decide) (by decide) (Nat.le_of_ble_eq_true rfl) (t_X7_within v4 (-1) 3 e35) rfl ?_
        refine r_if_ne DX7_heap_38 (tgt := 45) (by decide) (fun c38 => ?_) (fun c38 => ?_)
        · replace e := x_iff c38 e
          refine r_aload_n DX7_heap_45 (i := 0) rfl rfl ?_
          refine r_get (v := .ref (xa g 2)) DX7_heap_46 F_X7_18 e_0 rfl ?_
          refine r_iload_n DX7_heap_49 (i := 1) rfl rfl ?_
          obtain ⟨c50, e⟩ := x_grd e
          refine r_aald (b := (xa g (23 + (Int32.toNatClampNeg v1)))) DX7_heap_50 e_2 rfl c50 rfl ?_
          refine r_astore (L' := [some (.ref (xa g 0)), some (.int v1), some (.int v2), some (.int v3), some (.int v4), some (.ref (xa g (23 + (Int32.toNatClampNeg v1)))), none]) DX7_heap_51 (by decide) rfl rfl ?_
          refine r_aload_n DX7_heap_53 (i := 0) rfl rfl ?_
          refine r_get (v := .ref (xa g 19)) DX7_heap_54 F_X7_58 e_0 rfl ?_
          refine r_iload_n DX7_heap_57 (i := 2) rfl rfl ?_
          obtain ⟨q58, e58, e⟩ := x_bnd e
          refine r_callV0 (As := [.int v2]) (S := []) DX7_heap_58 C_X7_223 (ci := 0) rfl rfl e_19 (by decide) (by decide) (Nat.le_of_ble_eq_true rfl) (t_X0_start v2 a e58) rfl ?_
          refine r_iconst DX7_heap_61 (v := 0) (by decide) ?_
          refine r_istore (L' := [some (.ref (xa g 0)), some (.int v1), some (.int v2), some (.int v3), some (.int v4), some (.ref (xa g (23 + (Int32.toNatClampNeg v1)))), some (.int 0)]) DX7_heap_62 (by decide) rfl rfl ?_
          obtain ⟨q64, e64, e⟩ := x_bnd e
          refine r_mask (L' := [some (.ref (xa g 0)), none, some (.int v2), some (.int v3), some (.int v4), some (.ref (xa g (23 + (Int32.toNatClampNeg v1)))), some (.int 0)]) [true, false, true, true, true, true, true] rfl ?_
          refine lp_X7_heap_L64 v2 v3 v4 (Int32.toNatClampNeg v1) (x_in7 c50) N 0 q58 q64 e64 ?_
          refine r_aload_n DX7_heap_112 (i := 0) rfl rfl ?_
          refine r_get (v := .ref (xa g 19)) DX7_heap_113 F_X7_58 e_0 rfl ?_
          refine r_iload_n DX7_heap_116 (i := 3) rfl rfl ?_
          obtain ⟨q117, e117, e⟩ := x_bnd e
          refine r_callV0 (As := [.int v3]) (S := []) DX7_heap_117 C_X7_230 (ci := 0) rfl rfl e_19 (by decide) (by decide) (Nat.le_of_ble_eq_true rfl) (t_X0_search N v3 q64 e117) rfl ?_
          refine r_iload DX7_heap_120 rfl ?_
          refine r_iconst DX7_heap_122 (v := (-1)) (by decide) ?_
          refine r_icmp_ne DX7_heap_123 (tgt := 134) (by decide) (fun c123 => ?_) (fun c123 => ?_)
          · replace e := x_iff c123 e
            refine r_iload DX7_heap_134 rfl ?_
            refine r_if_ne DX7_heap_136 (tgt := 149) (by decide) (fun c136 => ?_) (fun c136 => ?_)
            · replace e := x_iff c136 e
              refine r_aload_n DX7_heap_149 (i := 0) rfl rfl ?_
              refine r_get (v := .ref (xa g 19)) DX7_heap_150 F_X7_58 e_0 rfl ?_
              refine r_iload DX7_heap_153 rfl ?_
              refine r_iconst DX7_heap_155 (v := 1) (by decide) ?_
              refine r_isub DX7_heap_156 ?_
              obtain ⟨q157, e157, e⟩ := x_bnd e
              refine r_callV1 (As := [.int (v4 - 1)]) (S := []) DX7_heap_157 C_X7_239 (ci := 0) rfl rfl e_19 (by decide) (by decide) (Nat.le_of_ble_eq_true rfl) (t_X0_firstAt (v4 - 1) q117 e157) rfl ?_
              obtain rfl := Option.some.inj e
              exact r_iret DX7_heap_160 rfl rfl
            · replace e := x_ift c136 e
              refine r_aload_n DX7_heap_139 (i := 0) rfl rfl ?_
              refine r_get (v := .ref (xa g 19)) DX7_heap_140 F_X7_58 e_0 rfl ?_
              refine r_get (v := .int (gI q117 20)) DX7_heap_143 F_X7_236 e_19 rfl ?_
              refine r_goto DX7_heap_146 (tgt := 160) (by decide) ?_
              obtain rfl := Option.some.inj e
              exact r_iret DX7_heap_160 rfl rfl
          · replace e := x_ift c123 e
            refine r_aload_n DX7_heap_126 (i := 0) rfl rfl ?_
            refine r_get (v := .ref (xa g 19)) DX7_heap_127 F_X7_58 e_0 rfl ?_
            refine r_get (v := .int (gI q117 19)) DX7_heap_130 F_X7_233 e_19 rfl ?_
            obtain rfl := Option.some.inj e
            exact r_iret DX7_heap_133 rfl rfl
        · replace e := x_ift c38 e
          refine r_sipush DX7_heap_41 (v := (-1002)) (by decide) ?_
          obtain rfl := Option.some.inj e
          exact r_iret DX7_heap_44 rfl rfl
  · replace e := x_ift c4 e
    refine r_sipush DX7_heap_7 (v := (-1001)) (by decide) ?_
    obtain rfl := Option.some.inj e
    exact r_iret DX7_heap_10 rfl rfl

set_option maxRecDepth 100000 in
set_option maxHeartbeats 4000000 in
theorem t_X7_inAll {l : Launch} {g : xG} {b : xT} (N : Nat) (v1 : Int32) (v2 : Int32) (v3 : Int32) (v4 : Int32) (a : xT)  {r : (Int32 × xT)} (e : f_X7_inAll N v1 v2 v3 v4 a = some r) : Ev l g 4 yX7_inAll M_X7_inAll [.ref (xa g 0), .int v1, .int v2, .int v3, .int v4] (a, b) (some (.int r.1), (r.2, b)) := by
  unfold f_X7_inAll at e
  refine Ev.of 0 (L0 := [some (.ref (xa g 0)), some (.int v1), some (.int v2), some (.int v3), some (.int v4)]) (by decide) rfl (Nat.le_of_ble_eq_true rfl) rfl ?_
  refine r_iload_n DX7_inAll_0 (i := 1) rfl rfl ?_
  obtain ⟨q1, e1, e⟩ := x_bnd e
  refine r_callS1 (As := [.int v1]) (S := []) DX7_inAll_1 C_X7_111 (by decide) (by decide) (Nat.le_of_ble_eq_true rfl) (t_X7_isList v1 e1) rfl ?_
  refine r_if_ne DX7_inAll_4 (tgt := 11) (by decide) (fun c4 => ?_) (fun c4 => ?_)
  · replace e := x_iff c4 e
    refine r_aload_n DX7_inAll_11 (i := 0) rfl rfl ?_
    refine r_get (v := .ref (xa g 1)) DX7_inAll_12 F_X7_12 e_0 rfl ?_
    refine r_iload_n DX7_inAll_15 (i := 2) rfl rfl ?_
    obtain ⟨q16, e16, e⟩ := x_bnd e
    refine r_callV1 (As := [.int v2]) (S := []) DX7_inAll_16 C_X7_86 (ci := 1) rfl rfl e_1 (by decide) (by decide) (Nat.le_of_ble_eq_true rfl) (t_X1_isSet v2 a e16) rfl ?_
    refine r_if_eq DX7_inAll_19 (tgt := 31) (by decide) (fun c19 => ?_) (fun c19 => ?_)
    · replace e := x_ift c19 e
      refine r_sipush DX7_inAll_31 (v := (-1002)) (by decide) ?_
      obtain rfl := Option.some.inj e
      exact r_iret DX7_inAll_34 rfl rfl
    · replace e := x_iff c19 e
      refine r_iload_n DX7_inAll_22 (i := 3) rfl rfl ?_
      refine r_iconst DX7_inAll_23 (v := 1) (by decide) ?_
      refine r_iconst DX7_inAll_24 (v := 3) (by decide) ?_
      obtain ⟨q25, e25, e⟩ := x_bnd e
      refine r_callS1 (As := [.int v3, .int 1, .int 3]) (S := []) DX7_inAll_25 C_X7_73 (by decide) (by decide) (Nat.le_of_ble_eq_true rfl) (t_X7_within v3 1 3 e25) rfl ?_
      refine r_if_ne DX7_inAll_28 (tgt := 35) (by decide) (fun c28 => ?_) (fun c28 => ?_)
      · replace e := x_iff c28 e
        refine r_aload_n DX7_inAll_35 (i := 0) rfl rfl ?_
        refine r_iload_n DX7_inAll_36 (i := 1) rfl rfl ?_
        refine r_iload_n DX7_inAll_37 (i := 2) rfl rfl ?_
        refine r_iload_n DX7_inAll_38 (i := 3) rfl rfl ?_
        obtain ⟨q39, e39, e⟩ := x_bnd e
        refine r_callV0 (As := [.int v1, .int v2, .int v3]) (S := []) DX7_inAll_39 C_X7_248 (ci := 7) rfl rfl e_0 (by decide) (by decide) (Nat.le_of_ble_eq_true rfl) (t_X7_findRings N v1 v2 v3 a e39) rfl ?_
        refine r_aload_n DX7_inAll_42 (i := 0) rfl rfl ?_
        refine r_get (v := .ref (xa g 19)) DX7_inAll_43 F_X7_58 e_0 rfl ?_
        refine r_get (v := .int (gI q39 19)) DX7_inAll_46 F_X7_233 e_19 rfl ?_
        refine r_if_ne DX7_inAll_49 (tgt := 56) (by decide) (fun c49 => ?_) (fun c49 => ?_)
        · replace e := x_iff c49 e
          refine r_aload_n DX7_inAll_56 (i := 0) rfl rfl ?_
          refine r_get (v := .ref (xa g 19)) DX7_inAll_57 F_X7_58 e_0 rfl ?_
          refine r_iload DX7_inAll_60 rfl ?_
          obtain ⟨q62, e62, e⟩ := x_bnd e
          refine r_callV1 (As := [.int v4]) (S := []) DX7_inAll_62 C_X7_261 (ci := 0) rfl rfl e_19 (by decide) (by decide) (Nat.le_of_ble_eq_true rfl) (t_X0_commonAt N v4 q39 e62) rfl ?_
          obtain rfl := Option.some.inj e
          exact r_iret DX7_inAll_65 rfl rfl
        · replace e := x_ift c49 e
          refine r_iconst DX7_inAll_52 (v := (-1)) (by decide) ?_
          refine r_goto DX7_inAll_53 (tgt := 65) (by decide) ?_
          obtain rfl := Option.some.inj e
          exact r_iret DX7_inAll_65 rfl rfl
      · replace e := x_ift c28 e
        refine r_sipush DX7_inAll_31 (v := (-1002)) (by decide) ?_
        obtain rfl := Option.some.inj e
        exact r_iret DX7_inAll_34 rfl rfl
  · replace e := x_ift c4 e
    refine r_sipush DX7_inAll_7 (v := (-1001)) (by decide) ?_
    obtain rfl := Option.some.inj e
    exact r_iret DX7_inAll_10 rfl rfl

set_option maxRecDepth 100000 in
set_option maxHeartbeats 4000000 in
theorem t_X7_is {l : Launch} {g : xG} {b : xT} (v1 : Int32) (a : xT)  {r : Int32} (e : f_X7_is v1 a = some r) : Ev l g 0 yX7_is M_X7_is [.ref (xa g 0), .int v1] (a, b) (some (.int r), (a, b)) := by
  unfold f_X7_is at e
  refine Ev.of 0 (L0 := [some (.ref (xa g 0)), some (.int v1)]) (by decide) rfl (Nat.le_of_ble_eq_true rfl) rfl ?_
  refine r_iload_n DX7_is_0 (i := 1) rfl rfl ?_
  by_cases c1_0 : v1 = 0
  · replace e := x_ift c1_0 e
    refine r_tsIn DX7_is_1 (tgt := 32) (by rw [c1_0]; decide) (by rw [c1_0]; decide) (by rw [c1_0]; rfl) (by decide) ?_
    refine r_aload_n DX7_is_32 (i := 0) rfl rfl ?_
    refine r_get (v := .ref (xa g 1)) DX7_is_33 F_X7_12 e_0 rfl ?_
    refine r_get (v := .int (gI a 0)) DX7_is_36 F_X7_62 e_1 rfl ?_
    obtain rfl := Option.some.inj e
    exact r_iret DX7_is_39 rfl rfl
  replace e := x_iff c1_0 e
  by_cases c1_1 : v1 = 1
  · replace e := x_ift c1_1 e
    refine r_tsIn DX7_is_1 (tgt := 40) (by rw [c1_1]; decide) (by rw [c1_1]; decide) (by rw [c1_1]; rfl) (by decide) ?_
    refine r_aload_n DX7_is_40 (i := 0) rfl rfl ?_
    refine r_get (v := .ref (xa g 1)) DX7_is_41 F_X7_12 e_0 rfl ?_
    refine r_get (v := .int (gI a 1)) DX7_is_44 F_X7_77 e_1 rfl ?_
    obtain rfl := Option.some.inj e
    exact r_iret DX7_is_47 rfl rfl
  replace e := x_iff c1_1 e
  by_cases c1_2 : v1 = 2
  · replace e := x_ift c1_2 e
    refine r_tsIn DX7_is_1 (tgt := 48) (by rw [c1_2]; decide) (by rw [c1_2]; decide) (by rw [c1_2]; rfl) (by decide) ?_
    refine r_aload_n DX7_is_48 (i := 0) rfl rfl ?_
    refine r_get (v := .ref (xa g 1)) DX7_is_49 F_X7_12 e_0 rfl ?_
    refine r_get (v := .int (gI a 2)) DX7_is_52 F_X7_80 e_1 rfl ?_
    obtain rfl := Option.some.inj e
    exact r_iret DX7_is_55 rfl rfl
  replace e := x_iff c1_2 e
  by_cases c1_3 : v1 = 3
  · replace e := x_ift c1_3 e
    refine r_tsIn DX7_is_1 (tgt := 56) (by rw [c1_3]; decide) (by rw [c1_3]; decide) (by rw [c1_3]; rfl) (by decide) ?_
    refine r_aload_n DX7_is_56 (i := 0) rfl rfl ?_
    refine r_get (v := .ref (xa g 1)) DX7_is_57 F_X7_12 e_0 rfl ?_
    refine r_get (v := .int (gI a 3)) DX7_is_60 F_X7_83 e_1 rfl ?_
    obtain rfl := Option.some.inj e
    exact r_iret DX7_is_63 rfl rfl
  replace e := x_iff c1_3 e
  refine r_tsOut DX7_is_1 (tgt := 64) (x_out0_3 (x_ne c1_0) (x_ne c1_1) (x_ne c1_2) (x_ne c1_3)) (by decide) ?_
  refine r_sipush DX7_is_64 (v := (-1002)) (by decide) ?_
  obtain rfl := Option.some.inj e
  exact r_iret DX7_is_67 rfl rfl

set_option maxRecDepth 100000 in
set_option maxHeartbeats 4000000 in
theorem t_X7_isMarkOrNone {l : Launch} {g : xG} {b : xT} (v1 : Int32) (v2 : Int32) (a : xT)  {r : Int32} (e : f_X7_isMarkOrNone v1 v2 a = some r) : Ev l g 3 yX7_isMarkOrNone M_X7_isMarkOrNone [.ref (xa g 0), .int v1, .int v2] (a, b) (some (.int r), (a, b)) := by
  unfold f_X7_isMarkOrNone at e
  refine Ev.of 0 (L0 := [some (.ref (xa g 0)), some (.int v1), some (.int v2)]) (by decide) rfl (Nat.le_of_ble_eq_true rfl) rfl ?_
  refine r_iload_n DX7_isMarkOrNone_0 (i := 2) rfl rfl ?_
  refine r_iconst DX7_isMarkOrNone_1 (v := (-1)) (by decide) ?_
  refine r_icmp_eq DX7_isMarkOrNone_2 (tgt := 14) (by decide) (fun c2 => ?_) (fun c2 => ?_)
  · replace e := x_ift c2 e
    refine r_iconst DX7_isMarkOrNone_14 (v := 1) (by decide) ?_
    refine r_goto DX7_isMarkOrNone_15 (tgt := 19) (by decide) ?_
    obtain rfl := Option.some.inj e
    exact r_zret DX7_isMarkOrNone_19 rfl (by decide) rfl
  · replace e := x_iff c2 e
    refine r_aload_n DX7_isMarkOrNone_5 (i := 0) rfl rfl ?_
    refine r_iload_n DX7_isMarkOrNone_6 (i := 1) rfl rfl ?_
    refine r_iload_n DX7_isMarkOrNone_7 (i := 2) rfl rfl ?_
    obtain ⟨q8, e8, e⟩ := x_bnd e
    refine r_callV1 (As := [.int v1, .int v2]) (S := []) DX7_isMarkOrNone_8 C_X7_123 (ci := 7) rfl rfl e_0 (by decide) (by decide) (Nat.le_of_ble_eq_true rfl) (t_X7_isMark v1 v2 a e8) rfl ?_
    refine r_if_eq DX7_isMarkOrNone_11 (tgt := 18) (by decide) (fun c11 => ?_) (fun c11 => ?_)
    · replace e := x_ift c11 e
      refine r_iconst DX7_isMarkOrNone_18 (v := 0) (by decide) ?_
      obtain rfl := Option.some.inj e
      exact r_zret DX7_isMarkOrNone_19 rfl (by decide) rfl
    · replace e := x_iff c11 e
      refine r_iconst DX7_isMarkOrNone_14 (v := 1) (by decide) ?_
      refine r_goto DX7_isMarkOrNone_15 (tgt := 19) (by decide) ?_
      obtain rfl := Option.some.inj e
      exact r_zret DX7_isMarkOrNone_19 rfl (by decide) rfl

set_option maxRecDepth 100000 in
set_option maxHeartbeats 4000000 in
theorem t_X7_island {l : Launch} {g : xG} {b : xT} (v1 : Int32) (v2 : Int32) (v3 : Int32) (a : xT)  {r : (Int32 × xT)} (e : f_X7_island v1 v2 v3 a = some r) : Ev l g 1 yX7_island M_X7_island [.ref (xa g 0), .int v1, .int v2, .int v3] (a, b) (some (.int r.1), (r.2, b)) := by
  unfold f_X7_island at e
  refine Ev.of 0 (L0 := [some (.ref (xa g 0)), some (.int v1), some (.int v2), some (.int v3)]) (by decide) rfl (Nat.le_of_ble_eq_true rfl) rfl ?_
  refine r_iload_n DX7_island_0 (i := 1) rfl rfl ?_
  refine r_iconst DX7_island_1 (v := 0) (by decide) ?_
  refine r_iconst DX7_island_2 (v := 3) (by decide) ?_
  obtain ⟨q3, e3, e⟩ := x_bnd e
  refine r_callS1 (As := [.int v1, .int 0, .int 3]) (S := []) DX7_island_3 C_X7_73 (by decide) (by decide) (Nat.le_of_ble_eq_true rfl) (t_X7_within v1 0 3 e3) rfl ?_
  refine r_if_eq DX7_island_6 (tgt := 27) (by decide) (fun c6 => ?_) (fun c6 => ?_)
  · replace e := x_ift c6 e
    refine r_sipush DX7_island_27 (v := (-1002)) (by decide) ?_
    obtain rfl := Option.some.inj e
    exact r_iret DX7_island_30 rfl rfl
  · replace e := x_iff c6 e
    refine r_iload_n DX7_island_9 (i := 2) rfl rfl ?_
    refine r_iconst DX7_island_10 (v := 0) (by decide) ?_
    refine r_iconst DX7_island_11 (v := 4) (by decide) ?_
    obtain ⟨q12, e12, e⟩ := x_bnd e
    refine r_callS1 (As := [.int v2, .int 0, .int 4]) (S := []) DX7_island_12 C_X7_73 (by decide) (by decide) (Nat.le_of_ble_eq_true rfl) (t_X7_within v2 0 4 e12) rfl ?_
    refine r_if_eq DX7_island_15 (tgt := 27) (by decide) (fun c15 => ?_) (fun c15 => ?_)
    · replace e := x_ift c15 e
      refine r_sipush DX7_island_27 (v := (-1002)) (by decide) ?_
      obtain rfl := Option.some.inj e
      exact r_iret DX7_island_30 rfl rfl
    · replace e := x_iff c15 e
      refine r_iload_n DX7_island_18 (i := 3) rfl rfl ?_
      refine r_iconst DX7_island_19 (v := 0) (by decide) ?_
      refine r_iconst DX7_island_20 (v := 4) (by decide) ?_
      obtain ⟨q21, e21, e⟩ := x_bnd e
      refine r_callS1 (As := [.int v3, .int 0, .int 4]) (S := []) DX7_island_21 C_X7_73 (by decide) (by decide) (Nat.le_of_ble_eq_true rfl) (t_X7_within v3 0 4 e21) rfl ?_
      refine r_if_ne DX7_island_24 (tgt := 31) (by decide) (fun c24 => ?_) (fun c24 => ?_)
      · replace e := x_iff c24 e
        refine r_aload_n DX7_island_31 (i := 0) rfl rfl ?_
        refine r_get (v := .ref (xa g 1)) DX7_island_32 F_X7_12 e_0 rfl ?_
        refine r_iload_n DX7_island_35 (i := 1) rfl rfl ?_
        refine r_put (ty := .int) DX7_island_36 F_X7_77 Fp_1_1 e_1 rfl rfl (Nat.le_of_ble_eq_true rfl) p_1_1 ?_
        refine r_aload_n DX7_island_39 (i := 0) rfl rfl ?_
        refine r_get (v := .ref (xa g 1)) DX7_island_40 F_X7_12 e_0 rfl ?_
        refine r_iload_n DX7_island_43 (i := 2) rfl rfl ?_
        refine r_put (ty := .int) DX7_island_44 F_X7_80 Fp_1_2 e_1 rfl rfl (Nat.le_of_ble_eq_true rfl) p_1_2 ?_
        refine r_aload_n DX7_island_47 (i := 0) rfl rfl ?_
        refine r_get (v := .ref (xa g 1)) DX7_island_48 F_X7_12 e_0 rfl ?_
        refine r_iload_n DX7_island_51 (i := 3) rfl rfl ?_
        refine r_put (ty := .int) DX7_island_52 F_X7_83 Fp_1_3 e_1 rfl rfl (Nat.le_of_ble_eq_true rfl) p_1_3 ?_
        refine r_aload_n DX7_island_55 (i := 0) rfl rfl ?_
        refine r_get (v := .ref (xa g 15)) DX7_island_56 F_X7_51 e_0 rfl ?_
        obtain ⟨q59, e59, e⟩ := x_bnd e
        refine r_callV0 (As := []) (S := []) DX7_island_59 C_X7_72 (ci := 2) rfl rfl e_15 (by decide) (by decide) (Nat.le_of_ble_eq_true rfl) (t_X2_forget (sI (sI (sI a 1 v1) 2 v2) 3 v3) e59) rfl ?_
        refine r_iconst DX7_island_62 (v := 1) (by decide) ?_
        obtain rfl := Option.some.inj e
        exact r_iret DX7_island_63 rfl rfl
      · replace e := x_ift c24 e
        refine r_sipush DX7_island_27 (v := (-1002)) (by decide) ?_
        obtain rfl := Option.some.inj e
        exact r_iret DX7_island_30 rfl rfl

set_option maxRecDepth 100000 in
set_option maxHeartbeats 4000000 in
theorem lp_X7_join_L41 {l : Launch} {g : xG} {b : xT} {R : Option Value × xS} (v1 : Int32) (v3 : Int32) : ∀ (n : Nat) (v4 : Int32) (a : xT) (r : ((xT) ⊕ (xT))), f_X7_join_L41 v1 v3 n v4 a = some r → (∀ z, r = (.inl z) → Rx l g 4 M_X7_join 87 [some (.ref (xa g 0)), some (.int v1), none, none, none] [] (z, b) R) → (∀ z, r = (.inr (z)) → Rx l g 4 M_X7_join 77 [none, none, none, none, none] [] (z, b) R) → Rx l g 4 M_X7_join 41 [some (.ref (xa g 0)), some (.int v1), none, some (.int v3), some (.int v4)] [] (a, b) R := by
  intro n
  induction n with
  | zero => intro v4_ s_ r_ e; cases e
  | succ n ih =>
    intro v4 a r e K0 K1
    rw [f_X7_join_L41] at e
    refine r_iload DX7_join_41 rfl ?_
    refine r_aload_n DX7_join_43 (i := 0) rfl rfl ?_
    refine r_get (v := .ref (xa g 2)) DX7_join_44 F_X7_18 e_0 rfl ?_
    refine r_iload_n DX7_join_47 (i := 3) rfl rfl ?_
    obtain ⟨c48, e⟩ := x_grd e
    refine r_aald (b := (xa g (23 + (Int32.toNatClampNeg v3)))) DX7_join_48 e_2 rfl c48 rfl ?_
    refine r_get (v := .int (gI a (23 + (Int32.toNatClampNeg v3)))) DX7_join_49 F_X7_120 (e_ml (x_in7 c48)) rfl ?_
    refine r_icmp_ge DX7_join_52 (tgt := 87) (by decide) (fun c52 => ?_) (fun c52 => ?_)
    · replace e := x_ift c52 e
      obtain rfl := Option.some.inj e
      refine r_mask (L' := [some (.ref (xa g 0)), some (.int v1), none, none, none]) [true, true, false, false, false] rfl ?_
      exact K0 _ rfl
    · replace e := x_iff c52 e
      refine r_aload_n DX7_join_55 (i := 0) rfl rfl ?_
      refine r_get (v := .ref (xa g (23 + 6))) DX7_join_56 F_X7_23 e_0 rfl ?_
      refine r_aload_n DX7_join_59 (i := 0) rfl rfl ?_
      refine r_get (v := .ref (xa g 2)) DX7_join_60 F_X7_18 e_0 rfl ?_
      refine r_iload_n DX7_join_63 (i := 3) rfl rfl ?_
      obtain ⟨c64, e⟩ := x_grd e
      refine r_aald (b := (xa g (23 + (Int32.toNatClampNeg v3)))) DX7_join_64 e_2 rfl c64 rfl ?_
      refine r_get (v := .ref (xa g (30 + (Int32.toNatClampNeg v3)))) DX7_join_65 F_X7_130 (e_ml (x_in7 c64)) rfl ?_
      refine r_iload DX7_join_68 rfl ?_
      obtain ⟨c70, e⟩ := x_grd e
      refine r_iald (f := (gA a (30 + (Int32.toNatClampNeg v3)))) DX7_join_70 (e_mk (x_in7 c64)) rfl c70 ?_
      obtain ⟨q71, e71, e⟩ := x_bnd e
      refine r_callV1 (As := [.int ((gA a (30 + (Int32.toNatClampNeg v3))) (Int32.toNatClampNeg v4))]) (S := []) DX7_join_71 C_X7_160 (ci := 3) rfl rfl (e_ml (by decide)) (by decide) (by decide) (Nat.le_of_ble_eq_true rfl) (t_X3_appendOnce 6 ((gA a (30 + (Int32.toNatClampNeg v3))) (Int32.toNatClampNeg v4)) a (by decide) e71) rfl ?_
      refine r_if_ne DX7_join_74 (tgt := 81) (by decide) (fun c74 => ?_) (fun c74 => ?_)
      · replace e := x_iff c74 e
        refine r_iinc (L' := [some (.ref (xa g 0)), some (.int v1), none, some (.int v3), some (.int (v4 + 1))]) DX7_join_81 (x := v4) (v := (v4 + 1)) rfl rfl (by decide) rfl rfl ?_
        refine r_goto DX7_join_84 (tgt := 41) (by decide) ?_
        exact ih _ _ _ e K0 K1
      · replace e := x_ift c74 e
        obtain rfl := Option.some.inj e
        refine r_mask (L' := [none, none, none, none, none]) [false, false, false, false, false] rfl ?_
        exact K1 _ rfl

set_option maxRecDepth 100000 in
set_option maxHeartbeats 4000000 in
theorem t_X7_join {l : Launch} {g : xG} {b : xT} (N : Nat) (v1 : Int32) (v2 : Int32) (v3 : Int32) (a : xT)  {r : (Int32 × xT)} (e : f_X7_join N v1 v2 v3 a = some r) : Ev l g 4 yX7_join M_X7_join [.ref (xa g 0), .int v1, .int v2, .int v3] (a, b) (some (.int r.1), (r.2, b)) := by
  unfold f_X7_join at e
  refine Ev.of 1 (L0 := [some (.ref (xa g 0)), some (.int v1), some (.int v2), some (.int v3), none]) (by decide) rfl (Nat.le_of_ble_eq_true rfl) rfl ?_
  refine r_iload_n DX7_join_0 (i := 1) rfl rfl ?_
  obtain ⟨q1, e1, e⟩ := x_bnd e
  refine r_callS1 (As := [.int v1]) (S := []) DX7_join_1 C_X7_111 (by decide) (by decide) (Nat.le_of_ble_eq_true rfl) (t_X7_isList v1 e1) rfl ?_
  refine r_if_eq DX7_join_4 (tgt := 21) (by decide) (fun c4 => ?_) (fun c4 => ?_)
  · replace e := x_ift c4 e
    refine r_sipush DX7_join_21 (v := (-1001)) (by decide) ?_
    obtain rfl := Option.some.inj e
    exact r_iret DX7_join_24 rfl rfl
  · replace e := x_iff c4 e
    refine r_iload_n DX7_join_7 (i := 2) rfl rfl ?_
    obtain ⟨q8, e8, e⟩ := x_bnd e
    refine r_callS1 (As := [.int v2]) (S := []) DX7_join_8 C_X7_111 (by decide) (by decide) (Nat.le_of_ble_eq_true rfl) (t_X7_isList v2 e8) rfl ?_
    refine r_if_eq DX7_join_11 (tgt := 21) (by decide) (fun c11 => ?_) (fun c11 => ?_)
    · replace e := x_ift c11 e
      refine r_sipush DX7_join_21 (v := (-1001)) (by decide) ?_
      obtain rfl := Option.some.inj e
      exact r_iret DX7_join_24 rfl rfl
    · replace e := x_iff c11 e
      refine r_iload_n DX7_join_14 (i := 3) rfl rfl ?_
      obtain ⟨q15, e15, e⟩ := x_bnd e
      refine r_callS1 (As := [.int v3]) (S := []) DX7_join_15 C_X7_111 (by decide) (by decide) (Nat.le_of_ble_eq_true rfl) (t_X7_isList v3 e15) rfl ?_
      refine r_if_ne DX7_join_18 (tgt := 25) (by decide) (fun c18 => ?_) (fun c18 => ?_)
      · replace e := x_iff c18 e
        refine r_aload_n DX7_join_25 (i := 0) rfl rfl ?_
        refine r_get (v := .ref (xa g (23 + 6))) DX7_join_26 F_X7_23 e_0 rfl ?_
        refine r_aload_n DX7_join_29 (i := 0) rfl rfl ?_
        refine r_get (v := .ref (xa g 2)) DX7_join_30 F_X7_18 e_0 rfl ?_
        refine r_iload_n DX7_join_33 (i := 2) rfl rfl ?_
        obtain ⟨c34, e⟩ := x_grd e
        refine r_aald (b := (xa g (23 + (Int32.toNatClampNeg v2)))) DX7_join_34 e_2 rfl c34 rfl ?_
        obtain ⟨q35, e35, e⟩ := x_bnd e
        refine r_callV0 (As := [.ref (xa g (23 + (Int32.toNatClampNeg v2)))]) (S := []) DX7_join_35 C_X7_166 (ci := 3) rfl rfl (e_ml (by decide)) (by decide) (by decide) (Nat.le_of_ble_eq_true rfl) (t_X3_copy 6 (Int32.toNatClampNeg v2) a (by decide) (x_in7 c34) e35) rfl ?_
        refine r_iconst DX7_join_38 (v := 0) (by decide) ?_
        refine r_istore (L' := [some (.ref (xa g 0)), some (.int v1), some (.int v2), some (.int v3), some (.int 0)]) DX7_join_39 (by decide) rfl rfl ?_
        obtain ⟨q41, e41, e⟩ := x_bnd e
        refine r_mask (L' := [some (.ref (xa g 0)), some (.int v1), none, some (.int v3), some (.int 0)]) [true, true, false, true, true] rfl ?_
        refine lp_X7_join_L41 v1 v3 N 0 q35 q41 e41 (fun z41_87 w41 => ?_) (fun z41_77 w41 => ?_)
        · subst w41
          dsimp only [Sum.elim] at e
          refine r_aload_n DX7_join_87 (i := 0) rfl rfl ?_
          refine r_iload_n DX7_join_88 (i := 1) rfl rfl ?_
          obtain ⟨q89, e89, e⟩ := x_bnd e
          refine r_callV1 (As := [.int v1]) (S := []) DX7_join_89 C_X7_163 (ci := 7) rfl rfl e_0 (by decide) (by decide) (Nat.le_of_ble_eq_true rfl) (t_X7_becomesFresh v1 z41_87 e89) rfl ?_
          obtain rfl := Option.some.inj e
          exact r_iret DX7_join_92 rfl rfl
        · subst w41
          dsimp only [Sum.elim] at e
          refine r_sipush DX7_join_77 (v := (-1004)) (by decide) ?_
          obtain rfl := Option.some.inj e
          exact r_iret DX7_join_80 rfl rfl
      · replace e := x_ift c18 e
        refine r_sipush DX7_join_21 (v := (-1001)) (by decide) ?_
        obtain rfl := Option.some.inj e
        exact r_iret DX7_join_24 rfl rfl

set_option maxRecDepth 100000 in
set_option maxHeartbeats 4000000 in
theorem lp_X7_lay_L95 {l : Launch} {g : xG} {b : xT} {R : Option Value × xS} (v1 : Int32) (v2 : Int32) (v3 : Int32) (v4 : Int32) (v5 : Int32) (v6 : Int32) : ∀ (n : Nat) (v7 : Int32) (a : xT) (r : ((xT) ⊕ (xT))), f_X7_lay_L95 v1 v2 v3 v4 v5 v6 n v7 a = some r → (∀ z, r = (.inl z) → Rx l g 4 M_X7_lay 159 [some (.ref (xa g 0)), some (.int v1), some (.int v2), some (.int v3), some (.int v4), some (.int v5), none, none, none] [] (z, b) R) → (∀ z, r = (.inr (z)) → Rx l g 4 M_X7_lay 149 [none, none, none, none, none, none, none, none, none] [] (z, b) R) → Rx l g 4 M_X7_lay 95 [some (.ref (xa g 0)), some (.int v1), some (.int v2), some (.int v3), some (.int v4), some (.int v5), some (.int v6), some (.int v7), none] [] (a, b) R := by
  intro n
  induction n with
  | zero => intro v7_ s_ r_ e; cases e
  | succ n ih =>
    intro v7 a r e K0 K1
    rw [f_X7_lay_L95] at e
    refine r_iload DX7_lay_95 rfl ?_
    refine r_aload_n DX7_lay_97 (i := 0) rfl rfl ?_
    refine r_get (v := .ref (xa g 2)) DX7_lay_98 F_X7_18 e_0 rfl ?_
    refine r_iload_n DX7_lay_101 (i := 3) rfl rfl ?_
    obtain ⟨c102, e⟩ := x_grd e
    refine r_aald (b := (xa g (23 + (Int32.toNatClampNeg v3)))) DX7_lay_102 e_2 rfl c102 rfl ?_
    refine r_get (v := .int (gI a (23 + (Int32.toNatClampNeg v3)))) DX7_lay_103 F_X7_120 (e_ml (x_in7 c102)) rfl ?_
    refine r_icmp_ge DX7_lay_106 (tgt := 159) (by decide) (fun c106 => ?_) (fun c106 => ?_)
    · replace e := x_ift c106 e
      obtain rfl := Option.some.inj e
      refine r_mask (L' := [some (.ref (xa g 0)), some (.int v1), some (.int v2), some (.int v3), some (.int v4), some (.int v5), none, none, none]) [true, true, true, true, true, true, false, false, false] rfl ?_
      exact K0 _ rfl
    · replace e := x_iff c106 e
      refine r_aload_n DX7_lay_109 (i := 0) rfl rfl ?_
      refine r_get (v := .ref (xa g 2)) DX7_lay_110 F_X7_18 e_0 rfl ?_
      refine r_iload_n DX7_lay_113 (i := 3) rfl rfl ?_
      obtain ⟨c114, e⟩ := x_grd e
      refine r_aald (b := (xa g (23 + (Int32.toNatClampNeg v3)))) DX7_lay_114 e_2 rfl c114 rfl ?_
      refine r_get (v := .ref (xa g (30 + (Int32.toNatClampNeg v3)))) DX7_lay_115 F_X7_130 (e_ml (x_in7 c114)) rfl ?_
      refine r_iload DX7_lay_118 rfl ?_
      obtain ⟨c120, e⟩ := x_grd e
      refine r_iald (f := (gA a (30 + (Int32.toNatClampNeg v3)))) DX7_lay_120 (e_mk (x_in7 c114)) rfl c120 ?_
      refine r_iload DX7_lay_121 rfl ?_
      refine r_ishl DX7_lay_123 ?_
      refine r_aload_n DX7_lay_124 (i := 0) rfl rfl ?_
      refine r_get (v := .ref (xa g 1)) DX7_lay_125 F_X7_12 e_0 rfl ?_
      obtain ⟨q128, e128, e⟩ := x_bnd e
      refine r_callV1 (As := []) (S := [.int (((gA a (30 + (Int32.toNatClampNeg v3))) (Int32.toNatClampNeg v7)) <<< (v4 &&& 31))]) DX7_lay_128 C_X7_142 (ci := 1) rfl rfl e_1 (by decide) (by decide) (Nat.le_of_ble_eq_true rfl) (t_X1_all a e128) rfl ?_
      refine r_iand DX7_lay_131 ?_
      obtain ⟨w132, e132, e⟩ := x_bnd e
      refine r_istoreB (L' := [some (.ref (xa g 0)), some (.int v1), some (.int v2), some (.int v3), some (.int v4), some (.int v5), some (.int v6), some (.int v7), some (.int w132)]) (w := w132) DX7_lay_132 (Option.some.inj e132) (by decide) rfl rfl ?_
      refine r_aload_n DX7_lay_134 (i := 0) rfl rfl ?_
      refine r_get (v := .ref (xa g (23 + 6))) DX7_lay_135 F_X7_23 e_0 rfl ?_
      refine r_iload DX7_lay_138 rfl ?_
      refine r_iload DX7_lay_140 rfl ?_
      refine r_ior DX7_lay_142 ?_
      obtain ⟨q143, e143, e⟩ := x_bnd e
      refine r_callV1 (As := [.int (v6 ||| w132)]) (S := []) DX7_lay_143 C_X7_160 (ci := 3) rfl rfl (e_ml (by decide)) (by decide) (by decide) (Nat.le_of_ble_eq_true rfl) (t_X3_appendOnce 6 (v6 ||| w132) a (by decide) e143) rfl ?_
      refine r_if_ne DX7_lay_146 (tgt := 153) (by decide) (fun c146 => ?_) (fun c146 => ?_)
      · replace e := x_iff c146 e
        refine r_iinc (L' := [some (.ref (xa g 0)), some (.int v1), some (.int v2), some (.int v3), some (.int v4), some (.int v5), some (.int v6), some (.int (v7 + 1)), some (.int w132)]) DX7_lay_153 (x := v7) (v := (v7 + 1)) rfl rfl (by decide) rfl rfl ?_
        refine r_goto DX7_lay_156 (tgt := 95) (by decide) ?_
        refine r_mask (L' := [some (.ref (xa g 0)), some (.int v1), some (.int v2), some (.int v3), some (.int v4), some (.int v5), some (.int v6), some (.int (v7 + 1)), none]) [true, true, true, true, true, true, true, true, false] rfl ?_
        exact ih _ _ _ e K0 K1
      · replace e := x_ift c146 e
        obtain rfl := Option.some.inj e
        refine r_mask (L' := [none, none, none, none, none, none, none, none, none]) [false, false, false, false, false, false, false, false, false] rfl ?_
        exact K1 _ rfl

set_option maxRecDepth 100000 in
set_option maxHeartbeats 4000000 in
theorem lp_X7_lay_L57 {l : Launch} {g : xG} {b : xT} {R : Option Value × xS} (N : Nat) (v1 : Int32) (v2 : Int32) (v3 : Int32) (v4 : Int32) : ∀ (n : Nat) (v5 : Int32) (a : xT) (r : ((xT) ⊕ (xT))), f_X7_lay_L57 N v1 v2 v3 v4 n v5 a = some r → (∀ z, r = (.inl z) → Rx l g 4 M_X7_lay 165 [some (.ref (xa g 0)), some (.int v1), none, none, none, none, none, none, none] [] (z, b) R) → (∀ z, r = (.inr (z)) → Rx l g 4 M_X7_lay 149 [none, none, none, none, none, none, none, none, none] [] (z, b) R) → Rx l g 4 M_X7_lay 57 [some (.ref (xa g 0)), some (.int v1), some (.int v2), some (.int v3), some (.int v4), some (.int v5), none, none, none] [] (a, b) R := by
  intro n
  induction n with
  | zero => intro v5_ s_ r_ e; cases e
  | succ n ih =>
    intro v5 a r e K0 K1
    rw [f_X7_lay_L57] at e
    refine r_iload DX7_lay_57 rfl ?_
    refine r_aload_n DX7_lay_59 (i := 0) rfl rfl ?_
    refine r_get (v := .ref (xa g 2)) DX7_lay_60 F_X7_18 e_0 rfl ?_
    refine r_iload_n DX7_lay_63 (i := 2) rfl rfl ?_
    obtain ⟨c64, e⟩ := x_grd e
    refine r_aald (b := (xa g (23 + (Int32.toNatClampNeg v2)))) DX7_lay_64 e_2 rfl c64 rfl ?_
    refine r_get (v := .int (gI a (23 + (Int32.toNatClampNeg v2)))) DX7_lay_65 F_X7_120 (e_ml (x_in7 c64)) rfl ?_
    refine r_icmp_ge DX7_lay_68 (tgt := 165) (by decide) (fun c68 => ?_) (fun c68 => ?_)
    · replace e := x_ift c68 e
      obtain rfl := Option.some.inj e
      refine r_mask (L' := [some (.ref (xa g 0)), some (.int v1), none, none, none, none, none, none, none]) [true, true, false, false, false, false, false, false, false] rfl ?_
      exact K0 _ rfl
    · replace e := x_iff c68 e
      refine r_aload_n DX7_lay_71 (i := 0) rfl rfl ?_
      refine r_get (v := .ref (xa g 2)) DX7_lay_72 F_X7_18 e_0 rfl ?_
      refine r_iload_n DX7_lay_75 (i := 2) rfl rfl ?_
      obtain ⟨c76, e⟩ := x_grd e
      refine r_aald (b := (xa g (23 + (Int32.toNatClampNeg v2)))) DX7_lay_76 e_2 rfl c76 rfl ?_
      refine r_get (v := .ref (xa g (30 + (Int32.toNatClampNeg v2)))) DX7_lay_77 F_X7_130 (e_ml (x_in7 c76)) rfl ?_
      refine r_iload DX7_lay_80 rfl ?_
      obtain ⟨c82, e⟩ := x_grd e
      refine r_iald (f := (gA a (30 + (Int32.toNatClampNeg v2)))) DX7_lay_82 (e_mk (x_in7 c76)) rfl c82 ?_
      refine r_iconst DX7_lay_83 (v := 1) (by decide) ?_
      refine r_iload DX7_lay_84 rfl ?_
      refine r_ishl DX7_lay_86 ?_
      refine r_iconst DX7_lay_87 (v := 1) (by decide) ?_
      refine r_isub DX7_lay_88 ?_
      refine r_iand DX7_lay_89 ?_
      obtain ⟨w90, e90, e⟩ := x_bnd e
      refine r_istoreB (L' := [some (.ref (xa g 0)), some (.int v1), some (.int v2), some (.int v3), some (.int v4), some (.int v5), some (.int w90), none, none]) (w := w90) DX7_lay_90 (Option.some.inj e90) (by decide) rfl rfl ?_
      refine r_iconst DX7_lay_92 (v := 0) (by decide) ?_
      refine r_istore (L' := [some (.ref (xa g 0)), some (.int v1), some (.int v2), some (.int v3), some (.int v4), some (.int v5), some (.int w90), some (.int 0), none]) DX7_lay_93 (by decide) rfl rfl ?_
      obtain ⟨q95, e95, e⟩ := x_bnd e
      refine lp_X7_lay_L95 v1 v2 v3 v4 v5 w90 N 0 a q95 e95 (fun z95_159 w95 => ?_) (fun z95_149 w95 => ?_)
      · subst w95
        dsimp only [Sum.elim] at e
        refine r_iinc (L' := [some (.ref (xa g 0)), some (.int v1), some (.int v2), some (.int v3), some (.int v4), some (.int (v5 + 1)), none, none, none]) DX7_lay_159 (x := v5) (v := (v5 + 1)) rfl rfl (by decide) rfl rfl ?_
        refine r_goto DX7_lay_162 (tgt := 57) (by decide) ?_
        exact ih _ _ _ e K0 K1
      · subst w95
        dsimp only [Sum.elim] at e
        obtain rfl := Option.some.inj e
        exact K1 _ rfl

set_option maxRecDepth 100000 in
set_option maxHeartbeats 4000000 in
theorem t_X7_lay {l : Launch} {g : xG} {b : xT} (N : Nat) (v1 : Int32) (v2 : Int32) (v3 : Int32) (v4 : Int32) (a : xT)  {r : (Int32 × xT)} (e : f_X7_lay N v1 v2 v3 v4 a = some r) : Ev l g 4 yX7_lay M_X7_lay [.ref (xa g 0), .int v1, .int v2, .int v3, .int v4] (a, b) (some (.int r.1), (r.2, b)) := by
  unfold f_X7_lay at e
  refine Ev.of 4 (L0 := [some (.ref (xa g 0)), some (.int v1), some (.int v2), some (.int v3), some (.int v4), none, none, none, none]) (by decide) rfl (Nat.le_of_ble_eq_true rfl) rfl ?_
  refine r_iload_n DX7_lay_0 (i := 1) rfl rfl ?_
  obtain ⟨q1, e1, e⟩ := x_bnd e
  refine r_callS1 (As := [.int v1]) (S := []) DX7_lay_1 C_X7_111 (by decide) (by decide) (Nat.le_of_ble_eq_true rfl) (t_X7_isList v1 e1) rfl ?_
  refine r_if_eq DX7_lay_4 (tgt := 21) (by decide) (fun c4 => ?_) (fun c4 => ?_)
  · replace e := x_ift c4 e
    refine r_sipush DX7_lay_21 (v := (-1001)) (by decide) ?_
    obtain rfl := Option.some.inj e
    exact r_iret DX7_lay_24 rfl rfl
  · replace e := x_iff c4 e
    refine r_iload_n DX7_lay_7 (i := 2) rfl rfl ?_
    obtain ⟨q8, e8, e⟩ := x_bnd e
    refine r_callS1 (As := [.int v2]) (S := []) DX7_lay_8 C_X7_111 (by decide) (by decide) (Nat.le_of_ble_eq_true rfl) (t_X7_isList v2 e8) rfl ?_
    refine r_if_eq DX7_lay_11 (tgt := 21) (by decide) (fun c11 => ?_) (fun c11 => ?_)
    · replace e := x_ift c11 e
      refine r_sipush DX7_lay_21 (v := (-1001)) (by decide) ?_
      obtain rfl := Option.some.inj e
      exact r_iret DX7_lay_24 rfl rfl
    · replace e := x_iff c11 e
      refine r_iload_n DX7_lay_14 (i := 3) rfl rfl ?_
      obtain ⟨q15, e15, e⟩ := x_bnd e
      refine r_callS1 (As := [.int v3]) (S := []) DX7_lay_15 C_X7_111 (by decide) (by decide) (Nat.le_of_ble_eq_true rfl) (t_X7_isList v3 e15) rfl ?_
      refine r_if_ne DX7_lay_18 (tgt := 25) (by decide) (fun c18 => ?_) (fun c18 => ?_)
      · replace e := x_iff c18 e
        refine r_iload DX7_lay_25 rfl ?_
        refine r_iconst DX7_lay_27 (v := 1) (by decide) ?_
        refine r_aload_n DX7_lay_28 (i := 0) rfl rfl ?_
        refine r_get (v := .ref (xa g 1)) DX7_lay_29 F_X7_12 e_0 rfl ?_
        refine r_get (v := .int (gI a 0)) DX7_lay_32 F_X7_62 e_1 rfl ?_
        refine r_iconst DX7_lay_35 (v := 1) (by decide) ?_
        refine r_isub DX7_lay_36 ?_
        obtain ⟨q37, e37, e⟩ := x_bnd e
        refine r_callS1 (As := [.int v4, .int 1, .int ((gI a 0) - 1)]) (S := []) DX7_lay_37 C_X7_73 (by decide) (by decide) (Nat.le_of_ble_eq_true rfl) (t_X7_within v4 1 ((gI a 0) - 1) e37) rfl ?_
        refine r_if_ne DX7_lay_40 (tgt := 47) (by decide) (fun c40 => ?_) (fun c40 => ?_)
        · replace e := x_iff c40 e
          refine r_aload_n DX7_lay_47 (i := 0) rfl rfl ?_
          refine r_get (v := .ref (xa g (23 + 6))) DX7_lay_48 F_X7_23 e_0 rfl ?_
          obtain ⟨q51, e51, e⟩ := x_bnd e
          refine r_callV0 (As := []) (S := []) DX7_lay_51 C_X7_66 (ci := 3) rfl rfl (e_ml (by decide)) (by decide) (by decide) (Nat.le_of_ble_eq_true rfl) (t_X3_wipe N 6 a (by decide) e51) rfl ?_
          refine r_iconst DX7_lay_54 (v := 0) (by decide) ?_
          refine r_istore (L' := [some (.ref (xa g 0)), some (.int v1), some (.int v2), some (.int v3), some (.int v4), some (.int 0), none, none, none]) DX7_lay_55 (by decide) rfl rfl ?_
          obtain ⟨q57, e57, e⟩ := x_bnd e
          refine lp_X7_lay_L57 N v1 v2 v3 v4 N 0 q51 q57 e57 (fun z57_165 w57 => ?_) (fun z57_149 w57 => ?_)
          · subst w57
            dsimp only [Sum.elim] at e
            refine r_aload_n DX7_lay_165 (i := 0) rfl rfl ?_
            refine r_iload_n DX7_lay_166 (i := 1) rfl rfl ?_
            obtain ⟨q167, e167, e⟩ := x_bnd e
            refine r_callV1 (As := [.int v1]) (S := []) DX7_lay_167 C_X7_163 (ci := 7) rfl rfl e_0 (by decide) (by decide) (Nat.le_of_ble_eq_true rfl) (t_X7_becomesFresh v1 z57_165 e167) rfl ?_
            obtain rfl := Option.some.inj e
            exact r_iret DX7_lay_170 rfl rfl
          · subst w57
            dsimp only [Sum.elim] at e
            refine r_sipush DX7_lay_149 (v := (-1004)) (by decide) ?_
            obtain rfl := Option.some.inj e
            exact r_iret DX7_lay_152 rfl rfl
        · replace e := x_ift c40 e
          refine r_sipush DX7_lay_43 (v := (-1002)) (by decide) ?_
          obtain rfl := Option.some.inj e
          exact r_iret DX7_lay_46 rfl rfl
      · replace e := x_ift c18 e
        refine r_sipush DX7_lay_21 (v := (-1001)) (by decide) ?_
        obtain rfl := Option.some.inj e
        exact r_iret DX7_lay_24 rfl rfl

set_option maxRecDepth 100000 in
set_option maxHeartbeats 4000000 in
theorem t_X7_likely {l : Launch} {g : xG} {b : xT} (N : Nat) (v1 : Int32) (v2 : Int32) (a : xT)  {r : (Int32 × xT)} (e : f_X7_likely N v1 v2 a = some r) : Ev l g 2 yX7_likely M_X7_likely [.ref (xa g 0), .int v1, .int v2] (a, b) (some (.int r.1), (r.2, b)) := by
  unfold f_X7_likely at e
  refine Ev.of 0 (L0 := [some (.ref (xa g 0)), some (.int v1), some (.int v2)]) (by decide) rfl (Nat.le_of_ble_eq_true rfl) rfl ?_
  refine r_iload_n DX7_likely_0 (i := 1) rfl rfl ?_
  obtain ⟨q1, e1, e⟩ := x_bnd e
  refine r_callS1 (As := [.int v1]) (S := []) DX7_likely_1 C_X7_111 (by decide) (by decide) (Nat.le_of_ble_eq_true rfl) (t_X7_isList v1 e1) rfl ?_
  refine r_if_ne DX7_likely_4 (tgt := 11) (by decide) (fun c4 => ?_) (fun c4 => ?_)
  · replace e := x_iff c4 e
    refine r_aload_n DX7_likely_11 (i := 0) rfl rfl ?_
    refine r_get (v := .ref (xa g 3)) DX7_likely_12 F_X7_30 e_0 rfl ?_
    refine r_aload_n DX7_likely_15 (i := 0) rfl rfl ?_
    refine r_get (v := .ref (xa g 2)) DX7_likely_16 F_X7_18 e_0 rfl ?_
    refine r_iload_n DX7_likely_19 (i := 1) rfl rfl ?_
    obtain ⟨c20, e⟩ := x_grd e
    refine r_aald (b := (xa g (23 + (Int32.toNatClampNeg v1)))) DX7_likely_20 e_2 rfl c20 rfl ?_
    obtain ⟨q21, e21, e⟩ := x_bnd e
    refine r_callV0 (As := [.ref (xa g (23 + (Int32.toNatClampNeg v1)))]) (S := []) DX7_likely_21 C_X7_214 (ci := 4) rfl rfl e_3 (by decide) (by decide) (Nat.le_of_ble_eq_true rfl) (t_X4_weigh N (Int32.toNatClampNeg v1) a (x_in7 c20) e21) rfl ?_
    refine r_iload_n DX7_likely_24 (i := 2) rfl rfl ?_
    refine r_iconst DX7_likely_25 (v := (-1)) (by decide) ?_
    refine r_icmp_ne DX7_likely_26 (tgt := 39) (by decide) (fun c26 => ?_) (fun c26 => ?_)
    · replace e := x_iff c26 e
      refine r_aload_n DX7_likely_39 (i := 0) rfl rfl ?_
      refine r_get (v := .ref (xa g 3)) DX7_likely_40 F_X7_30 e_0 rfl ?_
      refine r_iload_n DX7_likely_43 (i := 2) rfl rfl ?_
      obtain ⟨q44, e44, e⟩ := x_bnd e
      refine r_callV1 (As := [.int v2]) (S := []) DX7_likely_44 C_X7_220 (ci := 4) rfl rfl e_3 (by decide) (by decide) (Nat.le_of_ble_eq_true rfl) (t_X4_ranked N v2 q21 e44) rfl ?_
      obtain rfl := Option.some.inj e
      exact r_iret DX7_likely_47 rfl rfl
    · replace e := x_ift c26 e
      refine r_aload_n DX7_likely_29 (i := 0) rfl rfl ?_
      refine r_get (v := .ref (xa g 3)) DX7_likely_30 F_X7_30 e_0 rfl ?_
      obtain ⟨q33, e33, e⟩ := x_bnd e
      refine r_callV1 (As := []) (S := []) DX7_likely_33 C_X7_217 (ci := 4) rfl rfl e_3 (by decide) (by decide) (Nat.le_of_ble_eq_true rfl) (t_X4_possible N q21 e33) rfl ?_
      refine r_goto DX7_likely_36 (tgt := 47) (by decide) ?_
      obtain rfl := Option.some.inj e
      exact r_iret DX7_likely_47 rfl rfl
  · replace e := x_ift c4 e
    refine r_sipush DX7_likely_7 (v := (-1001)) (by decide) ?_
    obtain rfl := Option.some.inj e
    exact r_iret DX7_likely_10 rfl rfl

set_option maxRecDepth 100000 in
set_option maxHeartbeats 4000000 in
theorem t_X7_look {l : Launch} {g : xG} {b : xT} (v1 : Int32) (v2 : Int32) (a : xT)  {r : (Int32 × xT)} (e : f_X7_look v1 v2 a = some r) : Ev l g 2 yX7_look M_X7_look [.ref (xa g 0), .int v1, .int v2] (a, b) (some (.int r.1), (r.2, b)) := by
  unfold f_X7_look at e
  refine Ev.of 1 (L0 := [some (.ref (xa g 0)), some (.int v1), some (.int v2), none]) (by decide) rfl (Nat.le_of_ble_eq_true rfl) rfl ?_
  refine r_aload_n DX7_look_0 (i := 0) rfl rfl ?_
  refine r_iload_n DX7_look_1 (i := 1) rfl rfl ?_
  obtain ⟨q2, e2, e⟩ := x_bnd e
  refine r_callV1 (As := [.int v1]) (S := []) DX7_look_2 C_X7_170 (ci := 7) rfl rfl e_0 (by decide) (by decide) (Nat.le_of_ble_eq_true rfl) (t_X7_isPlace v1 a e2) rfl ?_
  refine r_if_eq DX7_look_5 (tgt := 18) (by decide) (fun c5 => ?_) (fun c5 => ?_)
  · replace e := x_ift c5 e
    refine r_sipush DX7_look_18 (v := (-1002)) (by decide) ?_
    obtain rfl := Option.some.inj e
    exact r_iret DX7_look_21 rfl rfl
  · replace e := x_iff c5 e
    refine r_iload_n DX7_look_8 (i := 2) rfl rfl ?_
    refine r_iconst DX7_look_9 (v := (-1)) (by decide) ?_
    refine r_bipush DX7_look_10 (v := 9) (by decide) ?_
    obtain ⟨q12, e12, e⟩ := x_bnd e
    refine r_callS1 (As := [.int v2, .int (-1), .int 9]) (S := []) DX7_look_12 C_X7_73 (by decide) (by decide) (Nat.le_of_ble_eq_true rfl) (t_X7_within v2 (-1) 9 e12) rfl ?_
    refine r_if_ne DX7_look_15 (tgt := 22) (by decide) (fun c15 => ?_) (fun c15 => ?_)
    · replace e := x_iff c15 e
      refine r_aload_n DX7_look_22 (i := 0) rfl rfl ?_
      refine r_get (v := .ref (xa g 3)) DX7_look_23 F_X7_30 e_0 rfl ?_
      refine r_get (v := .ref (xa g 4)) DX7_look_26 F_X7_205 e_3 rfl ?_
      refine r_iload_n DX7_look_29 (i := 1) rfl rfl ?_
      obtain ⟨c30, e⟩ := x_grd e
      refine r_iald (f := (gA a 4)) DX7_look_30 e_4 rfl c30 ?_
      refine r_istore_n (L' := [some (.ref (xa g 0)), some (.int v1), some (.int v2), some (.int ((gA a 4) (Int32.toNatClampNeg v1)))]) DX7_look_31 (i := 3) rfl (by decide) rfl rfl ?_
      refine r_aload_n DX7_look_32 (i := 0) rfl rfl ?_
      refine r_get (v := .ref (xa g 3)) DX7_look_33 F_X7_30 e_0 rfl ?_
      refine r_get (v := .ref (xa g 4)) DX7_look_36 F_X7_205 e_3 rfl ?_
      refine r_iload_n DX7_look_39 (i := 1) rfl rfl ?_
      refine r_iload_n DX7_look_40 (i := 2) rfl rfl ?_
      obtain ⟨c41, e⟩ := x_grd e
      refine r_iast (f := (gA a 4)) DX7_look_41 e_4 rfl c41 p_4 ?_
      refine r_iload_n DX7_look_42 (i := 3) rfl rfl ?_
      obtain rfl := Option.some.inj e
      exact r_iret DX7_look_43 rfl rfl
    · replace e := x_ift c15 e
      refine r_sipush DX7_look_18 (v := (-1002)) (by decide) ?_
      obtain rfl := Option.some.inj e
      exact r_iret DX7_look_21 rfl rfl

set_option maxRecDepth 100000 in
set_option maxHeartbeats 4000000 in
theorem t_X7_make {l : Launch} {g : xG} {b : xT} (v1 : Int32) (v2 : Int32) (v3 : Int32) (v4 : Int32) (v5 : Int32) (a : xT)  {r : Int32} (e : f_X7_make v1 v2 v3 v4 v5 a = some r) : Ev l g 4 yX7_make M_X7_make [.ref (xa g 0), .int v1, .int v2, .int v3, .int v4, .int v5] (a, b) (some (.int r), (a, b)) := by
  unfold f_X7_make at e
  refine Ev.of 4 (L0 := [some (.ref (xa g 0)), some (.int v1), some (.int v2), some (.int v3), some (.int v4), some (.int v5), none, none, none, none]) (by decide) rfl (Nat.le_of_ble_eq_true rfl) rfl ?_
  refine r_aload_n DX7_make_0 (i := 0) rfl rfl ?_
  refine r_iload_n DX7_make_1 (i := 1) rfl rfl ?_
  refine r_iload_n DX7_make_2 (i := 2) rfl rfl ?_
  obtain ⟨q3, e3, e⟩ := x_bnd e
  refine r_callV1 (As := [.int v1, .int v2]) (S := []) DX7_make_3 C_X7_123 (ci := 7) rfl rfl e_0 (by decide) (by decide) (Nat.le_of_ble_eq_true rfl) (t_X7_isMark v1 v2 a e3) rfl ?_
  refine r_if_eq DX7_make_6 (tgt := 28) (by decide) (fun c6 => ?_) (fun c6 => ?_)
  · replace e := x_ift c6 e
    refine r_sipush DX7_make_28 (v := (-1001)) (by decide) ?_
    obtain rfl := Option.some.inj e
    exact r_iret DX7_make_31 rfl rfl
  · replace e := x_iff c6 e
    refine r_aload_n DX7_make_9 (i := 0) rfl rfl ?_
    refine r_iload_n DX7_make_10 (i := 1) rfl rfl ?_
    refine r_iload_n DX7_make_11 (i := 3) rfl rfl ?_
    obtain ⟨q12, e12, e⟩ := x_bnd e
    refine r_callV1 (As := [.int v1, .int v3]) (S := []) DX7_make_12 C_X7_242 (ci := 7) rfl rfl e_0 (by decide) (by decide) (Nat.le_of_ble_eq_true rfl) (t_X7_isMarkOrNone v1 v3 a e12) rfl ?_
    refine r_if_eq DX7_make_15 (tgt := 28) (by decide) (fun c15 => ?_) (fun c15 => ?_)
    · replace e := x_ift c15 e
      refine r_sipush DX7_make_28 (v := (-1001)) (by decide) ?_
      obtain rfl := Option.some.inj e
      exact r_iret DX7_make_31 rfl rfl
    · replace e := x_iff c15 e
      refine r_aload_n DX7_make_18 (i := 0) rfl rfl ?_
      refine r_iload_n DX7_make_19 (i := 1) rfl rfl ?_
      refine r_iload DX7_make_20 rfl ?_
      obtain ⟨q22, e22, e⟩ := x_bnd e
      refine r_callV1 (As := [.int v1, .int v4]) (S := []) DX7_make_22 C_X7_242 (ci := 7) rfl rfl e_0 (by decide) (by decide) (Nat.le_of_ble_eq_true rfl) (t_X7_isMarkOrNone v1 v4 a e22) rfl ?_
      refine r_if_ne DX7_make_25 (tgt := 32) (by decide) (fun c25 => ?_) (fun c25 => ?_)
      · replace e := x_iff c25 e
        refine r_aload_n DX7_make_32 (i := 0) rfl rfl ?_
        refine r_get (v := .ref (xa g 1)) DX7_make_33 F_X7_12 e_0 rfl ?_
        refine r_iload DX7_make_36 rfl ?_
        obtain ⟨q38, e38, e⟩ := x_bnd e
        refine r_callV1 (As := [.int v5]) (S := []) DX7_make_38 C_X7_86 (ci := 1) rfl rfl e_1 (by decide) (by decide) (Nat.le_of_ble_eq_true rfl) (t_X1_isSet v5 a e38) rfl ?_
        refine r_if_ne DX7_make_41 (tgt := 48) (by decide) (fun c41 => ?_) (fun c41 => ?_)
        · replace e := x_iff c41 e
          refine r_aload_n DX7_make_48 (i := 0) rfl rfl ?_
          refine r_get (v := .ref (xa g 2)) DX7_make_49 F_X7_18 e_0 rfl ?_
          refine r_iload_n DX7_make_52 (i := 1) rfl rfl ?_
          obtain ⟨c53, e⟩ := x_grd e
          refine r_aald (b := (xa g (23 + (Int32.toNatClampNeg v1)))) DX7_make_53 e_2 rfl c53 rfl ?_
          refine r_get (v := .ref (xa g (30 + (Int32.toNatClampNeg v1)))) DX7_make_54 F_X7_130 (e_ml (x_in7 c53)) rfl ?_
          refine r_astore (L' := [some (.ref (xa g 0)), some (.int v1), some (.int v2), some (.int v3), some (.int v4), some (.int v5), some (.ref (xa g (30 + (Int32.toNatClampNeg v1)))), none, none, none]) DX7_make_57 (by decide) rfl rfl ?_
          refine r_iload_n DX7_make_59 (i := 3) rfl rfl ?_
          refine r_iconst DX7_make_60 (v := (-1)) (by decide) ?_
          refine r_icmp_ne DX7_make_61 (tgt := 68) (by decide) (fun c61 => ?_) (fun c61 => ?_)
          · replace e := x_iff c61 e
            refine r_iload_n DX7_make_68 (i := 3) rfl rfl ?_
            refine r_istore (L' := [some (.ref (xa g 0)), some (.int v1), some (.int v2), some (.int v3), some (.int v4), some (.int v5), some (.ref (xa g (30 + (Int32.toNatClampNeg v1)))), some (.int v3), none, none]) DX7_make_69 (by decide) rfl rfl ?_
            refine r_iload DX7_make_71 rfl ?_
            refine r_iconst DX7_make_73 (v := (-1)) (by decide) ?_
            refine r_icmp_ne DX7_make_74 (tgt := 81) (by decide) (fun c74 => ?_) (fun c74 => ?_)
            · replace e := x_iff c74 e
              refine r_iload DX7_make_81 rfl ?_
              refine r_istore (L' := [some (.ref (xa g 0)), some (.int v1), some (.int v2), some (.int v3), some (.int v4), some (.int v5), some (.ref (xa g (30 + (Int32.toNatClampNeg v1)))), some (.int v3), some (.int v4), none]) DX7_make_83 (by decide) rfl rfl ?_
              refine r_aload_n DX7_make_85 (i := 0) rfl rfl ?_
              refine r_get (v := .ref (xa g 1)) DX7_make_86 F_X7_12 e_0 rfl ?_
              refine r_aload DX7_make_89 rfl ?_
              refine r_iload_n DX7_make_91 (i := 2) rfl rfl ?_
              obtain ⟨c92, e⟩ := x_grd e
              refine r_iald (f := (gA a (30 + (Int32.toNatClampNeg v1)))) DX7_make_92 (e_mk (x_in7 c53)) rfl c92 ?_
              refine r_iload DX7_make_93 rfl ?_
              obtain ⟨q95, e95, e⟩ := x_bnd e
              refine r_callV1 (As := [.int ((gA a (30 + (Int32.toNatClampNeg v1))) (Int32.toNatClampNeg v2)), .int v5]) (S := []) DX7_make_95 C_X7_245 (ci := 1) rfl rfl e_1 (by decide) (by decide) (Nat.le_of_ble_eq_true rfl) (t_X1_agreement ((gA a (30 + (Int32.toNatClampNeg v1))) (Int32.toNatClampNeg v2)) v5 a e95) rfl ?_
              refine r_aload_n DX7_make_98 (i := 0) rfl rfl ?_
              refine r_get (v := .ref (xa g 1)) DX7_make_99 F_X7_12 e_0 rfl ?_
              refine r_aload DX7_make_102 rfl ?_
              refine r_iload DX7_make_104 rfl ?_
              obtain ⟨c106, e⟩ := x_grd e
              refine r_iald (f := (gA a (30 + (Int32.toNatClampNeg v1)))) DX7_make_106 (e_mk (x_in7 c53)) rfl c106 ?_
              refine r_iload DX7_make_107 rfl ?_
              obtain ⟨q109, e109, e⟩ := x_bnd e
              refine r_callV1 (As := [.int ((gA a (30 + (Int32.toNatClampNeg v1))) (Int32.toNatClampNeg v3)), .int v5]) (S := [.int q95]) DX7_make_109 C_X7_245 (ci := 1) rfl rfl e_1 (by decide) (by decide) (Nat.le_of_ble_eq_true rfl) (t_X1_agreement ((gA a (30 + (Int32.toNatClampNeg v1))) (Int32.toNatClampNeg v3)) v5 a e109) rfl ?_
              refine r_ior DX7_make_112 ?_
              refine r_aload_n DX7_make_113 (i := 0) rfl rfl ?_
              refine r_get (v := .ref (xa g 1)) DX7_make_114 F_X7_12 e_0 rfl ?_
              refine r_aload DX7_make_117 rfl ?_
              refine r_iload DX7_make_119 rfl ?_
              obtain ⟨c121, e⟩ := x_grd e
              refine r_iald (f := (gA a (30 + (Int32.toNatClampNeg v1)))) DX7_make_121 (e_mk (x_in7 c53)) rfl c121 ?_
              refine r_iload DX7_make_122 rfl ?_
              obtain ⟨q124, e124, e⟩ := x_bnd e
              refine r_callV1 (As := [.int ((gA a (30 + (Int32.toNatClampNeg v1))) (Int32.toNatClampNeg v4)), .int v5]) (S := [.int (q95 ||| q109)]) DX7_make_124 C_X7_245 (ci := 1) rfl rfl e_1 (by decide) (by decide) (Nat.le_of_ble_eq_true rfl) (t_X1_agreement ((gA a (30 + (Int32.toNatClampNeg v1))) (Int32.toNatClampNeg v4)) v5 a e124) rfl ?_
              refine r_ior DX7_make_127 ?_
              refine r_istore (L' := [some (.ref (xa g 0)), some (.int v1), some (.int v2), some (.int v3), some (.int v4), some (.int v5), some (.ref (xa g (30 + (Int32.toNatClampNeg v1)))), some (.int v3), some (.int v4), some (.int ((q95 ||| q109) ||| q124))]) DX7_make_128 (by decide) rfl rfl ?_
              refine r_iload DX7_make_130 rfl ?_
              refine r_aload_n DX7_make_132 (i := 0) rfl rfl ?_
              refine r_get (v := .ref (xa g 1)) DX7_make_133 F_X7_12 e_0 rfl ?_
              obtain ⟨q136, e136, e⟩ := x_bnd e
              refine r_callV1 (As := []) (S := [.int ((q95 ||| q109) ||| q124)]) DX7_make_136 C_X7_142 (ci := 1) rfl rfl e_1 (by decide) (by decide) (Nat.le_of_ble_eq_true rfl) (t_X1_all a e136) rfl ?_
              refine r_icmp_ne DX7_make_139 (tgt := 146) (by decide) (fun c139 => ?_) (fun c139 => ?_)
              · replace e := x_iff c139 e
                refine r_iconst DX7_make_146 (v := 0) (by decide) ?_
                obtain rfl := Option.some.inj e
                exact r_iret DX7_make_147 rfl rfl
              · replace e := x_ift c139 e
                refine r_iconst DX7_make_142 (v := 1) (by decide) ?_
                refine r_goto DX7_make_143 (tgt := 147) (by decide) ?_
                obtain rfl := Option.some.inj e
                exact r_iret DX7_make_147 rfl rfl
            · replace e := x_ift c74 e
              refine r_iload_n DX7_make_77 (i := 2) rfl rfl ?_
              refine r_goto DX7_make_78 (tgt := 83) (by decide) ?_
              refine r_istore (L' := [some (.ref (xa g 0)), some (.int v1), some (.int v2), some (.int v3), some (.int v4), some (.int v5), some (.ref (xa g (30 + (Int32.toNatClampNeg v1)))), some (.int v3), some (.int v2), none]) DX7_make_83 (by decide) rfl rfl ?_
              refine r_aload_n DX7_make_85 (i := 0) rfl rfl ?_
              refine r_get (v := .ref (xa g 1)) DX7_make_86 F_X7_12 e_0 rfl ?_
              refine r_aload DX7_make_89 rfl ?_
              refine r_iload_n DX7_make_91 (i := 2) rfl rfl ?_
              obtain ⟨c92, e⟩ := x_grd e
              refine r_iald (f := (gA a (30 + (Int32.toNatClampNeg v1)))) DX7_make_92 (e_mk (x_in7 c53)) rfl c92 ?_
              refine r_iload DX7_make_93 rfl ?_
              obtain ⟨q95, e95, e⟩ := x_bnd e
              refine r_callV1 (As := [.int ((gA a (30 + (Int32.toNatClampNeg v1))) (Int32.toNatClampNeg v2)), .int v5]) (S := []) DX7_make_95 C_X7_245 (ci := 1) rfl rfl e_1 (by decide) (by decide) (Nat.le_of_ble_eq_true rfl) (t_X1_agreement ((gA a (30 + (Int32.toNatClampNeg v1))) (Int32.toNatClampNeg v2)) v5 a e95) rfl ?_
              refine r_aload_n DX7_make_98 (i := 0) rfl rfl ?_
              refine r_get (v := .ref (xa g 1)) DX7_make_99 F_X7_12 e_0 rfl ?_
              refine r_aload DX7_make_102 rfl ?_
              refine r_iload DX7_make_104 rfl ?_
              obtain ⟨c106, e⟩ := x_grd e
              refine r_iald (f := (gA a (30 + (Int32.toNatClampNeg v1)))) DX7_make_106 (e_mk (x_in7 c53)) rfl c106 ?_
              refine r_iload DX7_make_107 rfl ?_
              obtain ⟨q109, e109, e⟩ := x_bnd e
              refine r_callV1 (As := [.int ((gA a (30 + (Int32.toNatClampNeg v1))) (Int32.toNatClampNeg v3)), .int v5]) (S := [.int q95]) DX7_make_109 C_X7_245 (ci := 1) rfl rfl e_1 (by decide) (by decide) (Nat.le_of_ble_eq_true rfl) (t_X1_agreement ((gA a (30 + (Int32.toNatClampNeg v1))) (Int32.toNatClampNeg v3)) v5 a e109) rfl ?_
              refine r_ior DX7_make_112 ?_
              refine r_aload_n DX7_make_113 (i := 0) rfl rfl ?_
              refine r_get (v := .ref (xa g 1)) DX7_make_114 F_X7_12 e_0 rfl ?_
              refine r_aload DX7_make_117 rfl ?_
              refine r_iload DX7_make_119 rfl ?_
              obtain ⟨c121, e⟩ := x_grd e
              refine r_iald (f := (gA a (30 + (Int32.toNatClampNeg v1)))) DX7_make_121 (e_mk (x_in7 c53)) rfl c121 ?_
              refine r_iload DX7_make_122 rfl ?_
              obtain ⟨q124, e124, e⟩ := x_bnd e
              refine r_callV1 (As := [.int ((gA a (30 + (Int32.toNatClampNeg v1))) (Int32.toNatClampNeg v2)), .int v5]) (S := [.int (q95 ||| q109)]) DX7_make_124 C_X7_245 (ci := 1) rfl rfl e_1 (by decide) (by decide) (Nat.le_of_ble_eq_true rfl) (t_X1_agreement ((gA a (30 + (Int32.toNatClampNeg v1))) (Int32.toNatClampNeg v2)) v5 a e124) rfl ?_
              refine r_ior DX7_make_127 ?_
              refine r_istore (L' := [some (.ref (xa g 0)), some (.int v1), some (.int v2), some (.int v3), some (.int v4), some (.int v5), some (.ref (xa g (30 + (Int32.toNatClampNeg v1)))), some (.int v3), some (.int v2), some (.int ((q95 ||| q109) ||| q124))]) DX7_make_128 (by decide) rfl rfl ?_
              refine r_iload DX7_make_130 rfl ?_
              refine r_aload_n DX7_make_132 (i := 0) rfl rfl ?_
              refine r_get (v := .ref (xa g 1)) DX7_make_133 F_X7_12 e_0 rfl ?_
              obtain ⟨q136, e136, e⟩ := x_bnd e
              refine r_callV1 (As := []) (S := [.int ((q95 ||| q109) ||| q124)]) DX7_make_136 C_X7_142 (ci := 1) rfl rfl e_1 (by decide) (by decide) (Nat.le_of_ble_eq_true rfl) (t_X1_all a e136) rfl ?_
              refine r_icmp_ne DX7_make_139 (tgt := 146) (by decide) (fun c139 => ?_) (fun c139 => ?_)
              · replace e := x_iff c139 e
                refine r_iconst DX7_make_146 (v := 0) (by decide) ?_
                obtain rfl := Option.some.inj e
                exact r_iret DX7_make_147 rfl rfl
              · replace e := x_ift c139 e
                refine r_iconst DX7_make_142 (v := 1) (by decide) ?_
                refine r_goto DX7_make_143 (tgt := 147) (by decide) ?_
                obtain rfl := Option.some.inj e
                exact r_iret DX7_make_147 rfl rfl
          · replace e := x_ift c61 e
            refine r_iload_n DX7_make_64 (i := 2) rfl rfl ?_
            refine r_goto DX7_make_65 (tgt := 69) (by decide) ?_
            refine r_istore (L' := [some (.ref (xa g 0)), some (.int v1), some (.int v2), some (.int v3), some (.int v4), some (.int v5), some (.ref (xa g (30 + (Int32.toNatClampNeg v1)))), some (.int v2), none, none]) DX7_make_69 (by decide) rfl rfl ?_
            refine r_iload DX7_make_71 rfl ?_
            refine r_iconst DX7_make_73 (v := (-1)) (by decide) ?_
            refine r_icmp_ne DX7_make_74 (tgt := 81) (by decide) (fun c74 => ?_) (fun c74 => ?_)
            · replace e := x_iff c74 e
              refine r_iload DX7_make_81 rfl ?_
              refine r_istore (L' := [some (.ref (xa g 0)), some (.int v1), some (.int v2), some (.int v3), some (.int v4), some (.int v5), some (.ref (xa g (30 + (Int32.toNatClampNeg v1)))), some (.int v2), some (.int v4), none]) DX7_make_83 (by decide) rfl rfl ?_
              refine r_aload_n DX7_make_85 (i := 0) rfl rfl ?_
              refine r_get (v := .ref (xa g 1)) DX7_make_86 F_X7_12 e_0 rfl ?_
              refine r_aload DX7_make_89 rfl ?_
              refine r_iload_n DX7_make_91 (i := 2) rfl rfl ?_
              obtain ⟨c92, e⟩ := x_grd e
              refine r_iald (f := (gA a (30 + (Int32.toNatClampNeg v1)))) DX7_make_92 (e_mk (x_in7 c53)) rfl c92 ?_
              refine r_iload DX7_make_93 rfl ?_
              obtain ⟨q95, e95, e⟩ := x_bnd e
              refine r_callV1 (As := [.int ((gA a (30 + (Int32.toNatClampNeg v1))) (Int32.toNatClampNeg v2)), .int v5]) (S := []) DX7_make_95 C_X7_245 (ci := 1) rfl rfl e_1 (by decide) (by decide) (Nat.le_of_ble_eq_true rfl) (t_X1_agreement ((gA a (30 + (Int32.toNatClampNeg v1))) (Int32.toNatClampNeg v2)) v5 a e95) rfl ?_
              refine r_aload_n DX7_make_98 (i := 0) rfl rfl ?_
              refine r_get (v := .ref (xa g 1)) DX7_make_99 F_X7_12 e_0 rfl ?_
              refine r_aload DX7_make_102 rfl ?_
              refine r_iload DX7_make_104 rfl ?_
              obtain ⟨c106, e⟩ := x_grd e
              refine r_iald (f := (gA a (30 + (Int32.toNatClampNeg v1)))) DX7_make_106 (e_mk (x_in7 c53)) rfl c106 ?_
              refine r_iload DX7_make_107 rfl ?_
              obtain ⟨q109, e109, e⟩ := x_bnd e
              refine r_callV1 (As := [.int ((gA a (30 + (Int32.toNatClampNeg v1))) (Int32.toNatClampNeg v2)), .int v5]) (S := [.int q95]) DX7_make_109 C_X7_245 (ci := 1) rfl rfl e_1 (by decide) (by decide) (Nat.le_of_ble_eq_true rfl) (t_X1_agreement ((gA a (30 + (Int32.toNatClampNeg v1))) (Int32.toNatClampNeg v2)) v5 a e109) rfl ?_
              refine r_ior DX7_make_112 ?_
              refine r_aload_n DX7_make_113 (i := 0) rfl rfl ?_
              refine r_get (v := .ref (xa g 1)) DX7_make_114 F_X7_12 e_0 rfl ?_
              refine r_aload DX7_make_117 rfl ?_
              refine r_iload DX7_make_119 rfl ?_
              obtain ⟨c121, e⟩ := x_grd e
              refine r_iald (f := (gA a (30 + (Int32.toNatClampNeg v1)))) DX7_make_121 (e_mk (x_in7 c53)) rfl c121 ?_
              refine r_iload DX7_make_122 rfl ?_
              obtain ⟨q124, e124, e⟩ := x_bnd e
              refine r_callV1 (As := [.int ((gA a (30 + (Int32.toNatClampNeg v1))) (Int32.toNatClampNeg v4)), .int v5]) (S := [.int (q95 ||| q109)]) DX7_make_124 C_X7_245 (ci := 1) rfl rfl e_1 (by decide) (by decide) (Nat.le_of_ble_eq_true rfl) (t_X1_agreement ((gA a (30 + (Int32.toNatClampNeg v1))) (Int32.toNatClampNeg v4)) v5 a e124) rfl ?_
              refine r_ior DX7_make_127 ?_
              refine r_istore (L' := [some (.ref (xa g 0)), some (.int v1), some (.int v2), some (.int v3), some (.int v4), some (.int v5), some (.ref (xa g (30 + (Int32.toNatClampNeg v1)))), some (.int v2), some (.int v4), some (.int ((q95 ||| q109) ||| q124))]) DX7_make_128 (by decide) rfl rfl ?_
              refine r_iload DX7_make_130 rfl ?_
              refine r_aload_n DX7_make_132 (i := 0) rfl rfl ?_
              refine r_get (v := .ref (xa g 1)) DX7_make_133 F_X7_12 e_0 rfl ?_
              obtain ⟨q136, e136, e⟩ := x_bnd e
              refine r_callV1 (As := []) (S := [.int ((q95 ||| q109) ||| q124)]) DX7_make_136 C_X7_142 (ci := 1) rfl rfl e_1 (by decide) (by decide) (Nat.le_of_ble_eq_true rfl) (t_X1_all a e136) rfl ?_
              refine r_icmp_ne DX7_make_139 (tgt := 146) (by decide) (fun c139 => ?_) (fun c139 => ?_)
              · replace e := x_iff c139 e
                refine r_iconst DX7_make_146 (v := 0) (by decide) ?_
                obtain rfl := Option.some.inj e
                exact r_iret DX7_make_147 rfl rfl
              · replace e := x_ift c139 e
                refine r_iconst DX7_make_142 (v := 1) (by decide) ?_
                refine r_goto DX7_make_143 (tgt := 147) (by decide) ?_
                obtain rfl := Option.some.inj e
                exact r_iret DX7_make_147 rfl rfl
            · replace e := x_ift c74 e
              refine r_iload_n DX7_make_77 (i := 2) rfl rfl ?_
              refine r_goto DX7_make_78 (tgt := 83) (by decide) ?_
              refine r_istore (L' := [some (.ref (xa g 0)), some (.int v1), some (.int v2), some (.int v3), some (.int v4), some (.int v5), some (.ref (xa g (30 + (Int32.toNatClampNeg v1)))), some (.int v2), some (.int v2), none]) DX7_make_83 (by decide) rfl rfl ?_
              refine r_aload_n DX7_make_85 (i := 0) rfl rfl ?_
              refine r_get (v := .ref (xa g 1)) DX7_make_86 F_X7_12 e_0 rfl ?_
              refine r_aload DX7_make_89 rfl ?_
              refine r_iload_n DX7_make_91 (i := 2) rfl rfl ?_
              obtain ⟨c92, e⟩ := x_grd e
              refine r_iald (f := (gA a (30 + (Int32.toNatClampNeg v1)))) DX7_make_92 (e_mk (x_in7 c53)) rfl c92 ?_
              refine r_iload DX7_make_93 rfl ?_
              obtain ⟨q95, e95, e⟩ := x_bnd e
              refine r_callV1 (As := [.int ((gA a (30 + (Int32.toNatClampNeg v1))) (Int32.toNatClampNeg v2)), .int v5]) (S := []) DX7_make_95 C_X7_245 (ci := 1) rfl rfl e_1 (by decide) (by decide) (Nat.le_of_ble_eq_true rfl) (t_X1_agreement ((gA a (30 + (Int32.toNatClampNeg v1))) (Int32.toNatClampNeg v2)) v5 a e95) rfl ?_
              refine r_aload_n DX7_make_98 (i := 0) rfl rfl ?_
              refine r_get (v := .ref (xa g 1)) DX7_make_99 F_X7_12 e_0 rfl ?_
              refine r_aload DX7_make_102 rfl ?_
              refine r_iload DX7_make_104 rfl ?_
              obtain ⟨c106, e⟩ := x_grd e
              refine r_iald (f := (gA a (30 + (Int32.toNatClampNeg v1)))) DX7_make_106 (e_mk (x_in7 c53)) rfl c106 ?_
              refine r_iload DX7_make_107 rfl ?_
              obtain ⟨q109, e109, e⟩ := x_bnd e
              refine r_callV1 (As := [.int ((gA a (30 + (Int32.toNatClampNeg v1))) (Int32.toNatClampNeg v2)), .int v5]) (S := [.int q95]) DX7_make_109 C_X7_245 (ci := 1) rfl rfl e_1 (by decide) (by decide) (Nat.le_of_ble_eq_true rfl) (t_X1_agreement ((gA a (30 + (Int32.toNatClampNeg v1))) (Int32.toNatClampNeg v2)) v5 a e109) rfl ?_
              refine r_ior DX7_make_112 ?_
              refine r_aload_n DX7_make_113 (i := 0) rfl rfl ?_
              refine r_get (v := .ref (xa g 1)) DX7_make_114 F_X7_12 e_0 rfl ?_
              refine r_aload DX7_make_117 rfl ?_
              refine r_iload DX7_make_119 rfl ?_
              obtain ⟨c121, e⟩ := x_grd e
              refine r_iald (f := (gA a (30 + (Int32.toNatClampNeg v1)))) DX7_make_121 (e_mk (x_in7 c53)) rfl c121 ?_
              refine r_iload DX7_make_122 rfl ?_
              obtain ⟨q124, e124, e⟩ := x_bnd e
              refine r_callV1 (As := [.int ((gA a (30 + (Int32.toNatClampNeg v1))) (Int32.toNatClampNeg v2)), .int v5]) (S := [.int (q95 ||| q109)]) DX7_make_124 C_X7_245 (ci := 1) rfl rfl e_1 (by decide) (by decide) (Nat.le_of_ble_eq_true rfl) (t_X1_agreement ((gA a (30 + (Int32.toNatClampNeg v1))) (Int32.toNatClampNeg v2)) v5 a e124) rfl ?_
              refine r_ior DX7_make_127 ?_
              refine r_istore (L' := [some (.ref (xa g 0)), some (.int v1), some (.int v2), some (.int v3), some (.int v4), some (.int v5), some (.ref (xa g (30 + (Int32.toNatClampNeg v1)))), some (.int v2), some (.int v2), some (.int ((q95 ||| q109) ||| q124))]) DX7_make_128 (by decide) rfl rfl ?_
              refine r_iload DX7_make_130 rfl ?_
              refine r_aload_n DX7_make_132 (i := 0) rfl rfl ?_
              refine r_get (v := .ref (xa g 1)) DX7_make_133 F_X7_12 e_0 rfl ?_
              obtain ⟨q136, e136, e⟩ := x_bnd e
              refine r_callV1 (As := []) (S := [.int ((q95 ||| q109) ||| q124)]) DX7_make_136 C_X7_142 (ci := 1) rfl rfl e_1 (by decide) (by decide) (Nat.le_of_ble_eq_true rfl) (t_X1_all a e136) rfl ?_
              refine r_icmp_ne DX7_make_139 (tgt := 146) (by decide) (fun c139 => ?_) (fun c139 => ?_)
              · replace e := x_iff c139 e
                refine r_iconst DX7_make_146 (v := 0) (by decide) ?_
                obtain rfl := Option.some.inj e
                exact r_iret DX7_make_147 rfl rfl
              · replace e := x_ift c139 e
                refine r_iconst DX7_make_142 (v := 1) (by decide) ?_
                refine r_goto DX7_make_143 (tgt := 147) (by decide) ?_
                obtain rfl := Option.some.inj e
                exact r_iret DX7_make_147 rfl rfl
        · replace e := x_ift c41 e
          refine r_sipush DX7_make_44 (v := (-1002)) (by decide) ?_
          obtain rfl := Option.some.inj e
          exact r_iret DX7_make_47 rfl rfl
      · replace e := x_ift c25 e
        refine r_sipush DX7_make_28 (v := (-1001)) (by decide) ?_
        obtain rfl := Option.some.inj e
        exact r_iret DX7_make_31 rfl rfl

set_option maxRecDepth 100000 in
set_option maxHeartbeats 4000000 in
theorem t_X7_mark {l : Launch} {g : xG} {b : xT} (v1 : Int32) (v2 : Int32) (a : xT)  {r : Int32} (e : f_X7_mark v1 v2 a = some r) : Ev l g 3 yX7_mark M_X7_mark [.ref (xa g 0), .int v1, .int v2] (a, b) (some (.int r), (a, b)) := by
  unfold f_X7_mark at e
  refine Ev.of 0 (L0 := [some (.ref (xa g 0)), some (.int v1), some (.int v2)]) (by decide) rfl (Nat.le_of_ble_eq_true rfl) rfl ?_
  refine r_iload_n DX7_mark_0 (i := 1) rfl rfl ?_
  obtain ⟨q1, e1, e⟩ := x_bnd e
  refine r_callS1 (As := [.int v1]) (S := []) DX7_mark_1 C_X7_111 (by decide) (by decide) (Nat.le_of_ble_eq_true rfl) (t_X7_isList v1 e1) rfl ?_
  refine r_if_ne DX7_mark_4 (tgt := 11) (by decide) (fun c4 => ?_) (fun c4 => ?_)
  · replace e := x_iff c4 e
    refine r_iload_n DX7_mark_11 (i := 2) rfl rfl ?_
    refine r_iconst DX7_mark_12 (v := (-1)) (by decide) ?_
    refine r_icmp_ne DX7_mark_13 (tgt := 26) (by decide) (fun c13 => ?_) (fun c13 => ?_)
    · replace e := x_iff c13 e
      refine r_aload_n DX7_mark_26 (i := 0) rfl rfl ?_
      refine r_iload_n DX7_mark_27 (i := 1) rfl rfl ?_
      refine r_iload_n DX7_mark_28 (i := 2) rfl rfl ?_
      obtain ⟨q29, e29, e⟩ := x_bnd e
      refine r_callV1 (As := [.int v1, .int v2]) (S := []) DX7_mark_29 C_X7_123 (ci := 7) rfl rfl e_0 (by decide) (by decide) (Nat.le_of_ble_eq_true rfl) (t_X7_isMark v1 v2 a e29) rfl ?_
      refine r_if_eq DX7_mark_32 (tgt := 49) (by decide) (fun c32 => ?_) (fun c32 => ?_)
      · replace e := x_ift c32 e
        refine r_sipush DX7_mark_49 (v := (-1001)) (by decide) ?_
        obtain rfl := Option.some.inj e
        exact r_iret DX7_mark_52 rfl rfl
      · replace e := x_iff c32 e
        refine r_aload_n DX7_mark_35 (i := 0) rfl rfl ?_
        refine r_get (v := .ref (xa g 2)) DX7_mark_36 F_X7_18 e_0 rfl ?_
        refine r_iload_n DX7_mark_39 (i := 1) rfl rfl ?_
        obtain ⟨c40, e⟩ := x_grd e
        refine r_aald (b := (xa g (23 + (Int32.toNatClampNeg v1)))) DX7_mark_40 e_2 rfl c40 rfl ?_
        refine r_get (v := .ref (xa g (30 + (Int32.toNatClampNeg v1)))) DX7_mark_41 F_X7_130 (e_ml (x_in7 c40)) rfl ?_
        refine r_iload_n DX7_mark_44 (i := 2) rfl rfl ?_
        obtain ⟨c45, e⟩ := x_grd e
        refine r_iald (f := (gA a (30 + (Int32.toNatClampNeg v1)))) DX7_mark_45 (e_mk (x_in7 c40)) rfl c45 ?_
        refine r_goto DX7_mark_46 (tgt := 52) (by decide) ?_
        obtain rfl := Option.some.inj e
        exact r_iret DX7_mark_52 rfl rfl
    · replace e := x_ift c13 e
      refine r_aload_n DX7_mark_16 (i := 0) rfl rfl ?_
      refine r_get (v := .ref (xa g 2)) DX7_mark_17 F_X7_18 e_0 rfl ?_
      refine r_iload_n DX7_mark_20 (i := 1) rfl rfl ?_
      obtain ⟨c21, e⟩ := x_grd e
      refine r_aald (b := (xa g (23 + (Int32.toNatClampNeg v1)))) DX7_mark_21 e_2 rfl c21 rfl ?_
      refine r_get (v := .int (gI a (23 + (Int32.toNatClampNeg v1)))) DX7_mark_22 F_X7_120 (e_ml (x_in7 c21)) rfl ?_
      obtain rfl := Option.some.inj e
      exact r_iret DX7_mark_25 rfl rfl
  · replace e := x_ift c4 e
    refine r_sipush DX7_mark_7 (v := (-1001)) (by decide) ?_
    obtain rfl := Option.some.inj e
    exact r_iret DX7_mark_10 rfl rfl

set_option maxRecDepth 100000 in
set_option maxHeartbeats 4000000 in
theorem t_X7_may {l : Launch} {g : xG} {b : xT} (N : Nat) (v1 : Int32) (v2 : Int32) (v3 : Int32) (a : xT)  {r : Int32} (e : f_X7_may N v1 v2 v3 a = some r) : Ev l g 3 yX7_may M_X7_may [.ref (xa g 0), .int v1, .int v2, .int v3] (a, b) (some (.int r), (a, b)) := by
  unfold f_X7_may at e
  refine Ev.of 0 (L0 := [some (.ref (xa g 0)), some (.int v1), some (.int v2), some (.int v3)]) (by decide) rfl (Nat.le_of_ble_eq_true rfl) rfl ?_
  refine r_aload_n DX7_may_0 (i := 0) rfl rfl ?_
  refine r_get (v := .ref (xa g 1)) DX7_may_1 F_X7_12 e_0 rfl ?_
  refine r_iload_n DX7_may_4 (i := 1) rfl rfl ?_
  obtain ⟨q5, e5, e⟩ := x_bnd e
  refine r_callV1 (As := [.int v1]) (S := []) DX7_may_5 C_X7_86 (ci := 1) rfl rfl e_1 (by decide) (by decide) (Nat.le_of_ble_eq_true rfl) (t_X1_isSet v1 a e5) rfl ?_
  refine r_if_eq DX7_may_8 (tgt := 23) (by decide) (fun c8 => ?_) (fun c8 => ?_)
  · replace e := x_ift c8 e
    refine r_sipush DX7_may_23 (v := (-1002)) (by decide) ?_
    obtain rfl := Option.some.inj e
    exact r_iret DX7_may_26 rfl rfl
  · replace e := x_iff c8 e
    refine r_aload_n DX7_may_11 (i := 0) rfl rfl ?_
    refine r_get (v := .ref (xa g 1)) DX7_may_12 F_X7_12 e_0 rfl ?_
    refine r_iload_n DX7_may_15 (i := 2) rfl rfl ?_
    refine r_iload_n DX7_may_16 (i := 3) rfl rfl ?_
    obtain ⟨q17, e17, e⟩ := x_bnd e
    refine r_callV1 (As := [.int v2, .int v3]) (S := []) DX7_may_17 C_X7_94 (ci := 1) rfl rfl e_1 (by decide) (by decide) (Nat.le_of_ble_eq_true rfl) (t_X1_isSeen v2 v3 a e17) rfl ?_
    refine r_if_ne DX7_may_20 (tgt := 27) (by decide) (fun c20 => ?_) (fun c20 => ?_)
    · replace e := x_iff c20 e
      refine r_aload_n DX7_may_27 (i := 0) rfl rfl ?_
      refine r_get (v := .ref (xa g 1)) DX7_may_28 F_X7_12 e_0 rfl ?_
      refine r_iload_n DX7_may_31 (i := 1) rfl rfl ?_
      refine r_iload_n DX7_may_32 (i := 2) rfl rfl ?_
      refine r_iload_n DX7_may_33 (i := 3) rfl rfl ?_
      obtain ⟨q34, e34, e⟩ := x_bnd e
      refine r_callV1 (As := [.int v1, .int v2, .int v3]) (S := []) DX7_may_34 C_X7_98 (ci := 1) rfl rfl e_1 (by decide) (by decide) (Nat.le_of_ble_eq_true rfl) (t_X1_canShow N v1 v2 v3 a e34) rfl ?_
      refine r_if_eq DX7_may_37 (tgt := 44) (by decide) (fun c37 => ?_) (fun c37 => ?_)
      · replace e := x_ift c37 e
        refine r_iconst DX7_may_44 (v := 0) (by decide) ?_
        obtain rfl := Option.some.inj e
        exact r_iret DX7_may_45 rfl rfl
      · replace e := x_iff c37 e
        refine r_iconst DX7_may_40 (v := 1) (by decide) ?_
        refine r_goto DX7_may_41 (tgt := 45) (by decide) ?_
        obtain rfl := Option.some.inj e
        exact r_iret DX7_may_45 rfl rfl
    · replace e := x_ift c20 e
      refine r_sipush DX7_may_23 (v := (-1002)) (by decide) ?_
      obtain rfl := Option.some.inj e
      exact r_iret DX7_may_26 rfl rfl

set_option maxRecDepth 100000 in
set_option maxHeartbeats 4000000 in
theorem t_X7_most {l : Launch} {g : xG} {b : xT} (N : Nat) (v1 : Int32) (v2 : Int32) (a : xT)  {r : (Int32 × xT)} (e : f_X7_most N v1 v2 a = some r) : Ev l g 44 yX7_most M_X7_most [.ref (xa g 0), .int v1, .int v2] (a, b) (some (.int r.1), (r.2, b)) := by
  unfold f_X7_most at e
  refine Ev.of 0 (L0 := [some (.ref (xa g 0)), some (.int v1), some (.int v2)]) (by decide) rfl (Nat.le_of_ble_eq_true rfl) rfl ?_
  refine r_iload_n DX7_most_0 (i := 1) rfl rfl ?_
  refine r_iconst DX7_most_1 (v := (-1)) (by decide) ?_
  refine r_iconst DX7_most_2 (v := 5) (by decide) ?_
  obtain ⟨q3, e3, e⟩ := x_bnd e
  refine r_callS1 (As := [.int v1, .int (-1), .int 5]) (S := []) DX7_most_3 C_X7_73 (by decide) (by decide) (Nat.le_of_ble_eq_true rfl) (t_X7_within v1 (-1) 5 e3) rfl ?_
  refine r_if_ne DX7_most_6 (tgt := 13) (by decide) (fun c6 => ?_) (fun c6 => ?_)
  · replace e := x_iff c6 e
    refine r_aload_n DX7_most_13 (i := 0) rfl rfl ?_
    refine r_get (v := .ref (xa g 1)) DX7_most_14 F_X7_12 e_0 rfl ?_
    refine r_get (v := .int (gI a 0)) DX7_most_17 F_X7_62 e_1 rfl ?_
    refine r_iconst DX7_most_20 (v := 5) (by decide) ?_
    refine r_icmp_le DX7_most_21 (tgt := 28) (by decide) (fun c21 => ?_) (fun c21 => ?_)
    · replace e := x_ift c21 e
      refine r_aload_n DX7_most_28 (i := 0) rfl rfl ?_
      refine r_get (v := .ref (xa g 15)) DX7_most_29 F_X7_51 e_0 rfl ?_
      refine r_aload_n DX7_most_32 (i := 0) rfl rfl ?_
      refine r_get (v := .ref (xa g 1)) DX7_most_33 F_X7_12 e_0 rfl ?_
      refine r_iload_n DX7_most_36 (i := 1) rfl rfl ?_
      obtain ⟨q37, e37, e⟩ := x_bnd e
      refine r_callV0 (As := [.ref (xa g 1), .int v1]) (S := []) DX7_most_37 C_X7_146 (ci := 2) rfl rfl e_15 (by decide) (by decide) (Nat.le_of_ble_eq_true rfl) (t_X2_seek N v1 a e37) rfl ?_
      refine r_iload_n DX7_most_40 (i := 2) rfl rfl ?_
      refine r_iconst DX7_most_41 (v := (-1)) (by decide) ?_
      refine r_icmp_ne DX7_most_42 (tgt := 53) (by decide) (fun c42 => ?_) (fun c42 => ?_)
      · replace e := x_iff c42 e
        refine r_iload_n DX7_most_53 (i := 2) rfl rfl ?_
        refine r_iconst DX7_most_54 (v := 0) (by decide) ?_
        refine r_aload_n DX7_most_55 (i := 0) rfl rfl ?_
        refine r_get (v := .ref (xa g 15)) DX7_most_56 F_X7_51 e_0 rfl ?_
        refine r_get (v := .int (gI q37 14)) DX7_most_59 F_X7_150 e_15 rfl ?_
        refine r_iconst DX7_most_62 (v := 1) (by decide) ?_
        refine r_isub DX7_most_63 ?_
        obtain ⟨q64, e64, e⟩ := x_bnd e
        refine r_callS1 (As := [.int v2, .int 0, .int ((gI q37 14) - 1)]) (S := []) DX7_most_64 C_X7_73 (by decide) (by decide) (Nat.le_of_ble_eq_true rfl) (t_X7_within v2 0 ((gI q37 14) - 1) e64) rfl ?_
        refine r_if_eq DX7_most_67 (tgt := 82) (by decide) (fun c67 => ?_) (fun c67 => ?_)
        · replace e := x_ift c67 e
          refine r_iconst DX7_most_82 (v := (-1)) (by decide) ?_
          obtain rfl := Option.some.inj e
          exact r_iret DX7_most_83 rfl rfl
        · replace e := x_iff c67 e
          refine r_aload_n DX7_most_70 (i := 0) rfl rfl ?_
          refine r_get (v := .ref (xa g 15)) DX7_most_71 F_X7_51 e_0 rfl ?_
          refine r_get (v := .ref (xa g 16)) DX7_most_74 F_X7_151 e_15 rfl ?_
          refine r_iload_n DX7_most_77 (i := 2) rfl rfl ?_
          obtain ⟨c78, e⟩ := x_grd e
          refine r_iald (f := (gA q37 16)) DX7_most_78 e_16 rfl c78 ?_
          refine r_goto DX7_most_79 (tgt := 83) (by decide) ?_
          obtain rfl := Option.some.inj e
          exact r_iret DX7_most_83 rfl rfl
      · replace e := x_ift c42 e
        refine r_aload_n DX7_most_45 (i := 0) rfl rfl ?_
        refine r_get (v := .ref (xa g 15)) DX7_most_46 F_X7_51 e_0 rfl ?_
        refine r_get (v := .int (gI q37 14)) DX7_most_49 F_X7_150 e_15 rfl ?_
        obtain rfl := Option.some.inj e
        exact r_iret DX7_most_52 rfl rfl
    · replace e := x_iff c21 e
      refine r_sipush DX7_most_24 (v := (-1005)) (by decide) ?_
      obtain rfl := Option.some.inj e
      exact r_iret DX7_most_27 rfl rfl
  · replace e := x_ift c6 e
    refine r_sipush DX7_most_9 (v := (-1002)) (by decide) ?_
    obtain rfl := Option.some.inj e
    exact r_iret DX7_most_12 rfl rfl

set_option maxRecDepth 100000 in
set_option maxHeartbeats 4000000 in
theorem lp_X7_owner_L41 {l : Launch} {g : xG} {b : xT} {R : Option Value × xS} (N : Nat) (v2 : Int32) (v3 : Int32) (v4 : Int32) (k5 : Nat) (a : xT) (hk5 : k5 < 7): ∀ (n : Nat) (v6 : Int32) (v7 : Int32) (r : ((Int32) ⊕ (Int32))), f_X7_owner_L41 N v2 v3 v4 k5 a n v6 v7 = some r → (∀ z, r = (.inl z) → Rx l g 3 M_X7_owner 90 [none, none, none, none, some (.int v4), none, some (.int z), none] [] (a, b) R) → (∀ z, r = (.inr (z)) → Rx l g 3 M_X7_owner 78 [none, none, none, none, none, none, none, some (.int z)] [] (a, b) R) → Rx l g 3 M_X7_owner 41 [some (.ref (xa g 0)), none, some (.int v2), some (.int v3), some (.int v4), some (.ref (xa g (23 + k5))), some (.int v6), some (.int v7)] [] (a, b) R := by
  intro n
  induction n with
  | zero => intro v6_ v7_ r_ e; cases e
  | succ n ih =>
    intro v6 v7 r e K0 K1
    rw [f_X7_owner_L41] at e
    refine r_iload DX7_owner_41 rfl ?_
    refine r_aload DX7_owner_43 rfl ?_
    refine r_get (v := .int (gI a (23 + k5))) DX7_owner_45 F_X7_120 (e_ml hk5) rfl ?_
    refine r_icmp_ge DX7_owner_48 (tgt := 90) (by decide) (fun c48 => ?_) (fun c48 => ?_)
    · replace e := x_ift c48 e
      obtain rfl := Option.some.inj e
      refine r_mask (L' := [none, none, none, none, some (.int v4), none, some (.int v6), none]) [false, false, false, false, true, false, true, false] rfl ?_
      exact K0 _ rfl
    · replace e := x_iff c48 e
      refine r_aload_n DX7_owner_51 (i := 0) rfl rfl ?_
      refine r_get (v := .ref (xa g 1)) DX7_owner_52 F_X7_12 e_0 rfl ?_
      refine r_aload DX7_owner_55 rfl ?_
      refine r_get (v := .ref (xa g (30 + k5))) DX7_owner_57 F_X7_130 (e_ml hk5) rfl ?_
      refine r_iload DX7_owner_60 rfl ?_
      obtain ⟨c62, e⟩ := x_grd e
      refine r_iald (f := (gA a (30 + k5))) DX7_owner_62 (e_mk hk5) rfl c62 ?_
      refine r_iload_n DX7_owner_63 (i := 2) rfl rfl ?_
      refine r_iload_n DX7_owner_64 (i := 3) rfl rfl ?_
      obtain ⟨q65, e65, e⟩ := x_bnd e
      refine r_callV1 (As := [.int ((gA a (30 + k5)) (Int32.toNatClampNeg v7)), .int v2, .int v3]) (S := []) DX7_owner_65 C_X7_98 (ci := 1) rfl rfl e_1 (by decide) (by decide) (Nat.le_of_ble_eq_true rfl) (t_X1_canShow N ((gA a (30 + k5)) (Int32.toNatClampNeg v7)) v2 v3 a e65) rfl ?_
      refine r_if_eq DX7_owner_68 (tgt := 84) (by decide) (fun c68 => ?_) (fun c68 => ?_)
      · replace e := x_ift c68 e
        refine r_iinc (L' := [some (.ref (xa g 0)), none, some (.int v2), some (.int v3), some (.int v4), some (.ref (xa g (23 + k5))), some (.int v6), some (.int (v7 + 1))]) DX7_owner_84 (x := v7) (v := (v7 + 1)) rfl rfl (by decide) rfl rfl ?_
        refine r_goto DX7_owner_87 (tgt := 41) (by decide) ?_
        exact ih _ _ _ e K0 K1
      · replace e := x_iff c68 e
        refine r_iload DX7_owner_71 rfl ?_
        refine r_iload DX7_owner_73 rfl ?_
        refine r_icmp_ne DX7_owner_75 (tgt := 81) (by decide) (fun c75 => ?_) (fun c75 => ?_)
        · replace e := x_iff c75 e
          refine r_iinc (L' := [some (.ref (xa g 0)), none, some (.int v2), some (.int v3), some (.int v4), some (.ref (xa g (23 + k5))), some (.int (v6 + 1)), some (.int v7)]) DX7_owner_81 (x := v6) (v := (v6 + 1)) rfl rfl (by decide) rfl rfl ?_
          refine r_iinc (L' := [some (.ref (xa g 0)), none, some (.int v2), some (.int v3), some (.int v4), some (.ref (xa g (23 + k5))), some (.int (v6 + 1)), some (.int (v7 + 1))]) DX7_owner_84 (x := v7) (v := (v7 + 1)) rfl rfl (by decide) rfl rfl ?_
          refine r_goto DX7_owner_87 (tgt := 41) (by decide) ?_
          exact ih _ _ _ e K0 K1
        · replace e := x_ift c75 e
          obtain rfl := Option.some.inj e
          refine r_mask (L' := [none, none, none, none, none, none, none, some (.int v7)]) [false, false, false, false, false, false, false, true] rfl ?_
          exact K1 _ rfl

set_option maxRecDepth 100000 in
set_option maxHeartbeats 4000000 in
theorem t_X7_owner {l : Launch} {g : xG} {b : xT} (N : Nat) (v1 : Int32) (v2 : Int32) (v3 : Int32) (v4 : Int32) (a : xT)  {r : Int32} (e : f_X7_owner N v1 v2 v3 v4 a = some r) : Ev l g 3 yX7_owner M_X7_owner [.ref (xa g 0), .int v1, .int v2, .int v3, .int v4] (a, b) (some (.int r), (a, b)) := by
  unfold f_X7_owner at e
  refine Ev.of 3 (L0 := [some (.ref (xa g 0)), some (.int v1), some (.int v2), some (.int v3), some (.int v4), none, none, none]) (by decide) rfl (Nat.le_of_ble_eq_true rfl) rfl ?_
  refine r_iload_n DX7_owner_0 (i := 1) rfl rfl ?_
  obtain ⟨q1, e1, e⟩ := x_bnd e
  refine r_callS1 (As := [.int v1]) (S := []) DX7_owner_1 C_X7_111 (by decide) (by decide) (Nat.le_of_ble_eq_true rfl) (t_X7_isList v1 e1) rfl ?_
  refine r_if_ne DX7_owner_4 (tgt := 11) (by decide) (fun c4 => ?_) (fun c4 => ?_)
  · replace e := x_iff c4 e
    refine r_aload_n DX7_owner_11 (i := 0) rfl rfl ?_
    refine r_get (v := .ref (xa g 1)) DX7_owner_12 F_X7_12 e_0 rfl ?_
    refine r_iload_n DX7_owner_15 (i := 2) rfl rfl ?_
    refine r_iload_n DX7_owner_16 (i := 3) rfl rfl ?_
    obtain ⟨q17, e17, e⟩ := x_bnd e
    refine r_callV1 (As := [.int v2, .int v3]) (S := []) DX7_owner_17 C_X7_94 (ci := 1) rfl rfl e_1 (by decide) (by decide) (Nat.le_of_ble_eq_true rfl) (t_X1_isSeen v2 v3 a e17) rfl ?_
    refine r_if_ne DX7_owner_20 (tgt := 27) (by decide) (fun c20 => ?_) (fun c20 => ?_)
    · replace e := x_iff c20 e
      refine r_aload_n DX7_owner_27 (i := 0) rfl rfl ?_
      refine r_get (v := .ref (xa g 2)) DX7_owner_28 F_X7_18 e_0 rfl ?_
      refine r_iload_n DX7_owner_31 (i := 1) rfl rfl ?_
      obtain ⟨c32, e⟩ := x_grd e
      refine r_aald (b := (xa g (23 + (Int32.toNatClampNeg v1)))) DX7_owner_32 e_2 rfl c32 rfl ?_
      refine r_astore (L' := [some (.ref (xa g 0)), some (.int v1), some (.int v2), some (.int v3), some (.int v4), some (.ref (xa g (23 + (Int32.toNatClampNeg v1)))), none, none]) DX7_owner_33 (by decide) rfl rfl ?_
      refine r_iconst DX7_owner_35 (v := 0) (by decide) ?_
      refine r_istore (L' := [some (.ref (xa g 0)), some (.int v1), some (.int v2), some (.int v3), some (.int v4), some (.ref (xa g (23 + (Int32.toNatClampNeg v1)))), some (.int 0), none]) DX7_owner_36 (by decide) rfl rfl ?_
      refine r_iconst DX7_owner_38 (v := 0) (by decide) ?_
      refine r_istore (L' := [some (.ref (xa g 0)), some (.int v1), some (.int v2), some (.int v3), some (.int v4), some (.ref (xa g (23 + (Int32.toNatClampNeg v1)))), some (.int 0), some (.int 0)]) DX7_owner_39 (by decide) rfl rfl ?_
      obtain ⟨q41, e41, e⟩ := x_bnd e
      refine r_mask (L' := [some (.ref (xa g 0)), none, some (.int v2), some (.int v3), some (.int v4), some (.ref (xa g (23 + (Int32.toNatClampNeg v1)))), some (.int 0), some (.int 0)]) [true, false, true, true, true, true, true, true] rfl ?_
      refine lp_X7_owner_L41 N v2 v3 v4 (Int32.toNatClampNeg v1) a (x_in7 c32) N 0 0 q41 e41 (fun z41_90 w41 => ?_) (fun z41_78 w41 => ?_)
      · subst w41
        dsimp only [Sum.elim] at e
        refine r_iload DX7_owner_90 rfl ?_
        refine r_iconst DX7_owner_92 (v := (-1)) (by decide) ?_
        refine r_icmp_ne DX7_owner_93 (tgt := 101) (by decide) (fun c93 => ?_) (fun c93 => ?_)
        · replace e := x_iff c93 e
          refine r_iconst DX7_owner_101 (v := (-1)) (by decide) ?_
          obtain rfl := Option.some.inj e
          exact r_iret DX7_owner_102 rfl rfl
        · replace e := x_ift c93 e
          refine r_iload DX7_owner_96 rfl ?_
          refine r_goto DX7_owner_98 (tgt := 102) (by decide) ?_
          obtain rfl := Option.some.inj e
          exact r_iret DX7_owner_102 rfl rfl
      · subst w41
        dsimp only [Sum.elim] at e
        refine r_iload DX7_owner_78 rfl ?_
        obtain rfl := Option.some.inj e
        exact r_iret DX7_owner_80 rfl rfl
    · replace e := x_ift c20 e
      refine r_sipush DX7_owner_23 (v := (-1002)) (by decide) ?_
      obtain rfl := Option.some.inj e
      exact r_iret DX7_owner_26 rfl rfl
  · replace e := x_ift c4 e
    refine r_sipush DX7_owner_7 (v := (-1001)) (by decide) ?_
    obtain rfl := Option.some.inj e
    exact r_iret DX7_owner_10 rfl rfl

set_option maxRecDepth 100000 in
set_option maxHeartbeats 4000000 in
theorem lp_X7_places_L25 {l : Launch} {g : xG} {b : xT} {R : Option Value × xS} (N : Nat) (v1 : Int32) : ∀ (n : Nat) (v2 : Int32) (a : xT) (r : (xT)), f_X7_places_L25 N v1 n v2 a = some r → Rx l g 2 M_X7_places 46 [some (.ref (xa g 0)), some (.int v1), none] [] (r, b) R → Rx l g 2 M_X7_places 25 [some (.ref (xa g 0)), some (.int v1), some (.int v2)] [] (a, b) R := by
  intro n
  induction n with
  | zero => intro v2_ s_ r_ e; cases e
  | succ n ih =>
    intro v2 a r e K0
    rw [f_X7_places_L25] at e
    refine r_iload_n DX7_places_25 (i := 2) rfl rfl ?_
    refine r_bipush DX7_places_26 (v := 6) (by decide) ?_
    refine r_icmp_ge DX7_places_28 (tgt := 46) (by decide) (fun c28 => ?_) (fun c28 => ?_)
    · replace e := x_ift c28 e
      obtain rfl := Option.some.inj e
      refine r_mask (L' := [some (.ref (xa g 0)), some (.int v1), none]) [true, true, false] rfl ?_
      exact K0
    · replace e := x_iff c28 e
      refine r_aload_n DX7_places_31 (i := 0) rfl rfl ?_
      refine r_get (v := .ref (xa g 2)) DX7_places_32 F_X7_18 e_0 rfl ?_
      refine r_iload_n DX7_places_35 (i := 2) rfl rfl ?_
      obtain ⟨c36, e⟩ := x_grd e
      refine r_aald (b := (xa g (23 + (Int32.toNatClampNeg v2)))) DX7_places_36 e_2 rfl c36 rfl ?_
      obtain ⟨q37, e37, e⟩ := x_bnd e
      refine r_callV0 (As := []) (S := []) DX7_places_37 C_X7_66 (ci := 3) rfl rfl (e_ml (x_in7 c36)) (by decide) (by decide) (Nat.le_of_ble_eq_true rfl) (t_X3_wipe N (Int32.toNatClampNeg v2) a (x_in7 c36) e37) rfl ?_
      refine r_iinc (L' := [some (.ref (xa g 0)), some (.int v1), some (.int (v2 + 1))]) DX7_places_40 (x := v2) (v := (v2 + 1)) rfl rfl (by decide) rfl rfl ?_
      refine r_goto DX7_places_43 (tgt := 25) (by decide) ?_
      exact ih _ _ _ e K0

set_option maxRecDepth 100000 in
set_option maxHeartbeats 4000000 in
theorem t_X7_places {l : Launch} {g : xG} {b : xT} (N : Nat) (v1 : Int32) (a : xT)  {r : (Int32 × xT)} (e : f_X7_places N v1 a = some r) : Ev l g 2 yX7_places M_X7_places [.ref (xa g 0), .int v1] (a, b) (some (.int r.1), (r.2, b)) := by
  unfold f_X7_places at e
  refine Ev.of 1 (L0 := [some (.ref (xa g 0)), some (.int v1), none]) (by decide) rfl (Nat.le_of_ble_eq_true rfl) rfl ?_
  refine r_iload_n DX7_places_0 (i := 1) rfl rfl ?_
  refine r_iconst DX7_places_1 (v := 2) (by decide) ?_
  refine r_icmp_lt DX7_places_2 (tgt := 11) (by decide) (fun c2 => ?_) (fun c2 => ?_)
  · replace e := x_ift c2 e
    refine r_sipush DX7_places_11 (v := (-1002)) (by decide) ?_
    obtain rfl := Option.some.inj e
    exact r_iret DX7_places_14 rfl rfl
  · replace e := x_iff c2 e
    refine r_iload_n DX7_places_5 (i := 1) rfl rfl ?_
    refine r_bipush DX7_places_6 (v := 12) (by decide) ?_
    refine r_icmp_le DX7_places_8 (tgt := 15) (by decide) (fun c8 => ?_) (fun c8 => ?_)
    · replace e := x_ift c8 e
      refine r_aload_n DX7_places_15 (i := 0) rfl rfl ?_
      refine r_get (v := .ref (xa g 1)) DX7_places_16 F_X7_12 e_0 rfl ?_
      refine r_iload_n DX7_places_19 (i := 1) rfl rfl ?_
      refine r_put (ty := .int) DX7_places_20 F_X7_62 Fp_1_0 e_1 rfl rfl (Nat.le_of_ble_eq_true rfl) p_1_0 ?_
      refine r_iconst DX7_places_23 (v := 0) (by decide) ?_
      refine r_istore_n (L' := [some (.ref (xa g 0)), some (.int v1), some (.int 0)]) DX7_places_24 (i := 2) rfl (by decide) rfl rfl ?_
      obtain ⟨q25, e25, e⟩ := x_bnd e
      refine lp_X7_places_L25 N v1 N 0 (sI a 0 v1) q25 e25 ?_
      refine r_aload_n DX7_places_46 (i := 0) rfl rfl ?_
      refine r_get (v := .ref (xa g 3)) DX7_places_47 F_X7_30 e_0 rfl ?_
      obtain ⟨q50, e50, e⟩ := x_bnd e
      refine r_callV0 (As := []) (S := []) DX7_places_50 C_X7_69 (ci := 4) rfl rfl e_3 (by decide) (by decide) (Nat.le_of_ble_eq_true rfl) (t_X4_forget N q25 e50) rfl ?_
      refine r_aload_n DX7_places_53 (i := 0) rfl rfl ?_
      refine r_get (v := .ref (xa g 15)) DX7_places_54 F_X7_51 e_0 rfl ?_
      obtain ⟨q57, e57, e⟩ := x_bnd e
      refine r_callV0 (As := []) (S := []) DX7_places_57 C_X7_72 (ci := 2) rfl rfl e_15 (by decide) (by decide) (Nat.le_of_ble_eq_true rfl) (t_X2_forget q50 e57) rfl ?_
      refine r_iload_n DX7_places_60 (i := 1) rfl rfl ?_
      obtain rfl := Option.some.inj e
      exact r_iret DX7_places_61 rfl rfl
    · replace e := x_iff c8 e
      refine r_sipush DX7_places_11 (v := (-1002)) (by decide) ?_
      obtain rfl := Option.some.inj e
      exact r_iret DX7_places_14 rfl rfl

set_option maxRecDepth 100000 in
set_option maxHeartbeats 4000000 in
theorem lp_X7_read_L60 {l : Launch} {g : xG} {b : xT} {R : Option Value × xS} (N : Nat) (v1 : Int32) : ∀ (n : Nat) (v2 : Int32) (a : xT) (r : ((xT) ⊕ (xT))), f_X7_read_L60 N v1 n v2 a = some r → (∀ z, r = (.inl z) → Rx l g 9 M_X7_read 111 [some (.ref (xa g 0)), some (.int v1), none] [] (z, b) R) → (∀ z, r = (.inr (z)) → Rx l g 9 M_X7_read 101 [none, none, none] [] (z, b) R) → Rx l g 9 M_X7_read 60 [some (.ref (xa g 0)), some (.int v1), some (.int v2)] [] (a, b) R := by
  intro n
  induction n with
  | zero => intro v2_ s_ r_ e; cases e
  | succ n ih =>
    intro v2 a r e K0 K1
    rw [f_X7_read_L60] at e
    refine r_iload_n DX7_read_60 (i := 2) rfl rfl ?_
    refine r_aload_n DX7_read_61 (i := 0) rfl rfl ?_
    refine r_get (v := .ref (xa g 1)) DX7_read_62 F_X7_12 e_0 rfl ?_
    obtain ⟨q65, e65, e⟩ := x_bnd e
    refine r_callV1 (As := []) (S := [.int v2]) DX7_read_65 C_X7_142 (ci := 1) rfl rfl e_1 (by decide) (by decide) (Nat.le_of_ble_eq_true rfl) (t_X1_all a e65) rfl ?_
    refine r_icmp_gt DX7_read_68 (tgt := 111) (by decide) (fun c68 => ?_) (fun c68 => ?_)
    · replace e := x_ift c68 e
      obtain rfl := Option.some.inj e
      refine r_mask (L' := [some (.ref (xa g 0)), some (.int v1), none]) [true, true, false] rfl ?_
      exact K0 _ rfl
    · replace e := x_iff c68 e
      refine r_aload_n DX7_read_71 (i := 0) rfl rfl ?_
      refine r_get (v := .ref (xa g 8)) DX7_read_72 F_X7_44 e_0 rfl ?_
      refine r_iload_n DX7_read_75 (i := 2) rfl rfl ?_
      refine r_aload_n DX7_read_76 (i := 0) rfl rfl ?_
      refine r_get (v := .ref (xa g 1)) DX7_read_77 F_X7_12 e_0 rfl ?_
      refine r_aload_n DX7_read_80 (i := 0) rfl rfl ?_
      refine r_get (v := .ref (xa g 2)) DX7_read_81 F_X7_18 e_0 rfl ?_
      obtain ⟨q84, e84, e⟩ := x_bnd e
      refine r_callV1 (As := [.int v2, .ref (xa g 1), .ref (xa g 2)]) (S := []) DX7_read_84 C_X7_192 (ci := 5) rfl rfl e_8 (by decide) (by decide) (Nat.le_of_ble_eq_true rfl) (t_X5_suits N v2 a e84) rfl ?_
      refine r_if_eq DX7_read_87 (tgt := 105) (by decide) (fun c87 => ?_) (fun c87 => ?_)
      · replace e := x_ift c87 e
        refine r_iinc (L' := [some (.ref (xa g 0)), some (.int v1), some (.int (v2 + 1))]) DX7_read_105 (x := v2) (v := (v2 + 1)) rfl rfl (by decide) rfl rfl ?_
        refine r_goto DX7_read_108 (tgt := 60) (by decide) ?_
        exact ih _ _ _ e K0 K1
      · replace e := x_iff c87 e
        refine r_aload_n DX7_read_90 (i := 0) rfl rfl ?_
        refine r_get (v := .ref (xa g (23 + 6))) DX7_read_91 F_X7_23 e_0 rfl ?_
        refine r_iload_n DX7_read_94 (i := 2) rfl rfl ?_
        obtain ⟨q95, e95, e⟩ := x_bnd e
        refine r_callV1 (As := [.int v2]) (S := []) DX7_read_95 C_X7_117 (ci := 3) rfl rfl (e_ml (by decide)) (by decide) (by decide) (Nat.le_of_ble_eq_true rfl) (t_X3_append 6 v2 a (by decide) e95) rfl ?_
        refine r_if_ne DX7_read_98 (tgt := 105) (by decide) (fun c98 => ?_) (fun c98 => ?_)
        · replace e := x_iff c98 e
          refine r_iinc (L' := [some (.ref (xa g 0)), some (.int v1), some (.int (v2 + 1))]) DX7_read_105 (x := v2) (v := (v2 + 1)) rfl rfl (by decide) rfl rfl ?_
          refine r_goto DX7_read_108 (tgt := 60) (by decide) ?_
          exact ih _ _ _ e K0 K1
        · replace e := x_ift c98 e
          obtain rfl := Option.some.inj e
          refine r_mask (L' := [none, none, none]) [false, false, false] rfl ?_
          exact K1 _ rfl

set_option maxRecDepth 100000 in
set_option maxHeartbeats 4000000 in
theorem t_X7_read {l : Launch} {g : xG} {b : xT} (N : Nat) (v1 : Int32) (a : xT)  {r : (Int32 × xT)} (e : f_X7_read N v1 a = some r) : Ev l g 9 yX7_read M_X7_read [.ref (xa g 0), .int v1] (a, b) (some (.int r.1), (r.2, b)) := by
  unfold f_X7_read at e
  refine Ev.of 1 (L0 := [some (.ref (xa g 0)), some (.int v1), none]) (by decide) rfl (Nat.le_of_ble_eq_true rfl) rfl ?_
  refine r_iload_n DX7_read_0 (i := 1) rfl rfl ?_
  obtain ⟨q1, e1, e⟩ := x_bnd e
  refine r_callS1 (As := [.int v1]) (S := []) DX7_read_1 C_X7_111 (by decide) (by decide) (Nat.le_of_ble_eq_true rfl) (t_X7_isList v1 e1) rfl ?_
  refine r_if_ne DX7_read_4 (tgt := 11) (by decide) (fun c4 => ?_) (fun c4 => ?_)
  · replace e := x_iff c4 e
    refine r_aload_n DX7_read_11 (i := 0) rfl rfl ?_
    refine r_get (v := .ref (xa g 8)) DX7_read_12 F_X7_44 e_0 rfl ?_
    refine r_aload_n DX7_read_15 (i := 0) rfl rfl ?_
    refine r_get (v := .ref (xa g 6)) DX7_read_16 F_X7_37 e_0 rfl ?_
    obtain ⟨q19, e19, e⟩ := x_bnd e
    refine r_callV0 (As := [.ref (xa g 6)]) (S := []) DX7_read_19 C_X7_185 (ci := 5) rfl rfl e_8 (by decide) (by decide) (Nat.le_of_ble_eq_true rfl) (t_X5_parse N a e19) rfl ?_
    refine r_aload_n DX7_read_22 (i := 0) rfl rfl ?_
    refine r_get (v := .ref (xa g 6)) DX7_read_23 F_X7_37 e_0 rfl ?_
    refine r_iconst DX7_read_26 (v := 0) (by decide) ?_
    refine r_put (ty := .int) DX7_read_27 F_X7_182 Fp_6_1 e_6 rfl rfl (Nat.le_of_ble_eq_true rfl) p_6_1 ?_
    refine r_aload_n DX7_read_30 (i := 0) rfl rfl ?_
    refine r_get (v := .ref (xa g 8)) DX7_read_31 F_X7_44 e_0 rfl ?_
    refine r_get (v := .int (gI q19 10)) DX7_read_34 F_X7_189 e_8 rfl ?_
    refine r_if_eq DX7_read_37 (tgt := 51) (by decide) (fun c37 => ?_) (fun c37 => ?_)
    · replace e := x_ift c37 e
      refine r_aload_n DX7_read_51 (i := 0) rfl rfl ?_
      refine r_get (v := .ref (xa g (23 + 6))) DX7_read_52 F_X7_23 e_0 rfl ?_
      obtain ⟨q55, e55, e⟩ := x_bnd e
      refine r_callV0 (As := []) (S := []) DX7_read_55 C_X7_66 (ci := 3) rfl rfl (e_ml (by decide)) (by decide) (by decide) (Nat.le_of_ble_eq_true rfl) (t_X3_wipe N 6 (sI q19 5 0) (by decide) e55) rfl ?_
      refine r_iconst DX7_read_58 (v := 0) (by decide) ?_
      refine r_istore_n (L' := [some (.ref (xa g 0)), some (.int v1), some (.int 0)]) DX7_read_59 (i := 2) rfl (by decide) rfl rfl ?_
      obtain ⟨q60, e60, e⟩ := x_bnd e
      refine lp_X7_read_L60 N v1 N 0 q55 q60 e60 (fun z60_111 w60 => ?_) (fun z60_101 w60 => ?_)
      · subst w60
        dsimp only [Sum.elim] at e
        refine r_aload_n DX7_read_111 (i := 0) rfl rfl ?_
        refine r_iload_n DX7_read_112 (i := 1) rfl rfl ?_
        obtain ⟨q113, e113, e⟩ := x_bnd e
        refine r_callV1 (As := [.int v1]) (S := []) DX7_read_113 C_X7_163 (ci := 7) rfl rfl e_0 (by decide) (by decide) (Nat.le_of_ble_eq_true rfl) (t_X7_becomesFresh v1 z60_111 e113) rfl ?_
        obtain rfl := Option.some.inj e
        exact r_iret DX7_read_116 rfl rfl
      · subst w60
        dsimp only [Sum.elim] at e
        refine r_sipush DX7_read_101 (v := (-1005)) (by decide) ?_
        obtain rfl := Option.some.inj e
        exact r_iret DX7_read_104 rfl rfl
    · replace e := x_iff c37 e
      refine r_bipush DX7_read_40 (v := (-10)) (by decide) ?_
      refine r_aload_n DX7_read_42 (i := 0) rfl rfl ?_
      refine r_get (v := .ref (xa g 8)) DX7_read_43 F_X7_44 e_0 rfl ?_
      refine r_get (v := .int (gI q19 10)) DX7_read_46 F_X7_189 e_8 rfl ?_
      refine r_isub DX7_read_49 ?_
      obtain rfl := Option.some.inj e
      exact r_iret DX7_read_50 rfl rfl
  · replace e := x_ift c4 e
    refine r_sipush DX7_read_7 (v := (-1001)) (by decide) ?_
    obtain rfl := Option.some.inj e
    exact r_iret DX7_read_10 rfl rfl

set_option maxRecDepth 100000 in
set_option maxHeartbeats 4000000 in
theorem lp_X7_shorten_L47 {l : Launch} {g : xG} {b : xT} {R : Option Value × xS} (v1 : Int32) (v2 : Int32) (v4 : Int32) : ∀ (n : Nat) (v5 : Int32) (a : xT) (r : (xT)), f_X7_shorten_L47 v1 v2 v4 n v5 a = some r → Rx l g 4 M_X7_shorten 104 [some (.ref (xa g 0)), some (.int v1), none, none, none, none, none] [] (r, b) R → Rx l g 4 M_X7_shorten 47 [some (.ref (xa g 0)), some (.int v1), some (.int v2), none, some (.int v4), some (.int v5), none] [] (a, b) R := by
  intro n
  induction n with
  | zero => intro v5_ s_ r_ e; cases e
  | succ n ih =>
    intro v5 a r e K0
    rw [f_X7_shorten_L47] at e
    refine r_iload DX7_shorten_47 rfl ?_
    refine r_aload_n DX7_shorten_49 (i := 0) rfl rfl ?_
    refine r_get (v := .ref (xa g 2)) DX7_shorten_50 F_X7_18 e_0 rfl ?_
    refine r_iload_n DX7_shorten_53 (i := 2) rfl rfl ?_
    obtain ⟨c54, e⟩ := x_grd e
    refine r_aald (b := (xa g (23 + (Int32.toNatClampNeg v2)))) DX7_shorten_54 e_2 rfl c54 rfl ?_
    refine r_get (v := .int (gI a (23 + (Int32.toNatClampNeg v2)))) DX7_shorten_55 F_X7_120 (e_ml (x_in7 c54)) rfl ?_
    refine r_icmp_ge DX7_shorten_58 (tgt := 104) (by decide) (fun c58 => ?_) (fun c58 => ?_)
    · replace e := x_ift c58 e
      obtain rfl := Option.some.inj e
      refine r_mask (L' := [some (.ref (xa g 0)), some (.int v1), none, none, none, none, none]) [true, true, false, false, false, false, false] rfl ?_
      exact K0
    · replace e := x_iff c58 e
      refine r_aload_n DX7_shorten_61 (i := 0) rfl rfl ?_
      refine r_get (v := .ref (xa g 2)) DX7_shorten_62 F_X7_18 e_0 rfl ?_
      refine r_iload_n DX7_shorten_65 (i := 2) rfl rfl ?_
      obtain ⟨c66, e⟩ := x_grd e
      refine r_aald (b := (xa g (23 + (Int32.toNatClampNeg v2)))) DX7_shorten_66 e_2 rfl c66 rfl ?_
      refine r_get (v := .ref (xa g (30 + (Int32.toNatClampNeg v2)))) DX7_shorten_67 F_X7_130 (e_ml (x_in7 c66)) rfl ?_
      refine r_iload DX7_shorten_70 rfl ?_
      obtain ⟨c72, e⟩ := x_grd e
      refine r_iald (f := (gA a (30 + (Int32.toNatClampNeg v2)))) DX7_shorten_72 (e_mk (x_in7 c66)) rfl c72 ?_
      obtain ⟨w73, e73, e⟩ := x_bnd e
      refine r_istoreB (L' := [some (.ref (xa g 0)), some (.int v1), some (.int v2), none, some (.int v4), some (.int v5), some (.int w73)]) (w := w73) DX7_shorten_73 (Option.some.inj e73) (by decide) rfl rfl ?_
      refine r_aload_n DX7_shorten_75 (i := 0) rfl rfl ?_
      refine r_get (v := .ref (xa g (23 + 6))) DX7_shorten_76 F_X7_23 e_0 rfl ?_
      refine r_iload DX7_shorten_79 rfl ?_
      refine r_iload DX7_shorten_81 rfl ?_
      refine r_iand DX7_shorten_83 ?_
      refine r_iload DX7_shorten_84 rfl ?_
      refine r_iconst DX7_shorten_86 (v := 1) (by decide) ?_
      refine r_ishr DX7_shorten_87 ?_
      refine r_iload DX7_shorten_88 rfl ?_
      refine r_iconst DX7_shorten_90 (v := (-1)) (by decide) ?_
      refine r_ixor DX7_shorten_91 ?_
      refine r_iand DX7_shorten_92 ?_
      refine r_ior DX7_shorten_93 ?_
      obtain ⟨q94, e94, e⟩ := x_bnd e
      refine r_callV1 (As := [.int ((w73 &&& v4) ||| ((w73 >>> (1 &&& 31)) &&& (v4 ^^^ (-1))))]) (S := []) DX7_shorten_94 C_X7_160 (ci := 3) rfl rfl (e_ml (by decide)) (by decide) (by decide) (Nat.le_of_ble_eq_true rfl) (t_X3_appendOnce 6 ((w73 &&& v4) ||| ((w73 >>> (1 &&& 31)) &&& (v4 ^^^ (-1)))) a (by decide) e94) rfl ?_
      refine r_pop DX7_shorten_97 rfl ?_
      refine r_iinc (L' := [some (.ref (xa g 0)), some (.int v1), some (.int v2), none, some (.int v4), some (.int (v5 + 1)), some (.int w73)]) DX7_shorten_98 (x := v5) (v := (v5 + 1)) rfl rfl (by decide) rfl rfl ?_
      refine r_goto DX7_shorten_101 (tgt := 47) (by decide) ?_
      refine r_mask (L' := [some (.ref (xa g 0)), some (.int v1), some (.int v2), none, some (.int v4), some (.int (v5 + 1)), none]) [true, true, true, false, true, true, false] rfl ?_
      exact ih _ _ _ e K0

set_option maxRecDepth 100000 in
set_option maxHeartbeats 4000000 in
theorem t_X7_shorten {l : Launch} {g : xG} {b : xT} (N : Nat) (v1 : Int32) (v2 : Int32) (v3 : Int32) (a : xT)  {r : (Int32 × xT)} (e : f_X7_shorten N v1 v2 v3 a = some r) : Ev l g 4 yX7_shorten M_X7_shorten [.ref (xa g 0), .int v1, .int v2, .int v3] (a, b) (some (.int r.1), (r.2, b)) := by
  unfold f_X7_shorten at e
  refine Ev.of 3 (L0 := [some (.ref (xa g 0)), some (.int v1), some (.int v2), some (.int v3), none, none, none]) (by decide) rfl (Nat.le_of_ble_eq_true rfl) rfl ?_
  refine r_iload_n DX7_shorten_0 (i := 1) rfl rfl ?_
  obtain ⟨q1, e1, e⟩ := x_bnd e
  refine r_callS1 (As := [.int v1]) (S := []) DX7_shorten_1 C_X7_111 (by decide) (by decide) (Nat.le_of_ble_eq_true rfl) (t_X7_isList v1 e1) rfl ?_
  refine r_if_eq DX7_shorten_4 (tgt := 14) (by decide) (fun c4 => ?_) (fun c4 => ?_)
  · replace e := x_ift c4 e
    refine r_sipush DX7_shorten_14 (v := (-1001)) (by decide) ?_
    obtain rfl := Option.some.inj e
    exact r_iret DX7_shorten_17 rfl rfl
  · replace e := x_iff c4 e
    refine r_iload_n DX7_shorten_7 (i := 2) rfl rfl ?_
    obtain ⟨q8, e8, e⟩ := x_bnd e
    refine r_callS1 (As := [.int v2]) (S := []) DX7_shorten_8 C_X7_111 (by decide) (by decide) (Nat.le_of_ble_eq_true rfl) (t_X7_isList v2 e8) rfl ?_
    refine r_if_ne DX7_shorten_11 (tgt := 18) (by decide) (fun c11 => ?_) (fun c11 => ?_)
    · replace e := x_iff c11 e
      refine r_aload_n DX7_shorten_18 (i := 0) rfl rfl ?_
      refine r_iload_n DX7_shorten_19 (i := 3) rfl rfl ?_
      obtain ⟨q20, e20, e⟩ := x_bnd e
      refine r_callV1 (As := [.int v3]) (S := []) DX7_shorten_20 C_X7_170 (ci := 7) rfl rfl e_0 (by decide) (by decide) (Nat.le_of_ble_eq_true rfl) (t_X7_isPlace v3 a e20) rfl ?_
      refine r_if_ne DX7_shorten_23 (tgt := 30) (by decide) (fun c23 => ?_) (fun c23 => ?_)
      · replace e := x_iff c23 e
        refine r_iconst DX7_shorten_30 (v := 1) (by decide) ?_
        refine r_iload_n DX7_shorten_31 (i := 3) rfl rfl ?_
        refine r_ishl DX7_shorten_32 ?_
        refine r_iconst DX7_shorten_33 (v := 1) (by decide) ?_
        refine r_isub DX7_shorten_34 ?_
        refine r_istore (L' := [some (.ref (xa g 0)), some (.int v1), some (.int v2), some (.int v3), some (.int (((1 : Int32) <<< (v3 &&& 31)) - 1)), none, none]) DX7_shorten_35 (by decide) rfl rfl ?_
        refine r_aload_n DX7_shorten_37 (i := 0) rfl rfl ?_
        refine r_get (v := .ref (xa g (23 + 6))) DX7_shorten_38 F_X7_23 e_0 rfl ?_
        obtain ⟨q41, e41, e⟩ := x_bnd e
        refine r_callV0 (As := []) (S := []) DX7_shorten_41 C_X7_66 (ci := 3) rfl rfl (e_ml (by decide)) (by decide) (by decide) (Nat.le_of_ble_eq_true rfl) (t_X3_wipe N 6 a (by decide) e41) rfl ?_
        refine r_iconst DX7_shorten_44 (v := 0) (by decide) ?_
        refine r_istore (L' := [some (.ref (xa g 0)), some (.int v1), some (.int v2), some (.int v3), some (.int (((1 : Int32) <<< (v3 &&& 31)) - 1)), some (.int 0), none]) DX7_shorten_45 (by decide) rfl rfl ?_
        obtain ⟨q47, e47, e⟩ := x_bnd e
        refine r_mask (L' := [some (.ref (xa g 0)), some (.int v1), some (.int v2), none, some (.int (((1 : Int32) <<< (v3 &&& 31)) - 1)), some (.int 0), none]) [true, true, true, false, true, true, false] rfl ?_
        refine lp_X7_shorten_L47 v1 v2 (((1 : Int32) <<< (v3 &&& 31)) - 1) N 0 q41 q47 e47 ?_
        refine r_aload_n DX7_shorten_104 (i := 0) rfl rfl ?_
        refine r_iload_n DX7_shorten_105 (i := 1) rfl rfl ?_
        obtain ⟨q106, e106, e⟩ := x_bnd e
        refine r_callV1 (As := [.int v1]) (S := []) DX7_shorten_106 C_X7_163 (ci := 7) rfl rfl e_0 (by decide) (by decide) (Nat.le_of_ble_eq_true rfl) (t_X7_becomesFresh v1 q47 e106) rfl ?_
        obtain rfl := Option.some.inj e
        exact r_iret DX7_shorten_109 rfl rfl
      · replace e := x_ift c23 e
        refine r_sipush DX7_shorten_26 (v := (-1002)) (by decide) ?_
        obtain rfl := Option.some.inj e
        exact r_iret DX7_shorten_29 rfl rfl
    · replace e := x_ift c11 e
      refine r_sipush DX7_shorten_14 (v := (-1001)) (by decide) ?_
      obtain rfl := Option.some.inj e
      exact r_iret DX7_shorten_17 rfl rfl

set_option maxRecDepth 100000 in
set_option maxHeartbeats 4000000 in
theorem t_X7_trace {l : Launch} {g : xG} {b : xT} (N : Nat) (v1 : Int32) (v2 : Int32) (v3 : Int32) (v4 : Int32) (a : xT)  {r : (Int32 × xT)} (e : f_X7_trace N v1 v2 v3 v4 a = some r) : Ev l g 4 yX7_trace M_X7_trace [.ref (xa g 0), .int v1, .int v2, .int v3, .int v4] (a, b) (some (.int r.1), (r.2, b)) := by
  unfold f_X7_trace at e
  refine Ev.of 0 (L0 := [some (.ref (xa g 0)), some (.int v1), some (.int v2), some (.int v3), some (.int v4)]) (by decide) rfl (Nat.le_of_ble_eq_true rfl) rfl ?_
  refine r_iload_n DX7_trace_0 (i := 1) rfl rfl ?_
  obtain ⟨q1, e1, e⟩ := x_bnd e
  refine r_callS1 (As := [.int v1]) (S := []) DX7_trace_1 C_X7_111 (by decide) (by decide) (Nat.le_of_ble_eq_true rfl) (t_X7_isList v1 e1) rfl ?_
  refine r_if_ne DX7_trace_4 (tgt := 11) (by decide) (fun c4 => ?_) (fun c4 => ?_)
  · replace e := x_iff c4 e
    refine r_aload_n DX7_trace_11 (i := 0) rfl rfl ?_
    refine r_get (v := .ref (xa g 1)) DX7_trace_12 F_X7_12 e_0 rfl ?_
    refine r_iload_n DX7_trace_15 (i := 2) rfl rfl ?_
    obtain ⟨q16, e16, e⟩ := x_bnd e
    refine r_callV1 (As := [.int v2]) (S := []) DX7_trace_16 C_X7_86 (ci := 1) rfl rfl e_1 (by decide) (by decide) (Nat.le_of_ble_eq_true rfl) (t_X1_isSet v2 a e16) rfl ?_
    refine r_if_eq DX7_trace_19 (tgt := 41) (by decide) (fun c19 => ?_) (fun c19 => ?_)
    · replace e := x_ift c19 e
      refine r_sipush DX7_trace_41 (v := (-1002)) (by decide) ?_
      obtain rfl := Option.some.inj e
      exact r_iret DX7_trace_44 rfl rfl
    · replace e := x_iff c19 e
      refine r_iload_n DX7_trace_22 (i := 3) rfl rfl ?_
      refine r_iconst DX7_trace_23 (v := 1) (by decide) ?_
      refine r_iconst DX7_trace_24 (v := 3) (by decide) ?_
      obtain ⟨q25, e25, e⟩ := x_bnd e
      refine r_callS1 (As := [.int v3, .int 1, .int 3]) (S := []) DX7_trace_25 C_X7_73 (by decide) (by decide) (Nat.le_of_ble_eq_true rfl) (t_X7_within v3 1 3 e25) rfl ?_
      refine r_if_eq DX7_trace_28 (tgt := 41) (by decide) (fun c28 => ?_) (fun c28 => ?_)
      · replace e := x_ift c28 e
        refine r_sipush DX7_trace_41 (v := (-1002)) (by decide) ?_
        obtain rfl := Option.some.inj e
        exact r_iret DX7_trace_44 rfl rfl
      · replace e := x_iff c28 e
        refine r_iload DX7_trace_31 rfl ?_
        refine r_iconst DX7_trace_33 (v := 0) (by decide) ?_
        refine r_iconst DX7_trace_34 (v := 2) (by decide) ?_
        obtain ⟨q35, e35, e⟩ := x_bnd e
        refine r_callS1 (As := [.int v4, .int 0, .int 2]) (S := []) DX7_trace_35 C_X7_73 (by decide) (by decide) (Nat.le_of_ble_eq_true rfl) (t_X7_within v4 0 2 e35) rfl ?_
        refine r_if_ne DX7_trace_38 (tgt := 45) (by decide) (fun c38 => ?_) (fun c38 => ?_)
        · replace e := x_iff c38 e
          refine r_aload_n DX7_trace_45 (i := 0) rfl rfl ?_
          refine r_iload_n DX7_trace_46 (i := 1) rfl rfl ?_
          refine r_iload_n DX7_trace_47 (i := 2) rfl rfl ?_
          refine r_iload_n DX7_trace_48 (i := 3) rfl rfl ?_
          obtain ⟨q49, e49, e⟩ := x_bnd e
          refine r_callV0 (As := [.int v1, .int v2, .int v3]) (S := []) DX7_trace_49 C_X7_248 (ci := 7) rfl rfl e_0 (by decide) (by decide) (Nat.le_of_ble_eq_true rfl) (t_X7_findRings N v1 v2 v3 a e49) rfl ?_
          refine r_iload DX7_trace_52 rfl ?_
          by_cases c54_0 : v4 = 0
          · replace e := x_ift c54_0 e
            refine r_lks DX7_trace_54 (tgt := 80) (by decide) (by rw [c54_0]) (by decide) ?_
            refine r_aload_n DX7_trace_80 (i := 0) rfl rfl ?_
            refine r_get (v := .ref (xa g 19)) DX7_trace_81 F_X7_58 e_0 rfl ?_
            refine r_get (v := .int (gI q49 19)) DX7_trace_84 F_X7_233 e_19 rfl ?_
            obtain rfl := Option.some.inj e
            exact r_iret DX7_trace_87 rfl rfl
          replace e := x_iff c54_0 e
          by_cases c54_1 : v4 = 1
          · replace e := x_ift c54_1 e
            refine r_lks DX7_trace_54 (tgt := 88) (by decide) (by rw [c54_1]) (by decide) ?_
            refine r_aload_n DX7_trace_88 (i := 0) rfl rfl ?_
            refine r_get (v := .ref (xa g 19)) DX7_trace_89 F_X7_58 e_0 rfl ?_
            refine r_get (v := .int (gI q49 20)) DX7_trace_92 F_X7_236 e_19 rfl ?_
            obtain rfl := Option.some.inj e
            exact r_iret DX7_trace_95 rfl rfl
          replace e := x_iff c54_1 e
          refine r_lks DX7_trace_54 (tgt := 96) (by decide) (x_lkout2 (x_ne c54_0) (x_ne c54_1)) (by decide) ?_
          refine r_aload_n DX7_trace_96 (i := 0) rfl rfl ?_
          refine r_get (v := .ref (xa g 19)) DX7_trace_97 F_X7_58 e_0 rfl ?_
          refine r_get (v := .int (gI q49 19)) DX7_trace_100 F_X7_233 e_19 rfl ?_
          refine r_if_ne DX7_trace_103 (tgt := 110) (by decide) (fun c103 => ?_) (fun c103 => ?_)
          · replace e := x_iff c103 e
            refine r_aload_n DX7_trace_110 (i := 0) rfl rfl ?_
            refine r_get (v := .ref (xa g 19)) DX7_trace_111 F_X7_58 e_0 rfl ?_
            refine r_get (v := .long (gJ q49 0)) DX7_trace_114 F_X7_252 e_19 rfl ?_
            obtain ⟨q117, e117, e⟩ := x_bnd e
            refine r_callS1 (As := [.long (gJ q49 0)]) (S := []) DX7_trace_117 C_X7_256 (by decide) (by decide) (Nat.le_of_ble_eq_true rfl) (t_J13_bitCount_95d88 (gJ q49 0) e117) rfl ?_
            obtain rfl := Option.some.inj e
            exact r_iret DX7_trace_120 rfl rfl
          · replace e := x_ift c103 e
            refine r_iconst DX7_trace_106 (v := (-1)) (by decide) ?_
            refine r_goto DX7_trace_107 (tgt := 120) (by decide) ?_
            obtain rfl := Option.some.inj e
            exact r_iret DX7_trace_120 rfl rfl
        · replace e := x_ift c38 e
          refine r_sipush DX7_trace_41 (v := (-1002)) (by decide) ?_
          obtain rfl := Option.some.inj e
          exact r_iret DX7_trace_44 rfl rfl
  · replace e := x_ift c4 e
    refine r_sipush DX7_trace_7 (v := (-1001)) (by decide) ?_
    obtain rfl := Option.some.inj e
    exact r_iret DX7_trace_10 rfl rfl

set_option maxRecDepth 100000 in
set_option maxHeartbeats 4000000 in
theorem lp_X7_turn_L27 {l : Launch} {g : xG} {b : xT} {R : Option Value × xS} (N : Nat) (v1 : Int32) (v2 : Int32) : ∀ (n : Nat) (v3 : Int32) (a : xT) (r : (xT)), f_X7_turn_L27 N v1 v2 n v3 a = some r → Rx l g 4 M_X7_turn 72 [some (.ref (xa g 0)), some (.int v1), none, none] [] (r, b) R → Rx l g 4 M_X7_turn 27 [some (.ref (xa g 0)), some (.int v1), some (.int v2), some (.int v3)] [] (a, b) R := by
  intro n
  induction n with
  | zero => intro v3_ s_ r_ e; cases e
  | succ n ih =>
    intro v3 a r e K0
    rw [f_X7_turn_L27] at e
    refine r_iload_n DX7_turn_27 (i := 3) rfl rfl ?_
    refine r_aload_n DX7_turn_28 (i := 0) rfl rfl ?_
    refine r_get (v := .ref (xa g 2)) DX7_turn_29 F_X7_18 e_0 rfl ?_
    refine r_iload_n DX7_turn_32 (i := 2) rfl rfl ?_
    obtain ⟨c33, e⟩ := x_grd e
    refine r_aald (b := (xa g (23 + (Int32.toNatClampNeg v2)))) DX7_turn_33 e_2 rfl c33 rfl ?_
    refine r_get (v := .int (gI a (23 + (Int32.toNatClampNeg v2)))) DX7_turn_34 F_X7_120 (e_ml (x_in7 c33)) rfl ?_
    refine r_icmp_ge DX7_turn_37 (tgt := 72) (by decide) (fun c37 => ?_) (fun c37 => ?_)
    · replace e := x_ift c37 e
      obtain rfl := Option.some.inj e
      refine r_mask (L' := [some (.ref (xa g 0)), some (.int v1), none, none]) [true, true, false, false] rfl ?_
      exact K0
    · replace e := x_iff c37 e
      refine r_aload_n DX7_turn_40 (i := 0) rfl rfl ?_
      refine r_get (v := .ref (xa g (23 + 6))) DX7_turn_41 F_X7_23 e_0 rfl ?_
      refine r_aload_n DX7_turn_44 (i := 0) rfl rfl ?_
      refine r_get (v := .ref (xa g 1)) DX7_turn_45 F_X7_12 e_0 rfl ?_
      refine r_aload_n DX7_turn_48 (i := 0) rfl rfl ?_
      refine r_get (v := .ref (xa g 2)) DX7_turn_49 F_X7_18 e_0 rfl ?_
      refine r_iload_n DX7_turn_52 (i := 2) rfl rfl ?_
      obtain ⟨c53, e⟩ := x_grd e
      refine r_aald (b := (xa g (23 + (Int32.toNatClampNeg v2)))) DX7_turn_53 e_2 rfl c53 rfl ?_
      refine r_get (v := .ref (xa g (30 + (Int32.toNatClampNeg v2)))) DX7_turn_54 F_X7_130 (e_ml (x_in7 c53)) rfl ?_
      refine r_iload_n DX7_turn_57 (i := 3) rfl rfl ?_
      obtain ⟨c58, e⟩ := x_grd e
      refine r_iald (f := (gA a (30 + (Int32.toNatClampNeg v2)))) DX7_turn_58 (e_mk (x_in7 c53)) rfl c58 ?_
      obtain ⟨q59, e59, e⟩ := x_bnd e
      refine r_callV1 (As := [.int ((gA a (30 + (Int32.toNatClampNeg v2))) (Int32.toNatClampNeg v3))]) (S := [.ref (xa g (23 + 6))]) DX7_turn_59 C_X7_90 (ci := 1) rfl rfl e_1 (by decide) (by decide) (Nat.le_of_ble_eq_true rfl) (t_X1_reversed N ((gA a (30 + (Int32.toNatClampNeg v2))) (Int32.toNatClampNeg v3)) a e59) rfl ?_
      obtain ⟨q62, e62, e⟩ := x_bnd e
      refine r_callV1 (As := [.int q59]) (S := []) DX7_turn_62 C_X7_160 (ci := 3) rfl rfl (e_ml (by decide)) (by decide) (by decide) (Nat.le_of_ble_eq_true rfl) (t_X3_appendOnce 6 q59 a (by decide) e62) rfl ?_
      refine r_pop DX7_turn_65 rfl ?_
      refine r_iinc (L' := [some (.ref (xa g 0)), some (.int v1), some (.int v2), some (.int (v3 + 1))]) DX7_turn_66 (x := v3) (v := (v3 + 1)) rfl rfl (by decide) rfl rfl ?_
      refine r_goto DX7_turn_69 (tgt := 27) (by decide) ?_
      exact ih _ _ _ e K0

set_option maxRecDepth 100000 in
set_option maxHeartbeats 4000000 in
theorem t_X7_turn {l : Launch} {g : xG} {b : xT} (N : Nat) (v1 : Int32) (v2 : Int32) (a : xT)  {r : (Int32 × xT)} (e : f_X7_turn N v1 v2 a = some r) : Ev l g 4 yX7_turn M_X7_turn [.ref (xa g 0), .int v1, .int v2] (a, b) (some (.int r.1), (r.2, b)) := by
  unfold f_X7_turn at e
  refine Ev.of 1 (L0 := [some (.ref (xa g 0)), some (.int v1), some (.int v2), none]) (by decide) rfl (Nat.le_of_ble_eq_true rfl) rfl ?_
  refine r_iload_n DX7_turn_0 (i := 1) rfl rfl ?_
  obtain ⟨q1, e1, e⟩ := x_bnd e
  refine r_callS1 (As := [.int v1]) (S := []) DX7_turn_1 C_X7_111 (by decide) (by decide) (Nat.le_of_ble_eq_true rfl) (t_X7_isList v1 e1) rfl ?_
  refine r_if_eq DX7_turn_4 (tgt := 14) (by decide) (fun c4 => ?_) (fun c4 => ?_)
  · replace e := x_ift c4 e
    refine r_sipush DX7_turn_14 (v := (-1001)) (by decide) ?_
    obtain rfl := Option.some.inj e
    exact r_iret DX7_turn_17 rfl rfl
  · replace e := x_iff c4 e
    refine r_iload_n DX7_turn_7 (i := 2) rfl rfl ?_
    obtain ⟨q8, e8, e⟩ := x_bnd e
    refine r_callS1 (As := [.int v2]) (S := []) DX7_turn_8 C_X7_111 (by decide) (by decide) (Nat.le_of_ble_eq_true rfl) (t_X7_isList v2 e8) rfl ?_
    refine r_if_ne DX7_turn_11 (tgt := 18) (by decide) (fun c11 => ?_) (fun c11 => ?_)
    · replace e := x_iff c11 e
      refine r_aload_n DX7_turn_18 (i := 0) rfl rfl ?_
      refine r_get (v := .ref (xa g (23 + 6))) DX7_turn_19 F_X7_23 e_0 rfl ?_
      obtain ⟨q22, e22, e⟩ := x_bnd e
      refine r_callV0 (As := []) (S := []) DX7_turn_22 C_X7_66 (ci := 3) rfl rfl (e_ml (by decide)) (by decide) (by decide) (Nat.le_of_ble_eq_true rfl) (t_X3_wipe N 6 a (by decide) e22) rfl ?_
      refine r_iconst DX7_turn_25 (v := 0) (by decide) ?_
      refine r_istore_n (L' := [some (.ref (xa g 0)), some (.int v1), some (.int v2), some (.int 0)]) DX7_turn_26 (i := 3) rfl (by decide) rfl rfl ?_
      obtain ⟨q27, e27, e⟩ := x_bnd e
      refine lp_X7_turn_L27 N v1 v2 N 0 q22 q27 e27 ?_
      refine r_aload_n DX7_turn_72 (i := 0) rfl rfl ?_
      refine r_iload_n DX7_turn_73 (i := 1) rfl rfl ?_
      obtain ⟨q74, e74, e⟩ := x_bnd e
      refine r_callV1 (As := [.int v1]) (S := []) DX7_turn_74 C_X7_163 (ci := 7) rfl rfl e_0 (by decide) (by decide) (Nat.le_of_ble_eq_true rfl) (t_X7_becomesFresh v1 q27 e74) rfl ?_
      obtain rfl := Option.some.inj e
      exact r_iret DX7_turn_77 rfl rfl
    · replace e := x_ift c11 e
      refine r_sipush DX7_turn_14 (v := (-1001)) (by decide) ?_
      obtain rfl := Option.some.inj e
      exact r_iret DX7_turn_17 rfl rfl

set_option maxRecDepth 100000 in
set_option maxHeartbeats 4000000 in
theorem t_X7_turned {l : Launch} {g : xG} {b : xT} (N : Nat) (v1 : Int32) (a : xT)  {r : Int32} (e : f_X7_turned N v1 a = some r) : Ev l g 2 yX7_turned M_X7_turned [.ref (xa g 0), .int v1] (a, b) (some (.int r), (a, b)) := by
  unfold f_X7_turned at e
  refine Ev.of 0 (L0 := [some (.ref (xa g 0)), some (.int v1)]) (by decide) rfl (Nat.le_of_ble_eq_true rfl) rfl ?_
  refine r_aload_n DX7_turned_0 (i := 0) rfl rfl ?_
  refine r_get (v := .ref (xa g 1)) DX7_turned_1 F_X7_12 e_0 rfl ?_
  refine r_iload_n DX7_turned_4 (i := 1) rfl rfl ?_
  obtain ⟨q5, e5, e⟩ := x_bnd e
  refine r_callV1 (As := [.int v1]) (S := []) DX7_turned_5 C_X7_86 (ci := 1) rfl rfl e_1 (by decide) (by decide) (Nat.le_of_ble_eq_true rfl) (t_X1_isSet v1 a e5) rfl ?_
  refine r_if_eq DX7_turned_8 (tgt := 22) (by decide) (fun c8 => ?_) (fun c8 => ?_)
  · replace e := x_ift c8 e
    refine r_sipush DX7_turned_22 (v := (-1002)) (by decide) ?_
    obtain rfl := Option.some.inj e
    exact r_iret DX7_turned_25 rfl rfl
  · replace e := x_iff c8 e
    refine r_aload_n DX7_turned_11 (i := 0) rfl rfl ?_
    refine r_get (v := .ref (xa g 1)) DX7_turned_12 F_X7_12 e_0 rfl ?_
    refine r_iload_n DX7_turned_15 (i := 1) rfl rfl ?_
    obtain ⟨q16, e16, e⟩ := x_bnd e
    refine r_callV1 (As := [.int v1]) (S := []) DX7_turned_16 C_X7_90 (ci := 1) rfl rfl e_1 (by decide) (by decide) (Nat.le_of_ble_eq_true rfl) (t_X1_reversed N v1 a e16) rfl ?_
    refine r_goto DX7_turned_19 (tgt := 25) (by decide) ?_
    obtain rfl := Option.some.inj e
    exact r_iret DX7_turned_25 rfl rfl
