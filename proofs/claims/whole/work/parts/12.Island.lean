set_option maxRecDepth 100000 in
set_option maxHeartbeats 4000000 in
theorem t_X1_all {l : Launch} {g : xG} {b : xT} (a : xT)  {r : Int32} (e : f_X1_all a = some r) : Ev l g 0 yX1_all M_X1_all [.ref (xa g 1)] (a, b) (some (.int r), (a, b)) := by
  unfold f_X1_all at e
  refine Ev.of 0 (L0 := [some (.ref (xa g 1))]) (by decide) rfl (Nat.le_of_ble_eq_true rfl) rfl ?_
  refine r_iconst DX1_all_0 (v := 1) (by decide) ?_
  refine r_aload_n DX1_all_1 (i := 0) rfl rfl ?_
  refine r_get (v := .int (gI a 0)) DX1_all_2 F_X1_9 e_1 rfl ?_
  refine r_ishl DX1_all_5 ?_
  refine r_iconst DX1_all_6 (v := 1) (by decide) ?_
  refine r_isub DX1_all_7 ?_
  obtain rfl := Option.some.inj e
  exact r_iret DX1_all_8 rfl rfl

set_option maxRecDepth 100000 in
set_option maxHeartbeats 4000000 in
theorem t_X1_isSet {l : Launch} {g : xG} {b : xT} (v1 : Int32) (a : xT)  {r : Int32} (e : f_X1_isSet v1 a = some r) : Ev l g 1 yX1_isSet M_X1_isSet [.ref (xa g 1), .int v1] (a, b) (some (.int r), (a, b)) := by
  unfold f_X1_isSet at e
  refine Ev.of 0 (L0 := [some (.ref (xa g 1)), some (.int v1)]) (by decide) rfl (Nat.le_of_ble_eq_true rfl) rfl ?_
  refine r_iload_n DX1_isSet_0 (i := 1) rfl rfl ?_
  refine r_if_lt DX1_isSet_1 (tgt := 16) (by decide) (fun c1 => ?_) (fun c1 => ?_)
  · replace e := x_ift c1 e
    refine r_iconst DX1_isSet_16 (v := 0) (by decide) ?_
    obtain rfl := Option.some.inj e
    exact r_zret DX1_isSet_17 rfl (by decide) rfl
  · replace e := x_iff c1 e
    refine r_iload_n DX1_isSet_4 (i := 1) rfl rfl ?_
    refine r_aload_n DX1_isSet_5 (i := 0) rfl rfl ?_
    obtain ⟨q6, e6, e⟩ := x_bnd e
    refine r_callV1 (As := []) (S := [.int v1]) DX1_isSet_6 C_X1_24 (ci := 1) rfl rfl e_1 (by decide) (by decide) (Nat.le_of_ble_eq_true rfl) (t_X1_all a e6) rfl ?_
    refine r_icmp_gt DX1_isSet_9 (tgt := 16) (by decide) (fun c9 => ?_) (fun c9 => ?_)
    · replace e := x_ift c9 e
      refine r_iconst DX1_isSet_16 (v := 0) (by decide) ?_
      obtain rfl := Option.some.inj e
      exact r_zret DX1_isSet_17 rfl (by decide) rfl
    · replace e := x_iff c9 e
      refine r_iconst DX1_isSet_12 (v := 1) (by decide) ?_
      refine r_goto DX1_isSet_13 (tgt := 17) (by decide) ?_
      obtain rfl := Option.some.inj e
      exact r_zret DX1_isSet_17 rfl (by decide) rfl

set_option maxRecDepth 100000 in
set_option maxHeartbeats 4000000 in
theorem t_X1_extra {l : Launch} {g : xG} {b : xT} (a : xT)  {r : Int32} (e : f_X1_extra a = some r) : Ev l g 0 yX1_extra M_X1_extra [.ref (xa g 1)] (a, b) (some (.int r), (a, b)) := by
  unfold f_X1_extra at e
  refine Ev.of 0 (L0 := [some (.ref (xa g 1))]) (by decide) rfl (Nat.le_of_ble_eq_true rfl) rfl ?_
  refine r_aload_n DX1_extra_0 (i := 0) rfl rfl ?_
  refine r_get (v := .int (gI a 1)) DX1_extra_1 F_X1_15 e_1 rfl ?_
  refine r_iconst DX1_extra_4 (v := 1) (by decide) ?_
  refine r_icmp_ne DX1_extra_5 (tgt := 12) (by decide) (fun c5 => ?_) (fun c5 => ?_)
  · replace e := x_iff c5 e
    refine r_aload_n DX1_extra_12 (i := 0) rfl rfl ?_
    refine r_get (v := .int (gI a 3)) DX1_extra_13 F_X1_21 e_1 rfl ?_
    obtain rfl := Option.some.inj e
    exact r_iret DX1_extra_16 rfl rfl
  · replace e := x_ift c5 e
    refine r_iconst DX1_extra_8 (v := 0) (by decide) ?_
    refine r_goto DX1_extra_9 (tgt := 16) (by decide) ?_
    obtain rfl := Option.some.inj e
    exact r_iret DX1_extra_16 rfl rfl

set_option maxRecDepth 100000 in
set_option maxHeartbeats 4000000 in
theorem t_X1_near {l : Launch} {g : xG} {b : xT} (v1 : Int32) (v2 : Int32) (a : xT)  {r : Int32} (e : f_X1_near v1 v2 a = some r) : Ev l g 1 yX1_near M_X1_near [.ref (xa g 1), .int v1, .int v2] (a, b) (some (.int r), (a, b)) := by
  unfold f_X1_near at e
  refine Ev.of 1 (L0 := [some (.ref (xa g 1)), some (.int v1), some (.int v2), none]) (by decide) rfl (Nat.le_of_ble_eq_true rfl) rfl ?_
  refine r_aload_n DX1_near_0 (i := 0) rfl rfl ?_
  refine r_get (v := .int (gI a 2)) DX1_near_1 F_X1_18 e_1 rfl ?_
  refine r_aload_n DX1_near_4 (i := 0) rfl rfl ?_
  obtain ⟨q5, e5, e⟩ := x_bnd e
  refine r_callV1 (As := []) (S := [.int (gI a 2)]) DX1_near_5 C_X1_45 (ci := 1) rfl rfl e_1 (by decide) (by decide) (Nat.le_of_ble_eq_true rfl) (t_X1_extra a e5) rfl ?_
  refine r_iadd DX1_near_8 ?_
  refine r_istore_n (L' := [some (.ref (xa g 1)), some (.int v1), some (.int v2), some (.int ((gI a 2) + q5))]) DX1_near_9 (i := 3) rfl (by decide) rfl rfl ?_
  refine r_iload_n DX1_near_10 (i := 1) rfl rfl ?_
  refine r_iload_n DX1_near_11 (i := 2) rfl rfl ?_
  refine r_iconst DX1_near_12 (v := (-1)) (by decide) ?_
  refine r_ixor DX1_near_13 ?_
  refine r_iand DX1_near_14 ?_
  obtain ⟨q15, e15, e⟩ := x_bnd e
  refine r_callS1 (As := [.int (v1 &&& (v2 ^^^ (-1)))]) (S := []) DX1_near_15 C_X1_32 (by decide) (by decide) (Nat.le_of_ble_eq_true rfl) (t_J6_bitCount_0f7a4 (v1 &&& (v2 ^^^ (-1))) e15) rfl ?_
  refine r_iload_n DX1_near_18 (i := 3) rfl rfl ?_
  refine r_icmp_gt DX1_near_19 (tgt := 38) (by decide) (fun c19 => ?_) (fun c19 => ?_)
  · replace e := x_ift c19 e
    refine r_iconst DX1_near_38 (v := 0) (by decide) ?_
    obtain rfl := Option.some.inj e
    exact r_zret DX1_near_39 rfl (by decide) rfl
  · replace e := x_iff c19 e
    refine r_iload_n DX1_near_22 (i := 2) rfl rfl ?_
    refine r_iload_n DX1_near_23 (i := 1) rfl rfl ?_
    refine r_iconst DX1_near_24 (v := (-1)) (by decide) ?_
    refine r_ixor DX1_near_25 ?_
    refine r_iand DX1_near_26 ?_
    obtain ⟨q27, e27, e⟩ := x_bnd e
    refine r_callS1 (As := [.int (v2 &&& (v1 ^^^ (-1)))]) (S := []) DX1_near_27 C_X1_32 (by decide) (by decide) (Nat.le_of_ble_eq_true rfl) (t_J6_bitCount_0f7a4 (v2 &&& (v1 ^^^ (-1))) e27) rfl ?_
    refine r_iload_n DX1_near_30 (i := 3) rfl rfl ?_
    refine r_icmp_gt DX1_near_31 (tgt := 38) (by decide) (fun c31 => ?_) (fun c31 => ?_)
    · replace e := x_ift c31 e
      refine r_iconst DX1_near_38 (v := 0) (by decide) ?_
      obtain rfl := Option.some.inj e
      exact r_zret DX1_near_39 rfl (by decide) rfl
    · replace e := x_iff c31 e
      refine r_iconst DX1_near_34 (v := 1) (by decide) ?_
      refine r_goto DX1_near_35 (tgt := 39) (by decide) ?_
      obtain rfl := Option.some.inj e
      exact r_zret DX1_near_39 rfl (by decide) rfl

set_option maxRecDepth 100000 in
set_option maxHeartbeats 4000000 in
theorem t_X1_alike {l : Launch} {g : xG} {b : xT} (v1 : Int32) (v2 : Int32) (v3 : Int32) (a : xT)  {r : Int32} (e : f_X1_alike v1 v2 v3 a = some r) : Ev l g 2 yX1_alike M_X1_alike [.ref (xa g 1), .int v1, .int v2, .int v3] (a, b) (some (.int r), (a, b)) := by
  unfold f_X1_alike at e
  refine Ev.of 0 (L0 := [some (.ref (xa g 1)), some (.int v1), some (.int v2), some (.int v3)]) (by decide) rfl (Nat.le_of_ble_eq_true rfl) rfl ?_
  refine r_aload_n DX1_alike_0 (i := 0) rfl rfl ?_
  refine r_get (v := .int (gI a 1)) DX1_alike_1 F_X1_15 e_1 rfl ?_
  refine r_if_ne DX1_alike_4 (tgt := 26) (by decide) (fun c4 => ?_) (fun c4 => ?_)
  · replace e := x_iff c4 e
    refine r_aload_n DX1_alike_26 (i := 0) rfl rfl ?_
    refine r_iload_n DX1_alike_27 (i := 1) rfl rfl ?_
    refine r_iload_n DX1_alike_28 (i := 3) rfl rfl ?_
    obtain ⟨q29, e29, e⟩ := x_bnd e
    refine r_callV1 (As := [.int v1, .int v3]) (S := []) DX1_alike_29 C_X1_48 (ci := 1) rfl rfl e_1 (by decide) (by decide) (Nat.le_of_ble_eq_true rfl) (t_X1_near v1 v3 a e29) rfl ?_
    refine r_if_ne DX1_alike_32 (tgt := 52) (by decide) (fun c32 => ?_) (fun c32 => ?_)
    · replace e := x_iff c32 e
      refine r_iconst DX1_alike_52 (v := 1) (by decide) ?_
      refine r_goto DX1_alike_53 (tgt := 57) (by decide) ?_
      obtain rfl := Option.some.inj e
      exact r_zret DX1_alike_57 rfl (by decide) rfl
    · replace e := x_ift c32 e
      refine r_aload_n DX1_alike_35 (i := 0) rfl rfl ?_
      refine r_get (v := .int (gI a 1)) DX1_alike_36 F_X1_15 e_1 rfl ?_
      refine r_iconst DX1_alike_39 (v := 3) (by decide) ?_
      refine r_icmp_ne DX1_alike_40 (tgt := 56) (by decide) (fun c40 => ?_) (fun c40 => ?_)
      · replace e := x_iff c40 e
        refine r_iconst DX1_alike_56 (v := 0) (by decide) ?_
        obtain rfl := Option.some.inj e
        exact r_zret DX1_alike_57 rfl (by decide) rfl
      · replace e := x_ift c40 e
        refine r_aload_n DX1_alike_43 (i := 0) rfl rfl ?_
        refine r_iload_n DX1_alike_44 (i := 2) rfl rfl ?_
        refine r_iload_n DX1_alike_45 (i := 3) rfl rfl ?_
        obtain ⟨q46, e46, e⟩ := x_bnd e
        refine r_callV1 (As := [.int v2, .int v3]) (S := []) DX1_alike_46 C_X1_48 (ci := 1) rfl rfl e_1 (by decide) (by decide) (Nat.le_of_ble_eq_true rfl) (t_X1_near v2 v3 a e46) rfl ?_
        refine r_if_eq DX1_alike_49 (tgt := 56) (by decide) (fun c49 => ?_) (fun c49 => ?_)
        · replace e := x_ift c49 e
          refine r_iconst DX1_alike_56 (v := 0) (by decide) ?_
          obtain rfl := Option.some.inj e
          exact r_zret DX1_alike_57 rfl (by decide) rfl
        · replace e := x_iff c49 e
          refine r_iconst DX1_alike_52 (v := 1) (by decide) ?_
          refine r_goto DX1_alike_53 (tgt := 57) (by decide) ?_
          obtain rfl := Option.some.inj e
          exact r_zret DX1_alike_57 rfl (by decide) rfl
  · replace e := x_ift c4 e
    refine r_iload_n DX1_alike_7 (i := 1) rfl rfl ?_
    refine r_iload_n DX1_alike_8 (i := 3) rfl rfl ?_
    refine r_ixor DX1_alike_9 ?_
    obtain ⟨q10, e10, e⟩ := x_bnd e
    refine r_callS1 (As := [.int (v1 ^^^ v3)]) (S := []) DX1_alike_10 C_X1_32 (by decide) (by decide) (Nat.le_of_ble_eq_true rfl) (t_J6_bitCount_0f7a4 (v1 ^^^ v3) e10) rfl ?_
    refine r_aload_n DX1_alike_13 (i := 0) rfl rfl ?_
    refine r_get (v := .int (gI a 2)) DX1_alike_14 F_X1_18 e_1 rfl ?_
    refine r_icmp_gt DX1_alike_17 (tgt := 24) (by decide) (fun c17 => ?_) (fun c17 => ?_)
    · replace e := x_ift c17 e
      refine r_iconst DX1_alike_24 (v := 0) (by decide) ?_
      obtain rfl := Option.some.inj e
      exact r_zret DX1_alike_25 rfl (by decide) rfl
    · replace e := x_iff c17 e
      refine r_iconst DX1_alike_20 (v := 1) (by decide) ?_
      refine r_goto DX1_alike_21 (tgt := 25) (by decide) ?_
      obtain rfl := Option.some.inj e
      exact r_zret DX1_alike_25 rfl (by decide) rfl

set_option maxRecDepth 100000 in
set_option maxHeartbeats 4000000 in
theorem lp_X1_reversed_L4 {l : Launch} {g : xG} {b : xT} {R : Option Value × xS} (v1 : Int32) (a : xT) : ∀ (n : Nat) (v2 : Int32) (v3 : Int32) (r : (Int32)), f_X1_reversed_L4 v1 a n v2 v3 = some r → Rx l g 0 M_X1_reversed 28 [none, none, some (.int r), none] [] (a, b) R → Rx l g 0 M_X1_reversed 4 [some (.ref (xa g 1)), some (.int v1), some (.int v2), some (.int v3)] [] (a, b) R := by
  intro n
  induction n with
  | zero => intro v2_ v3_ r_ e; cases e
  | succ n ih =>
    intro v2 v3 r e K0
    rw [f_X1_reversed_L4] at e
    refine r_iload_n DX1_reversed_4 (i := 3) rfl rfl ?_
    refine r_aload_n DX1_reversed_5 (i := 0) rfl rfl ?_
    refine r_get (v := .int (gI a 0)) DX1_reversed_6 F_X1_9 e_1 rfl ?_
    refine r_icmp_ge DX1_reversed_9 (tgt := 28) (by decide) (fun c9 => ?_) (fun c9 => ?_)
    · replace e := x_ift c9 e
      obtain rfl := Option.some.inj e
      refine r_mask (L' := [none, none, some (.int v2), none]) [false, false, true, false] rfl ?_
      exact K0
    · replace e := x_iff c9 e
      refine r_iload_n DX1_reversed_12 (i := 2) rfl rfl ?_
      refine r_iconst DX1_reversed_13 (v := 1) (by decide) ?_
      refine r_ishl DX1_reversed_14 ?_
      refine r_iload_n DX1_reversed_15 (i := 1) rfl rfl ?_
      refine r_iload_n DX1_reversed_16 (i := 3) rfl rfl ?_
      refine r_ishr DX1_reversed_17 ?_
      refine r_iconst DX1_reversed_18 (v := 1) (by decide) ?_
      refine r_iand DX1_reversed_19 ?_
      refine r_ior DX1_reversed_20 ?_
      obtain ⟨w21, e21, e⟩ := x_bnd e
      refine r_istore_nB (L' := [some (.ref (xa g 1)), some (.int v1), some (.int w21), some (.int v3)]) (w := w21) DX1_reversed_21 (Option.some.inj e21) (i := 2) rfl (by decide) rfl rfl ?_
      refine r_iinc (L' := [some (.ref (xa g 1)), some (.int v1), some (.int w21), some (.int (v3 + 1))]) DX1_reversed_22 (x := v3) (v := (v3 + 1)) rfl rfl (by decide) rfl rfl ?_
      refine r_goto DX1_reversed_25 (tgt := 4) (by decide) ?_
      exact ih _ _ _ e K0

set_option maxRecDepth 100000 in
set_option maxHeartbeats 4000000 in
theorem t_X1_reversed {l : Launch} {g : xG} {b : xT} (N : Nat) (v1 : Int32) (a : xT)  {r : Int32} (e : f_X1_reversed N v1 a = some r) : Ev l g 0 yX1_reversed M_X1_reversed [.ref (xa g 1), .int v1] (a, b) (some (.int r), (a, b)) := by
  unfold f_X1_reversed at e
  refine Ev.of 2 (L0 := [some (.ref (xa g 1)), some (.int v1), none, none]) (by decide) rfl (Nat.le_of_ble_eq_true rfl) rfl ?_
  refine r_iconst DX1_reversed_0 (v := 0) (by decide) ?_
  refine r_istore_n (L' := [some (.ref (xa g 1)), some (.int v1), some (.int 0), none]) DX1_reversed_1 (i := 2) rfl (by decide) rfl rfl ?_
  refine r_iconst DX1_reversed_2 (v := 0) (by decide) ?_
  refine r_istore_n (L' := [some (.ref (xa g 1)), some (.int v1), some (.int 0), some (.int 0)]) DX1_reversed_3 (i := 3) rfl (by decide) rfl rfl ?_
  obtain ⟨q4, e4, e⟩ := x_bnd e
  refine lp_X1_reversed_L4 v1 a N 0 0 q4 e4 ?_
  refine r_iload_n DX1_reversed_28 (i := 2) rfl rfl ?_
  obtain rfl := Option.some.inj e
  exact r_iret DX1_reversed_29 rfl rfl

set_option maxRecDepth 100000 in
set_option maxHeartbeats 4000000 in
theorem t_X1_witnessLost {l : Launch} {g : xG} {b : xT} (N : Nat) (v1 : Int32) (v2 : Int32) (a : xT)  {r : Int32} (e : f_X1_witnessLost N v1 v2 a = some r) : Ev l g 3 yX1_witnessLost M_X1_witnessLost [.ref (xa g 1), .int v1, .int v2] (a, b) (some (.int r), (a, b)) := by
  unfold f_X1_witnessLost at e
  refine Ev.of 0 (L0 := [some (.ref (xa g 1)), some (.int v1), some (.int v2)]) (by decide) rfl (Nat.le_of_ble_eq_true rfl) rfl ?_
  refine r_aload_n DX1_witnessLost_0 (i := 0) rfl rfl ?_
  refine r_iload_n DX1_witnessLost_1 (i := 1) rfl rfl ?_
  refine r_aload_n DX1_witnessLost_2 (i := 0) rfl rfl ?_
  refine r_iload_n DX1_witnessLost_3 (i := 1) rfl rfl ?_
  obtain ⟨q4, e4, e⟩ := x_bnd e
  refine r_callV1 (As := [.int v1]) (S := [.int v1, .ref (xa g 1)]) DX1_witnessLost_4 C_X1_42 (ci := 1) rfl rfl e_1 (by decide) (by decide) (Nat.le_of_ble_eq_true rfl) (t_X1_reversed N v1 a e4) rfl ?_
  refine r_iload_n DX1_witnessLost_7 (i := 2) rfl rfl ?_
  obtain ⟨q8, e8, e⟩ := x_bnd e
  refine r_callV1 (As := [.int v1, .int q4, .int v2]) (S := []) DX1_witnessLost_8 C_X1_51 (ci := 1) rfl rfl e_1 (by decide) (by decide) (Nat.le_of_ble_eq_true rfl) (t_X1_alike v1 q4 v2 a e8) rfl ?_
  refine r_if_ne DX1_witnessLost_11 (tgt := 16) (by decide) (fun c11 => ?_) (fun c11 => ?_)
  · replace e := x_iff c11 e
    refine r_aload_n DX1_witnessLost_16 (i := 0) rfl rfl ?_
    refine r_get (v := .int (gI a 1)) DX1_witnessLost_17 F_X1_15 e_1 rfl ?_
    refine r_if_ne DX1_witnessLost_20 (tgt := 29) (by decide) (fun c20 => ?_) (fun c20 => ?_)
    · replace e := x_iff c20 e
      refine r_iconst DX1_witnessLost_29 (v := 0) (by decide) ?_
      obtain rfl := Option.some.inj e
      exact r_iret DX1_witnessLost_30 rfl rfl
    · replace e := x_ift c20 e
      refine r_iload_n DX1_witnessLost_23 (i := 1) rfl rfl ?_
      refine r_iload_n DX1_witnessLost_24 (i := 2) rfl rfl ?_
      refine r_ixor DX1_witnessLost_25 ?_
      refine r_goto DX1_witnessLost_26 (tgt := 30) (by decide) ?_
      obtain rfl := Option.some.inj e
      exact r_iret DX1_witnessLost_30 rfl rfl
  · replace e := x_ift c11 e
    refine r_iconst DX1_witnessLost_14 (v := (-1)) (by decide) ?_
    obtain rfl := Option.some.inj e
    exact r_iret DX1_witnessLost_15 rfl rfl

set_option maxRecDepth 100000 in
set_option maxHeartbeats 4000000 in
theorem t_X1_canEnd {l : Launch} {g : xG} {b : xT} (v1 : Int32) (v2 : Int32) (v3 : Int32) (v4 : Int32) (a : xT)  {r : Int32} (e : f_X1_canEnd v1 v2 v3 v4 a = some r) : Ev l g 1 yX1_canEnd M_X1_canEnd [.ref (xa g 1), .int v1, .int v2, .int v3, .int v4] (a, b) (some (.int r), (a, b)) := by
  unfold f_X1_canEnd at e
  refine Ev.of 4 (L0 := [some (.ref (xa g 1)), some (.int v1), some (.int v2), some (.int v3), some (.int v4), none, none, none, none]) (by decide) rfl (Nat.le_of_ble_eq_true rfl) rfl ?_
  refine r_aload_n DX1_canEnd_0 (i := 0) rfl rfl ?_
  refine r_get (v := .int (gI a 2)) DX1_canEnd_1 F_X1_18 e_1 rfl ?_
  refine r_iload_n DX1_canEnd_4 (i := 1) rfl rfl ?_
  refine r_iload DX1_canEnd_5 rfl ?_
  refine r_iand DX1_canEnd_7 ?_
  refine r_iload_n DX1_canEnd_8 (i := 3) rfl rfl ?_
  refine r_iconst DX1_canEnd_9 (v := (-1)) (by decide) ?_
  refine r_ixor DX1_canEnd_10 ?_
  refine r_iand DX1_canEnd_11 ?_
  obtain ⟨q12, e12, e⟩ := x_bnd e
  refine r_callS1 (As := [.int ((v1 &&& v4) &&& (v3 ^^^ (-1)))]) (S := [.int (gI a 2)]) DX1_canEnd_12 C_X1_32 (by decide) (by decide) (Nat.le_of_ble_eq_true rfl) (t_J6_bitCount_0f7a4 ((v1 &&& v4) &&& (v3 ^^^ (-1))) e12) rfl ?_
  refine r_isub DX1_canEnd_15 ?_
  refine r_istore (L' := [some (.ref (xa g 1)), some (.int v1), some (.int v2), some (.int v3), some (.int v4), some (.int ((gI a 2) - q12)), none, none, none]) DX1_canEnd_16 (by decide) rfl rfl ?_
  refine r_aload_n DX1_canEnd_18 (i := 0) rfl rfl ?_
  refine r_get (v := .int (gI a 2)) DX1_canEnd_19 F_X1_18 e_1 rfl ?_
  refine r_iload_n DX1_canEnd_22 (i := 2) rfl rfl ?_
  refine r_iload DX1_canEnd_23 rfl ?_
  refine r_iand DX1_canEnd_25 ?_
  refine r_iload_n DX1_canEnd_26 (i := 3) rfl rfl ?_
  refine r_iconst DX1_canEnd_27 (v := (-1)) (by decide) ?_
  refine r_ixor DX1_canEnd_28 ?_
  refine r_iand DX1_canEnd_29 ?_
  obtain ⟨q30, e30, e⟩ := x_bnd e
  refine r_callS1 (As := [.int ((v2 &&& v4) &&& (v3 ^^^ (-1)))]) (S := [.int (gI a 2)]) DX1_canEnd_30 C_X1_32 (by decide) (by decide) (Nat.le_of_ble_eq_true rfl) (t_J6_bitCount_0f7a4 ((v2 &&& v4) &&& (v3 ^^^ (-1))) e30) rfl ?_
  refine r_isub DX1_canEnd_33 ?_
  refine r_istore (L' := [some (.ref (xa g 1)), some (.int v1), some (.int v2), some (.int v3), some (.int v4), some (.int ((gI a 2) - q12)), some (.int ((gI a 2) - q30)), none, none]) DX1_canEnd_34 (by decide) rfl rfl ?_
  refine r_aload_n DX1_canEnd_36 (i := 0) rfl rfl ?_
  obtain ⟨q37, e37, e⟩ := x_bnd e
  refine r_callV1 (As := []) (S := []) DX1_canEnd_37 C_X1_45 (ci := 1) rfl rfl e_1 (by decide) (by decide) (Nat.le_of_ble_eq_true rfl) (t_X1_extra a e37) rfl ?_
  refine r_iload_n DX1_canEnd_40 (i := 3) rfl rfl ?_
  refine r_iload_n DX1_canEnd_41 (i := 1) rfl rfl ?_
  refine r_iconst DX1_canEnd_42 (v := (-1)) (by decide) ?_
  refine r_ixor DX1_canEnd_43 ?_
  refine r_iand DX1_canEnd_44 ?_
  obtain ⟨q45, e45, e⟩ := x_bnd e
  refine r_callS1 (As := [.int (v3 &&& (v1 ^^^ (-1)))]) (S := [.int q37]) DX1_canEnd_45 C_X1_32 (by decide) (by decide) (Nat.le_of_ble_eq_true rfl) (t_J6_bitCount_0f7a4 (v3 &&& (v1 ^^^ (-1))) e45) rfl ?_
  refine r_isub DX1_canEnd_48 ?_
  refine r_istore (L' := [some (.ref (xa g 1)), some (.int v1), some (.int v2), some (.int v3), some (.int v4), some (.int ((gI a 2) - q12)), some (.int ((gI a 2) - q30)), some (.int (q37 - q45)), none]) DX1_canEnd_49 (by decide) rfl rfl ?_
  refine r_aload_n DX1_canEnd_51 (i := 0) rfl rfl ?_
  obtain ⟨q52, e52, e⟩ := x_bnd e
  refine r_callV1 (As := []) (S := []) DX1_canEnd_52 C_X1_45 (ci := 1) rfl rfl e_1 (by decide) (by decide) (Nat.le_of_ble_eq_true rfl) (t_X1_extra a e52) rfl ?_
  refine r_iload_n DX1_canEnd_55 (i := 3) rfl rfl ?_
  refine r_iload_n DX1_canEnd_56 (i := 2) rfl rfl ?_
  refine r_iconst DX1_canEnd_57 (v := (-1)) (by decide) ?_
  refine r_ixor DX1_canEnd_58 ?_
  refine r_iand DX1_canEnd_59 ?_
  obtain ⟨q60, e60, e⟩ := x_bnd e
  refine r_callS1 (As := [.int (v3 &&& (v2 ^^^ (-1)))]) (S := [.int q52]) DX1_canEnd_60 C_X1_32 (by decide) (by decide) (Nat.le_of_ble_eq_true rfl) (t_J6_bitCount_0f7a4 (v3 &&& (v2 ^^^ (-1))) e60) rfl ?_
  refine r_isub DX1_canEnd_63 ?_
  refine r_istore (L' := [some (.ref (xa g 1)), some (.int v1), some (.int v2), some (.int v3), some (.int v4), some (.int ((gI a 2) - q12)), some (.int ((gI a 2) - q30)), some (.int (q37 - q45)), some (.int (q52 - q60))]) DX1_canEnd_64 (by decide) rfl rfl ?_
  refine r_iload DX1_canEnd_66 rfl ?_
  refine r_if_lt DX1_canEnd_68 (tgt := 132) (by decide) (fun c68 => ?_) (fun c68 => ?_)
  · replace e := x_ift c68 e
    refine r_iconst DX1_canEnd_132 (v := 0) (by decide) ?_
    obtain rfl := Option.some.inj e
    exact r_zret DX1_canEnd_133 rfl (by decide) rfl
  · replace e := x_iff c68 e
    refine r_iload DX1_canEnd_71 rfl ?_
    refine r_if_lt DX1_canEnd_73 (tgt := 132) (by decide) (fun c73 => ?_) (fun c73 => ?_)
    · replace e := x_ift c73 e
      refine r_iconst DX1_canEnd_132 (v := 0) (by decide) ?_
      obtain rfl := Option.some.inj e
      exact r_zret DX1_canEnd_133 rfl (by decide) rfl
    · replace e := x_iff c73 e
      refine r_iload DX1_canEnd_76 rfl ?_
      refine r_if_lt DX1_canEnd_78 (tgt := 132) (by decide) (fun c78 => ?_) (fun c78 => ?_)
      · replace e := x_ift c78 e
        refine r_iconst DX1_canEnd_132 (v := 0) (by decide) ?_
        obtain rfl := Option.some.inj e
        exact r_zret DX1_canEnd_133 rfl (by decide) rfl
      · replace e := x_iff c78 e
        refine r_iload DX1_canEnd_81 rfl ?_
        refine r_if_lt DX1_canEnd_83 (tgt := 132) (by decide) (fun c83 => ?_) (fun c83 => ?_)
        · replace e := x_ift c83 e
          refine r_iconst DX1_canEnd_132 (v := 0) (by decide) ?_
          obtain rfl := Option.some.inj e
          exact r_zret DX1_canEnd_133 rfl (by decide) rfl
        · replace e := x_iff c83 e
          refine r_iload_n DX1_canEnd_86 (i := 1) rfl rfl ?_
          refine r_iload_n DX1_canEnd_87 (i := 2) rfl rfl ?_
          refine r_iconst DX1_canEnd_88 (v := (-1)) (by decide) ?_
          refine r_ixor DX1_canEnd_89 ?_
          refine r_iand DX1_canEnd_90 ?_
          refine r_iload DX1_canEnd_91 rfl ?_
          refine r_iconst DX1_canEnd_93 (v := (-1)) (by decide) ?_
          refine r_ixor DX1_canEnd_94 ?_
          refine r_iand DX1_canEnd_95 ?_
          obtain ⟨q96, e96, e⟩ := x_bnd e
          refine r_callS1 (As := [.int ((v1 &&& (v2 ^^^ (-1))) &&& (v4 ^^^ (-1)))]) (S := []) DX1_canEnd_96 C_X1_32 (by decide) (by decide) (Nat.le_of_ble_eq_true rfl) (t_J6_bitCount_0f7a4 ((v1 &&& (v2 ^^^ (-1))) &&& (v4 ^^^ (-1))) e96) rfl ?_
          refine r_iload DX1_canEnd_99 rfl ?_
          refine r_iload DX1_canEnd_101 rfl ?_
          refine r_iadd DX1_canEnd_103 ?_
          refine r_icmp_gt DX1_canEnd_104 (tgt := 132) (by decide) (fun c104 => ?_) (fun c104 => ?_)
          · replace e := x_ift c104 e
            refine r_iconst DX1_canEnd_132 (v := 0) (by decide) ?_
            obtain rfl := Option.some.inj e
            exact r_zret DX1_canEnd_133 rfl (by decide) rfl
          · replace e := x_iff c104 e
            refine r_iload_n DX1_canEnd_107 (i := 2) rfl rfl ?_
            refine r_iload_n DX1_canEnd_108 (i := 1) rfl rfl ?_
            refine r_iconst DX1_canEnd_109 (v := (-1)) (by decide) ?_
            refine r_ixor DX1_canEnd_110 ?_
            refine r_iand DX1_canEnd_111 ?_
            refine r_iload DX1_canEnd_112 rfl ?_
            refine r_iconst DX1_canEnd_114 (v := (-1)) (by decide) ?_
            refine r_ixor DX1_canEnd_115 ?_
            refine r_iand DX1_canEnd_116 ?_
            obtain ⟨q117, e117, e⟩ := x_bnd e
            refine r_callS1 (As := [.int ((v2 &&& (v1 ^^^ (-1))) &&& (v4 ^^^ (-1)))]) (S := []) DX1_canEnd_117 C_X1_32 (by decide) (by decide) (Nat.le_of_ble_eq_true rfl) (t_J6_bitCount_0f7a4 ((v2 &&& (v1 ^^^ (-1))) &&& (v4 ^^^ (-1))) e117) rfl ?_
            refine r_iload DX1_canEnd_120 rfl ?_
            refine r_iload DX1_canEnd_122 rfl ?_
            refine r_iadd DX1_canEnd_124 ?_
            refine r_icmp_gt DX1_canEnd_125 (tgt := 132) (by decide) (fun c125 => ?_) (fun c125 => ?_)
            · replace e := x_ift c125 e
              refine r_iconst DX1_canEnd_132 (v := 0) (by decide) ?_
              obtain rfl := Option.some.inj e
              exact r_zret DX1_canEnd_133 rfl (by decide) rfl
            · replace e := x_iff c125 e
              refine r_iconst DX1_canEnd_128 (v := 1) (by decide) ?_
              refine r_goto DX1_canEnd_129 (tgt := 133) (by decide) ?_
              obtain rfl := Option.some.inj e
              exact r_zret DX1_canEnd_133 rfl (by decide) rfl

set_option maxRecDepth 100000 in
set_option maxHeartbeats 4000000 in
theorem lp_X1_leastSeen_L24 {l : Launch} {g : xG} {b : xT} {R : Option Value × xS} (v1 : Int32) (v2 : Int32) (a : xT) : ∀ (n : Nat) (v3 : Int32) (v4 : Int32) (v5 : Int32) (r : (Int32)), f_X1_leastSeen_L24 v1 v2 a n v3 v4 v5 = some r → Rx l g 2 M_X1_leastSeen 63 [none, none, none, some (.int r), none, none] [] (a, b) R → Rx l g 2 M_X1_leastSeen 24 [some (.ref (xa g 1)), some (.int v1), some (.int v2), some (.int v3), some (.int v4), some (.int v5)] [] (a, b) R := by
  intro n
  induction n with
  | zero => intro v3_ v4_ v5_ r_ e; cases e
  | succ n ih =>
    intro v3 v4 v5 r e K0
    rw [f_X1_leastSeen_L24] at e
    refine r_iload DX1_leastSeen_24 rfl ?_
    refine r_if_lt DX1_leastSeen_26 (tgt := 63) (by decide) (fun c26 => ?_) (fun c26 => ?_)
    · replace e := x_ift c26 e
      obtain rfl := Option.some.inj e
      refine r_mask (L' := [none, none, none, some (.int v3), none, none]) [false, false, false, true, false, false] rfl ?_
      exact K0
    · replace e := x_iff c26 e
      refine r_iload DX1_leastSeen_29 rfl ?_
      refine r_iconst DX1_leastSeen_31 (v := 1) (by decide) ?_
      refine r_iload DX1_leastSeen_32 rfl ?_
      refine r_ishl DX1_leastSeen_34 ?_
      refine r_ior DX1_leastSeen_35 ?_
      refine r_istore (L' := [some (.ref (xa g 1)), some (.int v1), some (.int v2), some (.int v3), some (.int (v4 ||| ((1 : Int32) <<< (v5 &&& 31)))), some (.int v5)]) DX1_leastSeen_36 (by decide) rfl rfl ?_
      refine r_aload_n DX1_leastSeen_38 (i := 0) rfl rfl ?_
      refine r_iload_n DX1_leastSeen_39 (i := 1) rfl rfl ?_
      refine r_iload_n DX1_leastSeen_40 (i := 2) rfl rfl ?_
      refine r_iload_n DX1_leastSeen_41 (i := 3) rfl rfl ?_
      refine r_iload DX1_leastSeen_42 rfl ?_
      obtain ⟨q44, e44, e⟩ := x_bnd e
      refine r_callV1 (As := [.int v1, .int v2, .int v3, .int (v4 ||| ((1 : Int32) <<< (v5 &&& 31)))]) (S := []) DX1_leastSeen_44 C_X1_70 (ci := 1) rfl rfl e_1 (by decide) (by decide) (Nat.le_of_ble_eq_true rfl) (t_X1_canEnd v1 v2 v3 (v4 ||| ((1 : Int32) <<< (v5 &&& 31))) a e44) rfl ?_
      refine r_if_ne DX1_leastSeen_47 (tgt := 57) (by decide) (fun c47 => ?_) (fun c47 => ?_)
      · replace e := x_iff c47 e
        refine r_iinc (L' := [some (.ref (xa g 1)), some (.int v1), some (.int v2), some (.int v3), some (.int (v4 ||| ((1 : Int32) <<< (v5 &&& 31)))), some (.int (v5 + (-1)))]) DX1_leastSeen_57 (x := v5) (v := (v5 + (-1))) rfl rfl (by decide) rfl rfl ?_
        refine r_goto DX1_leastSeen_60 (tgt := 24) (by decide) ?_
        exact ih _ _ _ _ e K0
      · replace e := x_ift c47 e
        refine r_iload_n DX1_leastSeen_50 (i := 3) rfl rfl ?_
        refine r_iconst DX1_leastSeen_51 (v := 1) (by decide) ?_
        refine r_iload DX1_leastSeen_52 rfl ?_
        refine r_ishl DX1_leastSeen_54 ?_
        refine r_ior DX1_leastSeen_55 ?_
        refine r_istore_n (L' := [some (.ref (xa g 1)), some (.int v1), some (.int v2), some (.int (v3 ||| ((1 : Int32) <<< (v5 &&& 31)))), some (.int (v4 ||| ((1 : Int32) <<< (v5 &&& 31)))), some (.int v5)]) DX1_leastSeen_56 (i := 3) rfl (by decide) rfl rfl ?_
        refine r_iinc (L' := [some (.ref (xa g 1)), some (.int v1), some (.int v2), some (.int (v3 ||| ((1 : Int32) <<< (v5 &&& 31)))), some (.int (v4 ||| ((1 : Int32) <<< (v5 &&& 31)))), some (.int (v5 + (-1)))]) DX1_leastSeen_57 (x := v5) (v := (v5 + (-1))) rfl rfl (by decide) rfl rfl ?_
        refine r_goto DX1_leastSeen_60 (tgt := 24) (by decide) ?_
        exact ih _ _ _ _ e K0

set_option maxRecDepth 100000 in
set_option maxHeartbeats 4000000 in
theorem t_X1_leastSeen {l : Launch} {g : xG} {b : xT} (N : Nat) (v1 : Int32) (v2 : Int32) (a : xT)  {r : Int32} (e : f_X1_leastSeen N v1 v2 a = some r) : Ev l g 2 yX1_leastSeen M_X1_leastSeen [.ref (xa g 1), .int v1, .int v2] (a, b) (some (.int r), (a, b)) := by
  unfold f_X1_leastSeen at e
  refine Ev.of 3 (L0 := [some (.ref (xa g 1)), some (.int v1), some (.int v2), none, none, none]) (by decide) rfl (Nat.le_of_ble_eq_true rfl) rfl ?_
  refine r_aload_n DX1_leastSeen_0 (i := 0) rfl rfl ?_
  refine r_iload_n DX1_leastSeen_1 (i := 1) rfl rfl ?_
  refine r_iload_n DX1_leastSeen_2 (i := 2) rfl rfl ?_
  obtain ⟨q3, e3, e⟩ := x_bnd e
  refine r_callV1 (As := [.int v1, .int v2]) (S := []) DX1_leastSeen_3 C_X1_48 (ci := 1) rfl rfl e_1 (by decide) (by decide) (Nat.le_of_ble_eq_true rfl) (t_X1_near v1 v2 a e3) rfl ?_
  refine r_if_ne DX1_leastSeen_6 (tgt := 11) (by decide) (fun c6 => ?_) (fun c6 => ?_)
  · replace e := x_iff c6 e
    refine r_iconst DX1_leastSeen_11 (v := 0) (by decide) ?_
    refine r_istore_n (L' := [some (.ref (xa g 1)), some (.int v1), some (.int v2), some (.int 0), none, none]) DX1_leastSeen_12 (i := 3) rfl (by decide) rfl rfl ?_
    refine r_iconst DX1_leastSeen_13 (v := 0) (by decide) ?_
    refine r_istore (L' := [some (.ref (xa g 1)), some (.int v1), some (.int v2), some (.int 0), some (.int 0), none]) DX1_leastSeen_14 (by decide) rfl rfl ?_
    refine r_aload_n DX1_leastSeen_16 (i := 0) rfl rfl ?_
    refine r_get (v := .int (gI a 0)) DX1_leastSeen_17 F_X1_9 e_1 rfl ?_
    refine r_iconst DX1_leastSeen_20 (v := 1) (by decide) ?_
    refine r_isub DX1_leastSeen_21 ?_
    refine r_istore (L' := [some (.ref (xa g 1)), some (.int v1), some (.int v2), some (.int 0), some (.int 0), some (.int ((gI a 0) - 1))]) DX1_leastSeen_22 (by decide) rfl rfl ?_
    obtain ⟨q24, e24, e⟩ := x_bnd e
    refine lp_X1_leastSeen_L24 v1 v2 a N 0 0 ((gI a 0) - 1) q24 e24 ?_
    refine r_iload_n DX1_leastSeen_63 (i := 3) rfl rfl ?_
    obtain rfl := Option.some.inj e
    exact r_iret DX1_leastSeen_64 rfl rfl
  · replace e := x_ift c6 e
    refine r_iconst DX1_leastSeen_9 (v := (-1)) (by decide) ?_
    obtain rfl := Option.some.inj e
    exact r_iret DX1_leastSeen_10 rfl rfl

set_option maxRecDepth 100000 in
set_option maxHeartbeats 4000000 in
theorem t_X1_lesser {l : Launch} {g : xG} {s : xS} (v0 : Int32) (v1 : Int32)  {r : Int32} (e : f_X1_lesser v0 v1 = some r) : Ev l g 1 yX1_lesser M_X1_lesser [.int v0, .int v1] s (some (.int r), s) := by
  unfold f_X1_lesser at e
  refine Ev.of 0 (L0 := [some (.int v0), some (.int v1)]) (by decide) rfl (Nat.le_of_ble_eq_true rfl) rfl ?_
  refine r_iload_n DX1_lesser_0 (i := 0) rfl rfl ?_
  refine r_iconst DX1_lesser_1 (v := (-1)) (by decide) ?_
  refine r_icmp_eq DX1_lesser_2 (tgt := 10) (by decide) (fun c2 => ?_) (fun c2 => ?_)
  · replace e := x_ift c2 e
    refine r_iload_n DX1_lesser_10 (i := 0) rfl rfl ?_
    refine r_iload_n DX1_lesser_11 (i := 1) rfl rfl ?_
    refine r_mmax DX1_lesser_12 C_X1_62 (by decide) (Nat.le_of_ble_eq_true rfl) ?_
    obtain rfl := Option.some.inj e
    exact r_iret DX1_lesser_15 rfl rfl
  · replace e := x_iff c2 e
    refine r_iload_n DX1_lesser_5 (i := 1) rfl rfl ?_
    refine r_iconst DX1_lesser_6 (v := (-1)) (by decide) ?_
    refine r_icmp_ne DX1_lesser_7 (tgt := 16) (by decide) (fun c7 => ?_) (fun c7 => ?_)
    · replace e := x_iff c7 e
      refine r_iload_n DX1_lesser_16 (i := 0) rfl rfl ?_
      refine r_iload_n DX1_lesser_17 (i := 1) rfl rfl ?_
      refine r_mmin DX1_lesser_18 C_X1_67 (by decide) (Nat.le_of_ble_eq_true rfl) ?_
      obtain rfl := Option.some.inj e
      exact r_iret DX1_lesser_21 rfl rfl
    · replace e := x_ift c7 e
      refine r_iload_n DX1_lesser_10 (i := 0) rfl rfl ?_
      refine r_iload_n DX1_lesser_11 (i := 1) rfl rfl ?_
      refine r_mmax DX1_lesser_12 C_X1_62 (by decide) (Nat.le_of_ble_eq_true rfl) ?_
      obtain rfl := Option.some.inj e
      exact r_iret DX1_lesser_15 rfl rfl

set_option maxRecDepth 100000 in
set_option maxHeartbeats 4000000 in
theorem t_X1_witnessSeen {l : Launch} {g : xG} {b : xT} (N : Nat) (v1 : Int32) (v2 : Int32) (a : xT)  {r : Int32} (e : f_X1_witnessSeen N v1 v2 a = some r) : Ev l g 3 yX1_witnessSeen M_X1_witnessSeen [.ref (xa g 1), .int v1, .int v2] (a, b) (some (.int r), (a, b)) := by
  unfold f_X1_witnessSeen at e
  refine Ev.of 3 (L0 := [some (.ref (xa g 1)), some (.int v1), some (.int v2), none, none, none]) (by decide) rfl (Nat.le_of_ble_eq_true rfl) rfl ?_
  refine r_aload_n DX1_witnessSeen_0 (i := 0) rfl rfl ?_
  refine r_get (v := .int (gI a 1)) DX1_witnessSeen_1 F_X1_15 e_1 rfl ?_
  refine r_if_ne DX1_witnessSeen_4 (tgt := 28) (by decide) (fun c4 => ?_) (fun c4 => ?_)
  · replace e := x_iff c4 e
    refine r_aload_n DX1_witnessSeen_28 (i := 0) rfl rfl ?_
    refine r_iload_n DX1_witnessSeen_29 (i := 1) rfl rfl ?_
    refine r_iload_n DX1_witnessSeen_30 (i := 2) rfl rfl ?_
    obtain ⟨q31, e31, e⟩ := x_bnd e
    refine r_callV1 (As := [.int v1, .int v2]) (S := []) DX1_witnessSeen_31 C_X1_55 (ci := 1) rfl rfl e_1 (by decide) (by decide) (Nat.le_of_ble_eq_true rfl) (t_X1_leastSeen N v1 v2 a e31) rfl ?_
    refine r_istore_n (L' := [some (.ref (xa g 1)), some (.int v1), some (.int v2), some (.int q31), none, none]) DX1_witnessSeen_34 (i := 3) rfl (by decide) rfl rfl ?_
    refine r_aload_n DX1_witnessSeen_35 (i := 0) rfl rfl ?_
    refine r_get (v := .int (gI a 1)) DX1_witnessSeen_36 F_X1_15 e_1 rfl ?_
    refine r_iconst DX1_witnessSeen_39 (v := 3) (by decide) ?_
    refine r_icmp_ne DX1_witnessSeen_40 (tgt := 94) (by decide) (fun c40 => ?_) (fun c40 => ?_)
    · replace e := x_iff c40 e
      refine r_iload_n DX1_witnessSeen_94 (i := 3) rfl rfl ?_
      obtain rfl := Option.some.inj e
      exact r_iret DX1_witnessSeen_95 rfl rfl
    · replace e := x_ift c40 e
      refine r_aload_n DX1_witnessSeen_43 (i := 0) rfl rfl ?_
      refine r_iload_n DX1_witnessSeen_44 (i := 1) rfl rfl ?_
      obtain ⟨q45, e45, e⟩ := x_bnd e
      refine r_callV1 (As := [.int v1]) (S := []) DX1_witnessSeen_45 C_X1_42 (ci := 1) rfl rfl e_1 (by decide) (by decide) (Nat.le_of_ble_eq_true rfl) (t_X1_reversed N v1 a e45) rfl ?_
      refine r_istore (L' := [some (.ref (xa g 1)), some (.int v1), some (.int v2), some (.int q31), some (.int q45), none]) DX1_witnessSeen_48 (by decide) rfl rfl ?_
      refine r_aload_n DX1_witnessSeen_50 (i := 0) rfl rfl ?_
      refine r_iload_n DX1_witnessSeen_51 (i := 2) rfl rfl ?_
      obtain ⟨q52, e52, e⟩ := x_bnd e
      refine r_callV1 (As := [.int v2]) (S := []) DX1_witnessSeen_52 C_X1_42 (ci := 1) rfl rfl e_1 (by decide) (by decide) (Nat.le_of_ble_eq_true rfl) (t_X1_reversed N v2 a e52) rfl ?_
      refine r_istore (L' := [some (.ref (xa g 1)), some (.int v1), some (.int v2), some (.int q31), some (.int q45), some (.int q52)]) DX1_witnessSeen_55 (by decide) rfl rfl ?_
      refine r_iload_n DX1_witnessSeen_57 (i := 3) rfl rfl ?_
      refine r_aload_n DX1_witnessSeen_58 (i := 0) rfl rfl ?_
      refine r_iload DX1_witnessSeen_59 rfl ?_
      refine r_iload_n DX1_witnessSeen_61 (i := 2) rfl rfl ?_
      obtain ⟨q62, e62, e⟩ := x_bnd e
      refine r_callV1 (As := [.int q45, .int v2]) (S := [.int q31]) DX1_witnessSeen_62 C_X1_55 (ci := 1) rfl rfl e_1 (by decide) (by decide) (Nat.le_of_ble_eq_true rfl) (t_X1_leastSeen N q45 v2 a e62) rfl ?_
      obtain ⟨q65, e65, e⟩ := x_bnd e
      refine r_callS1 (As := [.int q31, .int q62]) (S := []) DX1_witnessSeen_65 C_X1_59 (by decide) (by decide) (Nat.le_of_ble_eq_true rfl) (t_X1_lesser q31 q62 e65) rfl ?_
      refine r_istore_n (L' := [some (.ref (xa g 1)), some (.int v1), some (.int v2), some (.int q65), some (.int q45), some (.int q52)]) DX1_witnessSeen_68 (i := 3) rfl (by decide) rfl rfl ?_
      refine r_iload_n DX1_witnessSeen_69 (i := 3) rfl rfl ?_
      refine r_aload_n DX1_witnessSeen_70 (i := 0) rfl rfl ?_
      refine r_iload_n DX1_witnessSeen_71 (i := 1) rfl rfl ?_
      refine r_iload DX1_witnessSeen_72 rfl ?_
      obtain ⟨q74, e74, e⟩ := x_bnd e
      refine r_callV1 (As := [.int v1, .int q52]) (S := [.int q65]) DX1_witnessSeen_74 C_X1_55 (ci := 1) rfl rfl e_1 (by decide) (by decide) (Nat.le_of_ble_eq_true rfl) (t_X1_leastSeen N v1 q52 a e74) rfl ?_
      obtain ⟨q77, e77, e⟩ := x_bnd e
      refine r_callS1 (As := [.int q65, .int q74]) (S := []) DX1_witnessSeen_77 C_X1_59 (by decide) (by decide) (Nat.le_of_ble_eq_true rfl) (t_X1_lesser q65 q74 e77) rfl ?_
      refine r_istore_n (L' := [some (.ref (xa g 1)), some (.int v1), some (.int v2), some (.int q77), some (.int q45), some (.int q52)]) DX1_witnessSeen_80 (i := 3) rfl (by decide) rfl rfl ?_
      refine r_iload_n DX1_witnessSeen_81 (i := 3) rfl rfl ?_
      refine r_aload_n DX1_witnessSeen_82 (i := 0) rfl rfl ?_
      refine r_iload DX1_witnessSeen_83 rfl ?_
      refine r_iload DX1_witnessSeen_85 rfl ?_
      obtain ⟨q87, e87, e⟩ := x_bnd e
      refine r_callV1 (As := [.int q45, .int q52]) (S := [.int q77]) DX1_witnessSeen_87 C_X1_55 (ci := 1) rfl rfl e_1 (by decide) (by decide) (Nat.le_of_ble_eq_true rfl) (t_X1_leastSeen N q45 q52 a e87) rfl ?_
      obtain ⟨q90, e90, e⟩ := x_bnd e
      refine r_callS1 (As := [.int q77, .int q87]) (S := []) DX1_witnessSeen_90 C_X1_59 (by decide) (by decide) (Nat.le_of_ble_eq_true rfl) (t_X1_lesser q77 q87 e90) rfl ?_
      refine r_istore_n (L' := [some (.ref (xa g 1)), some (.int v1), some (.int v2), some (.int q90), some (.int q45), some (.int q52)]) DX1_witnessSeen_93 (i := 3) rfl (by decide) rfl rfl ?_
      refine r_iload_n DX1_witnessSeen_94 (i := 3) rfl rfl ?_
      obtain rfl := Option.some.inj e
      exact r_iret DX1_witnessSeen_95 rfl rfl
  · replace e := x_ift c4 e
    refine r_iload_n DX1_witnessSeen_7 (i := 1) rfl rfl ?_
    refine r_iload_n DX1_witnessSeen_8 (i := 2) rfl rfl ?_
    refine r_ixor DX1_witnessSeen_9 ?_
    obtain ⟨q10, e10, e⟩ := x_bnd e
    refine r_callS1 (As := [.int (v1 ^^^ v2)]) (S := []) DX1_witnessSeen_10 C_X1_32 (by decide) (by decide) (Nat.le_of_ble_eq_true rfl) (t_J6_bitCount_0f7a4 (v1 ^^^ v2) e10) rfl ?_
    refine r_aload_n DX1_witnessSeen_13 (i := 0) rfl rfl ?_
    refine r_get (v := .int (gI a 2)) DX1_witnessSeen_14 F_X1_18 e_1 rfl ?_
    refine r_icmp_gt DX1_witnessSeen_17 (tgt := 26) (by decide) (fun c17 => ?_) (fun c17 => ?_)
    · replace e := x_ift c17 e
      refine r_iconst DX1_witnessSeen_26 (v := (-1)) (by decide) ?_
      obtain rfl := Option.some.inj e
      exact r_iret DX1_witnessSeen_27 rfl rfl
    · replace e := x_iff c17 e
      refine r_iload_n DX1_witnessSeen_20 (i := 1) rfl rfl ?_
      refine r_iload_n DX1_witnessSeen_21 (i := 2) rfl rfl ?_
      refine r_iand DX1_witnessSeen_22 ?_
      refine r_goto DX1_witnessSeen_23 (tgt := 27) (by decide) ?_
      obtain rfl := Option.some.inj e
      exact r_iret DX1_witnessSeen_27 rfl rfl

set_option maxRecDepth 100000 in
set_option maxHeartbeats 4000000 in
theorem lp_X1_choose_L15 {l : Launch} {g : xG} {s : xS} {R : Option Value × xS} (v0 : Int32) (v1 : Int32) : ∀ (n : Nat) (v2 : Int32) (v3 : Int32) (r : (Int32)), f_X1_choose_L15 v0 v1 n v2 v3 = some r → Rx l g 0 M_X1_choose 36 [none, none, some (.int r), none] [] s R → Rx l g 0 M_X1_choose 15 [some (.int v0), some (.int v1), some (.int v2), some (.int v3)] [] s R := by
  intro n
  induction n with
  | zero => intro v2_ v3_ r_ e; cases e
  | succ n ih =>
    intro v2 v3 r e K0
    rw [f_X1_choose_L15] at e
    refine r_iload_n DX1_choose_15 (i := 3) rfl rfl ?_
    refine r_iload_n DX1_choose_16 (i := 1) rfl rfl ?_
    refine r_icmp_ge DX1_choose_17 (tgt := 36) (by decide) (fun c17 => ?_) (fun c17 => ?_)
    · replace e := x_ift c17 e
      obtain rfl := Option.some.inj e
      refine r_mask (L' := [none, none, some (.int v2), none]) [false, false, true, false] rfl ?_
      exact K0
    · replace e := x_iff c17 e
      refine r_iload_n DX1_choose_20 (i := 2) rfl rfl ?_
      refine r_iload_n DX1_choose_21 (i := 0) rfl rfl ?_
      refine r_iload_n DX1_choose_22 (i := 3) rfl rfl ?_
      refine r_isub DX1_choose_23 ?_
      refine r_imul DX1_choose_24 ?_
      refine r_iload_n DX1_choose_25 (i := 3) rfl rfl ?_
      refine r_iconst DX1_choose_26 (v := 1) (by decide) ?_
      refine r_iadd DX1_choose_27 ?_
      obtain ⟨c28, e⟩ := x_grd e
      refine r_idiv DX1_choose_28 c28 ?_
      refine r_istore_n (L' := [some (.int v0), some (.int v1), some (.int ((v2 * (v0 - v3)) / (v3 + 1))), some (.int v3)]) DX1_choose_29 (i := 2) rfl (by decide) rfl rfl ?_
      refine r_iinc (L' := [some (.int v0), some (.int v1), some (.int ((v2 * (v0 - v3)) / (v3 + 1))), some (.int (v3 + 1))]) DX1_choose_30 (x := v3) (v := (v3 + 1)) rfl rfl (by decide) rfl rfl ?_
      refine r_goto DX1_choose_33 (tgt := 15) (by decide) ?_
      exact ih _ _ _ e K0

set_option maxRecDepth 100000 in
set_option maxHeartbeats 4000000 in
theorem t_X1_choose {l : Launch} {g : xG} {s : xS} (N : Nat) (v0 : Int32) (v1 : Int32)  {r : Int32} (e : f_X1_choose N v0 v1 = some r) : Ev l g 0 yX1_choose M_X1_choose [.int v0, .int v1] s (some (.int r), s) := by
  unfold f_X1_choose at e
  refine Ev.of 2 (L0 := [some (.int v0), some (.int v1), none, none]) (by decide) rfl (Nat.le_of_ble_eq_true rfl) rfl ?_
  refine r_iload_n DX1_choose_0 (i := 1) rfl rfl ?_
  refine r_if_lt DX1_choose_1 (tgt := 9) (by decide) (fun c1 => ?_) (fun c1 => ?_)
  · replace e := x_ift c1 e
    refine r_iconst DX1_choose_9 (v := 0) (by decide) ?_
    obtain rfl := Option.some.inj e
    exact r_iret DX1_choose_10 rfl rfl
  · replace e := x_iff c1 e
    refine r_iload_n DX1_choose_4 (i := 1) rfl rfl ?_
    refine r_iload_n DX1_choose_5 (i := 0) rfl rfl ?_
    refine r_icmp_le DX1_choose_6 (tgt := 11) (by decide) (fun c6 => ?_) (fun c6 => ?_)
    · replace e := x_ift c6 e
      refine r_iconst DX1_choose_11 (v := 1) (by decide) ?_
      refine r_istore_n (L' := [some (.int v0), some (.int v1), some (.int 1), none]) DX1_choose_12 (i := 2) rfl (by decide) rfl rfl ?_
      refine r_iconst DX1_choose_13 (v := 0) (by decide) ?_
      refine r_istore_n (L' := [some (.int v0), some (.int v1), some (.int 1), some (.int 0)]) DX1_choose_14 (i := 3) rfl (by decide) rfl rfl ?_
      obtain ⟨q15, e15, e⟩ := x_bnd e
      refine lp_X1_choose_L15 v0 v1 N 1 0 q15 e15 ?_
      refine r_iload_n DX1_choose_36 (i := 2) rfl rfl ?_
      obtain rfl := Option.some.inj e
      exact r_iret DX1_choose_37 rfl rfl
    · replace e := x_iff c6 e
      refine r_iconst DX1_choose_9 (v := 0) (by decide) ?_
      obtain rfl := Option.some.inj e
      exact r_iret DX1_choose_10 rfl rfl

set_option maxRecDepth 100000 in
set_option maxHeartbeats 4000000 in
theorem lp_X1_allSights_L18 {l : Launch} {g : xG} {b : xT} {R : Option Value × xS} (N : Nat) (a : xT) : ∀ (n : Nat) (v1 : Int32) (v2 : Int32) (r : (Int32)), f_X1_allSights_L18 N a n v1 v2 = some r → Rx l g 1 M_X1_allSights 58 [none, some (.int r), none] [] (a, b) R → Rx l g 1 M_X1_allSights 18 [some (.ref (xa g 1)), some (.int v1), some (.int v2)] [] (a, b) R := by
  intro n
  induction n with
  | zero => intro v1_ v2_ r_ e; cases e
  | succ n ih =>
    intro v1 v2 r e K0
    rw [f_X1_allSights_L18] at e
    refine r_iload_n DX1_allSights_18 (i := 2) rfl rfl ?_
    refine r_aload_n DX1_allSights_19 (i := 0) rfl rfl ?_
    refine r_get (v := .int (gI a 2)) DX1_allSights_20 F_X1_18 e_1 rfl ?_
    refine r_icmp_gt DX1_allSights_23 (tgt := 58) (by decide) (fun c23 => ?_) (fun c23 => ?_)
    · replace e := x_ift c23 e
      obtain rfl := Option.some.inj e
      refine r_mask (L' := [none, some (.int v1), none]) [false, true, false] rfl ?_
      exact K0
    · replace e := x_iff c23 e
      refine r_iload_n DX1_allSights_26 (i := 2) rfl rfl ?_
      refine r_aload_n DX1_allSights_27 (i := 0) rfl rfl ?_
      refine r_get (v := .int (gI a 0)) DX1_allSights_28 F_X1_9 e_1 rfl ?_
      refine r_icmp_gt DX1_allSights_31 (tgt := 58) (by decide) (fun c31 => ?_) (fun c31 => ?_)
      · replace e := x_ift c31 e
        obtain rfl := Option.some.inj e
        refine r_mask (L' := [none, some (.int v1), none]) [false, true, false] rfl ?_
        exact K0
      · replace e := x_iff c31 e
        refine r_iload_n DX1_allSights_34 (i := 1) rfl rfl ?_
        refine r_aload_n DX1_allSights_35 (i := 0) rfl rfl ?_
        refine r_get (v := .int (gI a 0)) DX1_allSights_36 F_X1_9 e_1 rfl ?_
        refine r_iload_n DX1_allSights_39 (i := 2) rfl rfl ?_
        obtain ⟨q40, e40, e⟩ := x_bnd e
        refine r_callS1 (As := [.int (gI a 0), .int v2]) (S := [.int v1]) DX1_allSights_40 C_X1_83 (by decide) (by decide) (Nat.le_of_ble_eq_true rfl) (t_X1_choose N (gI a 0) v2 e40) rfl ?_
        refine r_aload_n DX1_allSights_43 (i := 0) rfl rfl ?_
        refine r_get (v := .int (gI a 0)) DX1_allSights_44 F_X1_9 e_1 rfl ?_
        refine r_iload_n DX1_allSights_47 (i := 2) rfl rfl ?_
        refine r_isub DX1_allSights_48 ?_
        refine r_ishl DX1_allSights_49 ?_
        refine r_iadd DX1_allSights_50 ?_
        refine r_istore_n (L' := [some (.ref (xa g 1)), some (.int (v1 + (q40 <<< (((gI a 0) - v2) &&& 31)))), some (.int v2)]) DX1_allSights_51 (i := 1) rfl (by decide) rfl rfl ?_
        refine r_iinc (L' := [some (.ref (xa g 1)), some (.int (v1 + (q40 <<< (((gI a 0) - v2) &&& 31)))), some (.int (v2 + 1))]) DX1_allSights_52 (x := v2) (v := (v2 + 1)) rfl rfl (by decide) rfl rfl ?_
        refine r_goto DX1_allSights_55 (tgt := 18) (by decide) ?_
        exact ih _ _ _ e K0

set_option maxRecDepth 100000 in
set_option maxHeartbeats 4000000 in
theorem t_X1_allSights {l : Launch} {g : xG} {b : xT} (N : Nat) (a : xT)  {r : Int32} (e : f_X1_allSights N a = some r) : Ev l g 1 yX1_allSights M_X1_allSights [.ref (xa g 1)] (a, b) (some (.int r), (a, b)) := by
  unfold f_X1_allSights at e
  refine Ev.of 2 (L0 := [some (.ref (xa g 1)), none, none]) (by decide) rfl (Nat.le_of_ble_eq_true rfl) rfl ?_
  refine r_aload_n DX1_allSights_0 (i := 0) rfl rfl ?_
  refine r_get (v := .int (gI a 1)) DX1_allSights_1 F_X1_15 e_1 rfl ?_
  refine r_if_eq DX1_allSights_4 (tgt := 14) (by decide) (fun c4 => ?_) (fun c4 => ?_)
  · replace e := x_ift c4 e
    refine r_iconst DX1_allSights_14 (v := 0) (by decide) ?_
    refine r_istore_n (L' := [some (.ref (xa g 1)), some (.int 0), none]) DX1_allSights_15 (i := 1) rfl (by decide) rfl rfl ?_
    refine r_iconst DX1_allSights_16 (v := 0) (by decide) ?_
    refine r_istore_n (L' := [some (.ref (xa g 1)), some (.int 0), some (.int 0)]) DX1_allSights_17 (i := 2) rfl (by decide) rfl rfl ?_
    obtain ⟨q18, e18, e⟩ := x_bnd e
    refine lp_X1_allSights_L18 N a N 0 0 q18 e18 ?_
    refine r_iload_n DX1_allSights_58 (i := 1) rfl rfl ?_
    obtain rfl := Option.some.inj e
    exact r_iret DX1_allSights_59 rfl rfl
  · replace e := x_iff c4 e
    refine r_iconst DX1_allSights_7 (v := 1) (by decide) ?_
    refine r_aload_n DX1_allSights_8 (i := 0) rfl rfl ?_
    refine r_get (v := .int (gI a 0)) DX1_allSights_9 F_X1_9 e_1 rfl ?_
    refine r_ishl DX1_allSights_12 ?_
    obtain rfl := Option.some.inj e
    exact r_iret DX1_allSights_13 rfl rfl

set_option maxRecDepth 100000 in
set_option maxHeartbeats 4000000 in
theorem lp_X1_sightsBothWays_L56 {l : Launch} {g : xG} {b : xT} {R : Option Value × xS} (N : Nat) (v1 : Int32) (v2 : Int32) (v3 : Int32) (v4 : Int32) (v5 : Int32) (v6 : Int32) (a : xT) : ∀ (n : Nat) (v7 : Int32) (v8 : Int32) (r : (Int32)), f_X1_sightsBothWays_L56 N v1 v2 v3 v4 v5 v6 a n v7 v8 = some r → Rx l g 1 M_X1_sightsBothWays 85 [some (.ref (xa g 1)), some (.int v1), some (.int v2), some (.int v3), some (.int v4), some (.int v5), some (.int v6), some (.int r), none] [] (a, b) R → Rx l g 1 M_X1_sightsBothWays 56 [some (.ref (xa g 1)), some (.int v1), some (.int v2), some (.int v3), some (.int v4), some (.int v5), some (.int v6), some (.int v7), some (.int v8)] [] (a, b) R := by
  intro n
  induction n with
  | zero => intro v7_ v8_ r_ e; cases e
  | succ n ih =>
    intro v7 v8 r e K0
    rw [f_X1_sightsBothWays_L56] at e
    refine r_iload DX1_sightsBothWays_56 rfl ?_
    refine r_aload_n DX1_sightsBothWays_58 (i := 0) rfl rfl ?_
    refine r_get (v := .int (gI a 3)) DX1_sightsBothWays_59 F_X1_21 e_1 rfl ?_
    refine r_iload DX1_sightsBothWays_62 rfl ?_
    refine r_isub DX1_sightsBothWays_64 ?_
    refine r_icmp_gt DX1_sightsBothWays_65 (tgt := 85) (by decide) (fun c65 => ?_) (fun c65 => ?_)
    · replace e := x_ift c65 e
      obtain rfl := Option.some.inj e
      refine r_mask (L' := [some (.ref (xa g 1)), some (.int v1), some (.int v2), some (.int v3), some (.int v4), some (.int v5), some (.int v6), some (.int v7), none]) [true, true, true, true, true, true, true, true, false] rfl ?_
      exact K0
    · replace e := x_iff c65 e
      refine r_iload DX1_sightsBothWays_68 rfl ?_
      refine r_iload_n DX1_sightsBothWays_70 (i := 2) rfl rfl ?_
      refine r_iload DX1_sightsBothWays_71 rfl ?_
      obtain ⟨q73, e73, e⟩ := x_bnd e
      refine r_callS1 (As := [.int v2, .int v8]) (S := [.int v7]) DX1_sightsBothWays_73 C_X1_83 (by decide) (by decide) (Nat.le_of_ble_eq_true rfl) (t_X1_choose N v2 v8 e73) rfl ?_
      refine r_iadd DX1_sightsBothWays_76 ?_
      refine r_istore (L' := [some (.ref (xa g 1)), some (.int v1), some (.int v2), some (.int v3), some (.int v4), some (.int v5), some (.int v6), some (.int (v7 + q73)), some (.int v8)]) DX1_sightsBothWays_77 (by decide) rfl rfl ?_
      refine r_iinc (L' := [some (.ref (xa g 1)), some (.int v1), some (.int v2), some (.int v3), some (.int v4), some (.int v5), some (.int v6), some (.int (v7 + q73)), some (.int (v8 + 1))]) DX1_sightsBothWays_79 (x := v8) (v := (v8 + 1)) rfl rfl (by decide) rfl rfl ?_
      refine r_goto DX1_sightsBothWays_82 (tgt := 56) (by decide) ?_
      exact ih _ _ _ e K0

set_option maxRecDepth 100000 in
set_option maxHeartbeats 4000000 in
theorem lp_X1_sightsBothWays_L29 {l : Launch} {g : xG} {b : xT} {R : Option Value × xS} (N : Nat) (v1 : Int32) (v2 : Int32) (v3 : Int32) (v5 : Int32) (a : xT) : ∀ (n : Nat) (v4 : Int32) (v6 : Int32) (r : (Int32)), f_X1_sightsBothWays_L29 N v1 v2 v3 v5 a n v4 v6 = some r → Rx l g 1 M_X1_sightsBothWays 115 [some (.ref (xa g 1)), some (.int v1), some (.int v2), some (.int v3), some (.int r), some (.int v5), none, none, none] [] (a, b) R → Rx l g 1 M_X1_sightsBothWays 29 [some (.ref (xa g 1)), some (.int v1), some (.int v2), some (.int v3), some (.int v4), some (.int v5), some (.int v6), none, none] [] (a, b) R := by
  intro n
  induction n with
  | zero => intro v4_ v6_ r_ e; cases e
  | succ n ih =>
    intro v4 v6 r e K0
    rw [f_X1_sightsBothWays_L29] at e
    refine r_iload DX1_sightsBothWays_29 rfl ?_
    refine r_aload_n DX1_sightsBothWays_31 (i := 0) rfl rfl ?_
    refine r_get (v := .int (gI a 3)) DX1_sightsBothWays_32 F_X1_21 e_1 rfl ?_
    refine r_icmp_gt DX1_sightsBothWays_35 (tgt := 115) (by decide) (fun c35 => ?_) (fun c35 => ?_)
    · replace e := x_ift c35 e
      obtain rfl := Option.some.inj e
      refine r_mask (L' := [some (.ref (xa g 1)), some (.int v1), some (.int v2), some (.int v3), some (.int v4), some (.int v5), none, none, none]) [true, true, true, true, true, true, false, false, false] rfl ?_
      exact K0
    · replace e := x_iff c35 e
      refine r_iconst DX1_sightsBothWays_38 (v := 0) (by decide) ?_
      refine r_istore (L' := [some (.ref (xa g 1)), some (.int v1), some (.int v2), some (.int v3), some (.int v4), some (.int v5), some (.int v6), some (.int 0), none]) DX1_sightsBothWays_39 (by decide) rfl rfl ?_
      refine r_iconst DX1_sightsBothWays_41 (v := 0) (by decide) ?_
      refine r_iload_n DX1_sightsBothWays_42 (i := 2) rfl rfl ?_
      refine r_aload_n DX1_sightsBothWays_43 (i := 0) rfl rfl ?_
      refine r_get (v := .int (gI a 2)) DX1_sightsBothWays_44 F_X1_18 e_1 rfl ?_
      refine r_iload DX1_sightsBothWays_47 rfl ?_
      refine r_isub DX1_sightsBothWays_49 ?_
      refine r_isub DX1_sightsBothWays_50 ?_
      refine r_mmax DX1_sightsBothWays_51 C_X1_62 (by decide) (Nat.le_of_ble_eq_true rfl) ?_
      refine r_istore (L' := [some (.ref (xa g 1)), some (.int v1), some (.int v2), some (.int v3), some (.int v4), some (.int v5), some (.int v6), some (.int 0), some (.int (xmax 0 (v2 - ((gI a 2) - v5))))]) DX1_sightsBothWays_54 (by decide) rfl rfl ?_
      obtain ⟨q56, e56, e⟩ := x_bnd e
      refine lp_X1_sightsBothWays_L56 N v1 v2 v3 v4 v5 v6 a N 0 (xmax 0 (v2 - ((gI a 2) - v5))) q56 e56 ?_
      refine r_iload DX1_sightsBothWays_85 rfl ?_
      refine r_iload_n DX1_sightsBothWays_87 (i := 1) rfl rfl ?_
      refine r_iload DX1_sightsBothWays_88 rfl ?_
      obtain ⟨q90, e90, e⟩ := x_bnd e
      refine r_callS1 (As := [.int v1, .int v5]) (S := [.int v4]) DX1_sightsBothWays_90 C_X1_83 (by decide) (by decide) (Nat.le_of_ble_eq_true rfl) (t_X1_choose N v1 v5 e90) rfl ?_
      refine r_iload_n DX1_sightsBothWays_93 (i := 3) rfl rfl ?_
      refine r_iload DX1_sightsBothWays_94 rfl ?_
      obtain ⟨q96, e96, e⟩ := x_bnd e
      refine r_callS1 (As := [.int v3, .int v6]) (S := [.int q90, .int v4]) DX1_sightsBothWays_96 C_X1_83 (by decide) (by decide) (Nat.le_of_ble_eq_true rfl) (t_X1_choose N v3 v6 e96) rfl ?_
      refine r_imul DX1_sightsBothWays_99 ?_
      refine r_iload DX1_sightsBothWays_100 rfl ?_
      refine r_imul DX1_sightsBothWays_102 ?_
      refine r_iload DX1_sightsBothWays_103 rfl ?_
      refine r_imul DX1_sightsBothWays_105 ?_
      refine r_iadd DX1_sightsBothWays_106 ?_
      refine r_istore (L' := [some (.ref (xa g 1)), some (.int v1), some (.int v2), some (.int v3), some (.int (v4 + (((q90 * q96) * q56) * q56))), some (.int v5), some (.int v6), some (.int q56), none]) DX1_sightsBothWays_107 (by decide) rfl rfl ?_
      refine r_iinc (L' := [some (.ref (xa g 1)), some (.int v1), some (.int v2), some (.int v3), some (.int (v4 + (((q90 * q96) * q56) * q56))), some (.int v5), some (.int (v6 + 1)), some (.int q56), none]) DX1_sightsBothWays_109 (x := v6) (v := (v6 + 1)) rfl rfl (by decide) rfl rfl ?_
      refine r_goto DX1_sightsBothWays_112 (tgt := 29) (by decide) ?_
      refine r_mask (L' := [some (.ref (xa g 1)), some (.int v1), some (.int v2), some (.int v3), some (.int (v4 + (((q90 * q96) * q56) * q56))), some (.int v5), some (.int (v6 + 1)), none, none]) [true, true, true, true, true, true, true, false, false] rfl ?_
      exact ih _ _ _ e K0

set_option maxRecDepth 100000 in
set_option maxHeartbeats 4000000 in
theorem lp_X1_sightsBothWays_L17 {l : Launch} {g : xG} {b : xT} {R : Option Value × xS} (N : Nat) (v1 : Int32) (v2 : Int32) (v3 : Int32) (a : xT) : ∀ (n : Nat) (v4 : Int32) (v5 : Int32) (r : (Int32)), f_X1_sightsBothWays_L17 N v1 v2 v3 a n v4 v5 = some r → Rx l g 1 M_X1_sightsBothWays 121 [none, none, none, none, some (.int r), none, none, none, none] [] (a, b) R → Rx l g 1 M_X1_sightsBothWays 17 [some (.ref (xa g 1)), some (.int v1), some (.int v2), some (.int v3), some (.int v4), some (.int v5), none, none, none] [] (a, b) R := by
  intro n
  induction n with
  | zero => intro v4_ v5_ r_ e; cases e
  | succ n ih =>
    intro v4 v5 r e K0
    rw [f_X1_sightsBothWays_L17] at e
    refine r_iload DX1_sightsBothWays_17 rfl ?_
    refine r_aload_n DX1_sightsBothWays_19 (i := 0) rfl rfl ?_
    refine r_get (v := .int (gI a 2)) DX1_sightsBothWays_20 F_X1_18 e_1 rfl ?_
    refine r_icmp_gt DX1_sightsBothWays_23 (tgt := 121) (by decide) (fun c23 => ?_) (fun c23 => ?_)
    · replace e := x_ift c23 e
      obtain rfl := Option.some.inj e
      refine r_mask (L' := [none, none, none, none, some (.int v4), none, none, none, none]) [false, false, false, false, true, false, false, false, false] rfl ?_
      exact K0
    · replace e := x_iff c23 e
      refine r_iconst DX1_sightsBothWays_26 (v := 0) (by decide) ?_
      refine r_istore (L' := [some (.ref (xa g 1)), some (.int v1), some (.int v2), some (.int v3), some (.int v4), some (.int v5), some (.int 0), none, none]) DX1_sightsBothWays_27 (by decide) rfl rfl ?_
      obtain ⟨q29, e29, e⟩ := x_bnd e
      refine lp_X1_sightsBothWays_L29 N v1 v2 v3 v5 a N v4 0 q29 e29 ?_
      refine r_iinc (L' := [some (.ref (xa g 1)), some (.int v1), some (.int v2), some (.int v3), some (.int q29), some (.int (v5 + 1)), none, none, none]) DX1_sightsBothWays_115 (x := v5) (v := (v5 + 1)) rfl rfl (by decide) rfl rfl ?_
      refine r_goto DX1_sightsBothWays_118 (tgt := 17) (by decide) ?_
      exact ih _ _ _ e K0

set_option maxRecDepth 100000 in
set_option maxHeartbeats 4000000 in
theorem t_X1_sightsBothWays {l : Launch} {g : xG} {b : xT} (N : Nat) (v1 : Int32) (v2 : Int32) (a : xT)  {r : Int32} (e : f_X1_sightsBothWays N v1 v2 a = some r) : Ev l g 1 yX1_sightsBothWays M_X1_sightsBothWays [.ref (xa g 1), .int v1, .int v2] (a, b) (some (.int r), (a, b)) := by
  unfold f_X1_sightsBothWays at e
  refine Ev.of 6 (L0 := [some (.ref (xa g 1)), some (.int v1), some (.int v2), none, none, none, none, none, none]) (by decide) rfl (Nat.le_of_ble_eq_true rfl) rfl ?_
  refine r_aload_n DX1_sightsBothWays_0 (i := 0) rfl rfl ?_
  refine r_get (v := .int (gI a 0)) DX1_sightsBothWays_1 F_X1_9 e_1 rfl ?_
  refine r_iload_n DX1_sightsBothWays_4 (i := 1) rfl rfl ?_
  refine r_isub DX1_sightsBothWays_5 ?_
  refine r_iconst DX1_sightsBothWays_6 (v := 2) (by decide) ?_
  refine r_iload_n DX1_sightsBothWays_7 (i := 2) rfl rfl ?_
  refine r_imul DX1_sightsBothWays_8 ?_
  refine r_isub DX1_sightsBothWays_9 ?_
  refine r_istore_n (L' := [some (.ref (xa g 1)), some (.int v1), some (.int v2), some (.int (((gI a 0) - v1) - (2 * v2))), none, none, none, none, none]) DX1_sightsBothWays_10 (i := 3) rfl (by decide) rfl rfl ?_
  refine r_iconst DX1_sightsBothWays_11 (v := 0) (by decide) ?_
  refine r_istore (L' := [some (.ref (xa g 1)), some (.int v1), some (.int v2), some (.int (((gI a 0) - v1) - (2 * v2))), some (.int 0), none, none, none, none]) DX1_sightsBothWays_12 (by decide) rfl rfl ?_
  refine r_iconst DX1_sightsBothWays_14 (v := 0) (by decide) ?_
  refine r_istore (L' := [some (.ref (xa g 1)), some (.int v1), some (.int v2), some (.int (((gI a 0) - v1) - (2 * v2))), some (.int 0), some (.int 0), none, none, none]) DX1_sightsBothWays_15 (by decide) rfl rfl ?_
  obtain ⟨q17, e17, e⟩ := x_bnd e
  refine lp_X1_sightsBothWays_L17 N v1 v2 (((gI a 0) - v1) - (2 * v2)) a N 0 0 q17 e17 ?_
  refine r_iload DX1_sightsBothWays_121 rfl ?_
  obtain rfl := Option.some.inj e
  exact r_iret DX1_sightsBothWays_123 rfl rfl

set_option maxRecDepth 100000 in
set_option maxHeartbeats 4000000 in
theorem lp_X1_upTo_L4 {l : Launch} {g : xG} {s : xS} {R : Option Value × xS} (N : Nat) (v0 : Int32) (v1 : Int32) : ∀ (n : Nat) (v2 : Int32) (v3 : Int32) (r : (Int32)), f_X1_upTo_L4 N v0 v1 n v2 v3 = some r → Rx l g 1 M_X1_upTo 23 [none, none, some (.int r), none] [] s R → Rx l g 1 M_X1_upTo 4 [some (.int v0), some (.int v1), some (.int v2), some (.int v3)] [] s R := by
  intro n
  induction n with
  | zero => intro v2_ v3_ r_ e; cases e
  | succ n ih =>
    intro v2 v3 r e K0
    rw [f_X1_upTo_L4] at e
    refine r_iload_n DX1_upTo_4 (i := 3) rfl rfl ?_
    refine r_iload_n DX1_upTo_5 (i := 1) rfl rfl ?_
    refine r_icmp_gt DX1_upTo_6 (tgt := 23) (by decide) (fun c6 => ?_) (fun c6 => ?_)
    · replace e := x_ift c6 e
      obtain rfl := Option.some.inj e
      refine r_mask (L' := [none, none, some (.int v2), none]) [false, false, true, false] rfl ?_
      exact K0
    · replace e := x_iff c6 e
      refine r_iload_n DX1_upTo_9 (i := 2) rfl rfl ?_
      refine r_iload_n DX1_upTo_10 (i := 0) rfl rfl ?_
      refine r_iload_n DX1_upTo_11 (i := 3) rfl rfl ?_
      obtain ⟨q12, e12, e⟩ := x_bnd e
      refine r_callS1 (As := [.int v0, .int v3]) (S := [.int v2]) DX1_upTo_12 C_X1_83 (by decide) (by decide) (Nat.le_of_ble_eq_true rfl) (t_X1_choose N v0 v3 e12) rfl ?_
      refine r_iadd DX1_upTo_15 ?_
      refine r_istore_n (L' := [some (.int v0), some (.int v1), some (.int (v2 + q12)), some (.int v3)]) DX1_upTo_16 (i := 2) rfl (by decide) rfl rfl ?_
      refine r_iinc (L' := [some (.int v0), some (.int v1), some (.int (v2 + q12)), some (.int (v3 + 1))]) DX1_upTo_17 (x := v3) (v := (v3 + 1)) rfl rfl (by decide) rfl rfl ?_
      refine r_goto DX1_upTo_20 (tgt := 4) (by decide) ?_
      exact ih _ _ _ e K0

set_option maxRecDepth 100000 in
set_option maxHeartbeats 4000000 in
theorem t_X1_upTo {l : Launch} {g : xG} {s : xS} (N : Nat) (v0 : Int32) (v1 : Int32)  {r : Int32} (e : f_X1_upTo N v0 v1 = some r) : Ev l g 1 yX1_upTo M_X1_upTo [.int v0, .int v1] s (some (.int r), s) := by
  unfold f_X1_upTo at e
  refine Ev.of 2 (L0 := [some (.int v0), some (.int v1), none, none]) (by decide) rfl (Nat.le_of_ble_eq_true rfl) rfl ?_
  refine r_iconst DX1_upTo_0 (v := 0) (by decide) ?_
  refine r_istore_n (L' := [some (.int v0), some (.int v1), some (.int 0), none]) DX1_upTo_1 (i := 2) rfl (by decide) rfl rfl ?_
  refine r_iconst DX1_upTo_2 (v := 0) (by decide) ?_
  refine r_istore_n (L' := [some (.int v0), some (.int v1), some (.int 0), some (.int 0)]) DX1_upTo_3 (i := 3) rfl (by decide) rfl rfl ?_
  obtain ⟨q4, e4, e⟩ := x_bnd e
  refine lp_X1_upTo_L4 N v0 v1 N 0 0 q4 e4 ?_
  refine r_iload_n DX1_upTo_23 (i := 2) rfl rfl ?_
  obtain rfl := Option.some.inj e
  exact r_iret DX1_upTo_24 rfl rfl

set_option maxRecDepth 100000 in
set_option maxHeartbeats 4000000 in
theorem t_X1_sights {l : Launch} {g : xG} {b : xT} (N : Nat) (v1 : Int32) (v2 : Int32) (a : xT)  {r : Int32} (e : f_X1_sights N v1 v2 a = some r) : Ev l g 2 yX1_sights M_X1_sights [.ref (xa g 1), .int v1, .int v2] (a, b) (some (.int r), (a, b)) := by
  unfold f_X1_sights at e
  refine Ev.of 2 (L0 := [some (.ref (xa g 1)), some (.int v1), some (.int v2), none, none]) (by decide) rfl (Nat.le_of_ble_eq_true rfl) rfl ?_
  refine r_aload_n DX1_sights_0 (i := 0) rfl rfl ?_
  refine r_get (v := .int (gI a 1)) DX1_sights_1 F_X1_15 e_1 rfl ?_
  refine r_if_ne DX1_sights_4 (tgt := 19) (by decide) (fun c4 => ?_) (fun c4 => ?_)
  · replace e := x_iff c4 e
    refine r_iload_n DX1_sights_19 (i := 1) rfl rfl ?_
    refine r_iload_n DX1_sights_20 (i := 2) rfl rfl ?_
    refine r_iadd DX1_sights_21 ?_
    refine r_istore_n (L' := [some (.ref (xa g 1)), some (.int v1), some (.int v2), some (.int (v1 + v2)), none]) DX1_sights_22 (i := 3) rfl (by decide) rfl rfl ?_
    refine r_iload_n DX1_sights_23 (i := 3) rfl rfl ?_
    refine r_aload_n DX1_sights_24 (i := 0) rfl rfl ?_
    refine r_get (v := .int (gI a 2)) DX1_sights_25 F_X1_18 e_1 rfl ?_
    obtain ⟨q28, e28, e⟩ := x_bnd e
    refine r_callS1 (As := [.int (v1 + v2), .int (gI a 2)]) (S := []) DX1_sights_28 C_X1_77 (by decide) (by decide) (Nat.le_of_ble_eq_true rfl) (t_X1_upTo N (v1 + v2) (gI a 2) e28) rfl ?_
    refine r_aload_n DX1_sights_31 (i := 0) rfl rfl ?_
    refine r_get (v := .int (gI a 0)) DX1_sights_32 F_X1_9 e_1 rfl ?_
    refine r_iload_n DX1_sights_35 (i := 3) rfl rfl ?_
    refine r_isub DX1_sights_36 ?_
    refine r_aload_n DX1_sights_37 (i := 0) rfl rfl ?_
    obtain ⟨q38, e38, e⟩ := x_bnd e
    refine r_callV1 (As := []) (S := [.int ((gI a 0) - (v1 + v2)), .int q28]) DX1_sights_38 C_X1_45 (ci := 1) rfl rfl e_1 (by decide) (by decide) (Nat.le_of_ble_eq_true rfl) (t_X1_extra a e38) rfl ?_
    obtain ⟨q41, e41, e⟩ := x_bnd e
    refine r_callS1 (As := [.int ((gI a 0) - (v1 + v2)), .int q38]) (S := [.int q28]) DX1_sights_41 C_X1_77 (by decide) (by decide) (Nat.le_of_ble_eq_true rfl) (t_X1_upTo N ((gI a 0) - (v1 + v2)) q38 e41) rfl ?_
    refine r_imul DX1_sights_44 ?_
    refine r_istore (L' := [some (.ref (xa g 1)), some (.int v1), some (.int v2), some (.int (v1 + v2)), some (.int (q28 * q41))]) DX1_sights_45 (by decide) rfl rfl ?_
    refine r_aload_n DX1_sights_47 (i := 0) rfl rfl ?_
    refine r_get (v := .int (gI a 1)) DX1_sights_48 F_X1_15 e_1 rfl ?_
    refine r_iconst DX1_sights_51 (v := 3) (by decide) ?_
    refine r_icmp_ne DX1_sights_52 (tgt := 69) (by decide) (fun c52 => ?_) (fun c52 => ?_)
    · replace e := x_iff c52 e
      refine r_iload DX1_sights_69 rfl ?_
      obtain rfl := Option.some.inj e
      exact r_iret DX1_sights_71 rfl rfl
    · replace e := x_ift c52 e
      refine r_iconst DX1_sights_55 (v := 2) (by decide) ?_
      refine r_iload DX1_sights_56 rfl ?_
      refine r_imul DX1_sights_58 ?_
      refine r_aload_n DX1_sights_59 (i := 0) rfl rfl ?_
      refine r_iload_n DX1_sights_60 (i := 1) rfl rfl ?_
      refine r_iload_n DX1_sights_61 (i := 2) rfl rfl ?_
      obtain ⟨q62, e62, e⟩ := x_bnd e
      refine r_callV1 (As := [.int v1, .int v2]) (S := [.int (2 * (q28 * q41))]) DX1_sights_62 C_X1_80 (ci := 1) rfl rfl e_1 (by decide) (by decide) (Nat.le_of_ble_eq_true rfl) (t_X1_sightsBothWays N v1 v2 a e62) rfl ?_
      refine r_isub DX1_sights_65 ?_
      refine r_goto DX1_sights_66 (tgt := 71) (by decide) ?_
      obtain rfl := Option.some.inj e
      exact r_iret DX1_sights_71 rfl rfl
  · replace e := x_ift c4 e
    refine r_aload_n DX1_sights_7 (i := 0) rfl rfl ?_
    refine r_get (v := .int (gI a 0)) DX1_sights_8 F_X1_9 e_1 rfl ?_
    refine r_aload_n DX1_sights_11 (i := 0) rfl rfl ?_
    refine r_get (v := .int (gI a 2)) DX1_sights_12 F_X1_18 e_1 rfl ?_
    obtain ⟨q15, e15, e⟩ := x_bnd e
    refine r_callS1 (As := [.int (gI a 0), .int (gI a 2)]) (S := []) DX1_sights_15 C_X1_77 (by decide) (by decide) (Nat.le_of_ble_eq_true rfl) (t_X1_upTo N (gI a 0) (gI a 2) e15) rfl ?_
    obtain rfl := Option.some.inj e
    exact r_iret DX1_sights_18 rfl rfl

set_option maxRecDepth 100000 in
set_option maxHeartbeats 4000000 in
theorem lp_X1_leastSights_L35 {l : Launch} {g : xG} {b : xT} {R : Option Value × xS} (N : Nat) (v1 : Int32) (v3 : Int32) (v4 : Int32) (a : xT) : ∀ (n : Nat) (v2 : Int32) (v5 : Int32) (r : (Int32)), f_X1_leastSights_L35 N v1 v3 v4 a n v2 v5 = some r → Rx l g 3 M_X1_leastSights 69 [some (.ref (xa g 1)), some (.int v1), some (.int r), some (.int v3), some (.int v4), none] [] (a, b) R → Rx l g 3 M_X1_leastSights 35 [some (.ref (xa g 1)), some (.int v1), some (.int v2), some (.int v3), some (.int v4), some (.int v5)] [] (a, b) R := by
  intro n
  induction n with
  | zero => intro v2_ v5_ r_ e; cases e
  | succ n ih =>
    intro v2 v5 r e K0
    rw [f_X1_leastSights_L35] at e
    refine r_iload DX1_leastSights_35 rfl ?_
    refine r_aload_n DX1_leastSights_37 (i := 0) rfl rfl ?_
    refine r_get (v := .int (gI a 0)) DX1_leastSights_38 F_X1_9 e_1 rfl ?_
    refine r_iconst DX1_leastSights_41 (v := 2) (by decide) ?_
    refine r_irem DX1_leastSights_42 (by decide) ?_
    refine r_icmp_gt DX1_leastSights_43 (tgt := 69) (by decide) (fun c43 => ?_) (fun c43 => ?_)
    · replace e := x_ift c43 e
      obtain rfl := Option.some.inj e
      refine r_mask (L' := [some (.ref (xa g 1)), some (.int v1), some (.int v2), some (.int v3), some (.int v4), none]) [true, true, true, true, true, false] rfl ?_
      exact K0
    · replace e := x_iff c43 e
      refine r_iload_n DX1_leastSights_46 (i := 2) rfl rfl ?_
      refine r_aload_n DX1_leastSights_47 (i := 0) rfl rfl ?_
      refine r_iconst DX1_leastSights_48 (v := 2) (by decide) ?_
      refine r_iload DX1_leastSights_49 rfl ?_
      refine r_imul DX1_leastSights_51 ?_
      refine r_iload DX1_leastSights_52 rfl ?_
      refine r_iadd DX1_leastSights_54 ?_
      refine r_iload_n DX1_leastSights_55 (i := 3) rfl rfl ?_
      obtain ⟨q56, e56, e⟩ := x_bnd e
      refine r_callV1 (As := [.int ((2 * v4) + v5), .int v3]) (S := [.int v2]) DX1_leastSights_56 C_X1_74 (ci := 1) rfl rfl e_1 (by decide) (by decide) (Nat.le_of_ble_eq_true rfl) (t_X1_sights N ((2 * v4) + v5) v3 a e56) rfl ?_
      refine r_mmin DX1_leastSights_59 C_X1_67 (by decide) (Nat.le_of_ble_eq_true rfl) ?_
      refine r_istore_n (L' := [some (.ref (xa g 1)), some (.int v1), some (.int (xmin v2 q56)), some (.int v3), some (.int v4), some (.int v5)]) DX1_leastSights_62 (i := 2) rfl (by decide) rfl rfl ?_
      refine r_iinc (L' := [some (.ref (xa g 1)), some (.int v1), some (.int (xmin v2 q56)), some (.int v3), some (.int v4), some (.int (v5 + 1))]) DX1_leastSights_63 (x := v5) (v := (v5 + 1)) rfl rfl (by decide) rfl rfl ?_
      refine r_goto DX1_leastSights_66 (tgt := 35) (by decide) ?_
      exact ih _ _ _ e K0

set_option maxRecDepth 100000 in
set_option maxHeartbeats 4000000 in
theorem lp_X1_leastSights_L24 {l : Launch} {g : xG} {b : xT} {R : Option Value × xS} (N : Nat) (v1 : Int32) (v3 : Int32) (a : xT) : ∀ (n : Nat) (v2 : Int32) (v4 : Int32) (r : (Int32)), f_X1_leastSights_L24 N v1 v3 a n v2 v4 = some r → Rx l g 3 M_X1_leastSights 75 [some (.ref (xa g 1)), some (.int v1), some (.int r), some (.int v3), none, none] [] (a, b) R → Rx l g 3 M_X1_leastSights 24 [some (.ref (xa g 1)), some (.int v1), some (.int v2), some (.int v3), some (.int v4), none] [] (a, b) R := by
  intro n
  induction n with
  | zero => intro v2_ v4_ r_ e; cases e
  | succ n ih =>
    intro v2 v4 r e K0
    rw [f_X1_leastSights_L24] at e
    refine r_iload DX1_leastSights_24 rfl ?_
    refine r_iload_n DX1_leastSights_26 (i := 1) rfl rfl ?_
    refine r_iload_n DX1_leastSights_27 (i := 3) rfl rfl ?_
    refine r_isub DX1_leastSights_28 ?_
    refine r_icmp_gt DX1_leastSights_29 (tgt := 75) (by decide) (fun c29 => ?_) (fun c29 => ?_)
    · replace e := x_ift c29 e
      obtain rfl := Option.some.inj e
      refine r_mask (L' := [some (.ref (xa g 1)), some (.int v1), some (.int v2), some (.int v3), none, none]) [true, true, true, true, false, false] rfl ?_
      exact K0
    · replace e := x_iff c29 e
      refine r_iconst DX1_leastSights_32 (v := 0) (by decide) ?_
      refine r_istore (L' := [some (.ref (xa g 1)), some (.int v1), some (.int v2), some (.int v3), some (.int v4), some (.int 0)]) DX1_leastSights_33 (by decide) rfl rfl ?_
      obtain ⟨q35, e35, e⟩ := x_bnd e
      refine lp_X1_leastSights_L35 N v1 v3 v4 a N v2 0 q35 e35 ?_
      refine r_iinc (L' := [some (.ref (xa g 1)), some (.int v1), some (.int q35), some (.int v3), some (.int (v4 + 1)), none]) DX1_leastSights_69 (x := v4) (v := (v4 + 1)) rfl rfl (by decide) rfl rfl ?_
      refine r_goto DX1_leastSights_72 (tgt := 24) (by decide) ?_
      exact ih _ _ _ e K0

set_option maxRecDepth 100000 in
set_option maxHeartbeats 4000000 in
theorem lp_X1_leastSights_L16 {l : Launch} {g : xG} {b : xT} {R : Option Value × xS} (N : Nat) (v1 : Int32) (a : xT) : ∀ (n : Nat) (v2 : Int32) (v3 : Int32) (r : (Int32)), f_X1_leastSights_L16 N v1 a n v2 v3 = some r → Rx l g 3 M_X1_leastSights 81 [none, none, some (.int r), none, none, none] [] (a, b) R → Rx l g 3 M_X1_leastSights 16 [some (.ref (xa g 1)), some (.int v1), some (.int v2), some (.int v3), none, none] [] (a, b) R := by
  intro n
  induction n with
  | zero => intro v2_ v3_ r_ e; cases e
  | succ n ih =>
    intro v2 v3 r e K0
    rw [f_X1_leastSights_L16] at e
    refine r_iload_n DX1_leastSights_16 (i := 3) rfl rfl ?_
    refine r_iload_n DX1_leastSights_17 (i := 1) rfl rfl ?_
    refine r_icmp_gt DX1_leastSights_18 (tgt := 81) (by decide) (fun c18 => ?_) (fun c18 => ?_)
    · replace e := x_ift c18 e
      obtain rfl := Option.some.inj e
      refine r_mask (L' := [none, none, some (.int v2), none, none, none]) [false, false, true, false, false, false] rfl ?_
      exact K0
    · replace e := x_iff c18 e
      refine r_iconst DX1_leastSights_21 (v := 0) (by decide) ?_
      refine r_istore (L' := [some (.ref (xa g 1)), some (.int v1), some (.int v2), some (.int v3), some (.int 0), none]) DX1_leastSights_22 (by decide) rfl rfl ?_
      obtain ⟨q24, e24, e⟩ := x_bnd e
      refine lp_X1_leastSights_L24 N v1 v3 a N v2 0 q24 e24 ?_
      refine r_iinc (L' := [some (.ref (xa g 1)), some (.int v1), some (.int q24), some (.int (v3 + 1)), none, none]) DX1_leastSights_75 (x := v3) (v := (v3 + 1)) rfl rfl (by decide) rfl rfl ?_
      refine r_goto DX1_leastSights_78 (tgt := 16) (by decide) ?_
      exact ih _ _ _ e K0

set_option maxRecDepth 100000 in
set_option maxHeartbeats 4000000 in
theorem t_X1_leastSights {l : Launch} {g : xG} {b : xT} (N : Nat) (a : xT)  {r : Int32} (e : f_X1_leastSights N a = some r) : Ev l g 3 yX1_leastSights M_X1_leastSights [.ref (xa g 1)] (a, b) (some (.int r), (a, b)) := by
  unfold f_X1_leastSights at e
  refine Ev.of 5 (L0 := [some (.ref (xa g 1)), none, none, none, none, none]) (by decide) rfl (Nat.le_of_ble_eq_true rfl) rfl ?_
  refine r_aload_n DX1_leastSights_0 (i := 0) rfl rfl ?_
  refine r_get (v := .int (gI a 0)) DX1_leastSights_1 F_X1_9 e_1 rfl ?_
  refine r_iconst DX1_leastSights_4 (v := 2) (by decide) ?_
  refine r_idiv DX1_leastSights_5 (by decide) ?_
  refine r_istore_n (L' := [some (.ref (xa g 1)), some (.int ((gI a 0) / 2)), none, none, none, none]) DX1_leastSights_6 (i := 1) rfl (by decide) rfl rfl ?_
  refine r_aload_n DX1_leastSights_7 (i := 0) rfl rfl ?_
  refine r_iconst DX1_leastSights_8 (v := 0) (by decide) ?_
  refine r_iconst DX1_leastSights_9 (v := 0) (by decide) ?_
  obtain ⟨q10, e10, e⟩ := x_bnd e
  refine r_callV1 (As := [.int 0, .int 0]) (S := []) DX1_leastSights_10 C_X1_74 (ci := 1) rfl rfl e_1 (by decide) (by decide) (Nat.le_of_ble_eq_true rfl) (t_X1_sights N 0 0 a e10) rfl ?_
  refine r_istore_n (L' := [some (.ref (xa g 1)), some (.int ((gI a 0) / 2)), some (.int q10), none, none, none]) DX1_leastSights_13 (i := 2) rfl (by decide) rfl rfl ?_
  refine r_iconst DX1_leastSights_14 (v := 0) (by decide) ?_
  refine r_istore_n (L' := [some (.ref (xa g 1)), some (.int ((gI a 0) / 2)), some (.int q10), some (.int 0), none, none]) DX1_leastSights_15 (i := 3) rfl (by decide) rfl rfl ?_
  obtain ⟨q16, e16, e⟩ := x_bnd e
  refine lp_X1_leastSights_L16 N ((gI a 0) / 2) a N q10 0 q16 e16 ?_
  refine r_iload_n DX1_leastSights_81 (i := 2) rfl rfl ?_
  obtain rfl := Option.some.inj e
  exact r_iret DX1_leastSights_82 rfl rfl

set_option maxRecDepth 100000 in
set_option maxHeartbeats 4000000 in
theorem t_X1_sightsOf {l : Launch} {g : xG} {b : xT} (N : Nat) (v1 : Int32) (a : xT)  {r : Int32} (e : f_X1_sightsOf N v1 a = some r) : Ev l g 3 yX1_sightsOf M_X1_sightsOf [.ref (xa g 1), .int v1] (a, b) (some (.int r), (a, b)) := by
  unfold f_X1_sightsOf at e
  refine Ev.of 1 (L0 := [some (.ref (xa g 1)), some (.int v1), none]) (by decide) rfl (Nat.le_of_ble_eq_true rfl) rfl ?_
  refine r_aload_n DX1_sightsOf_0 (i := 0) rfl rfl ?_
  refine r_iload_n DX1_sightsOf_1 (i := 1) rfl rfl ?_
  obtain ⟨q2, e2, e⟩ := x_bnd e
  refine r_callV1 (As := [.int v1]) (S := []) DX1_sightsOf_2 C_X1_42 (ci := 1) rfl rfl e_1 (by decide) (by decide) (Nat.le_of_ble_eq_true rfl) (t_X1_reversed N v1 a e2) rfl ?_
  refine r_istore_n (L' := [some (.ref (xa g 1)), some (.int v1), some (.int q2)]) DX1_sightsOf_5 (i := 2) rfl (by decide) rfl rfl ?_
  refine r_aload_n DX1_sightsOf_6 (i := 0) rfl rfl ?_
  refine r_iload_n DX1_sightsOf_7 (i := 1) rfl rfl ?_
  refine r_iload_n DX1_sightsOf_8 (i := 2) rfl rfl ?_
  refine r_iand DX1_sightsOf_9 ?_
  obtain ⟨q10, e10, e⟩ := x_bnd e
  refine r_callS1 (As := [.int (v1 &&& q2)]) (S := [.ref (xa g 1)]) DX1_sightsOf_10 C_X1_32 (by decide) (by decide) (Nat.le_of_ble_eq_true rfl) (t_J6_bitCount_0f7a4 (v1 &&& q2) e10) rfl ?_
  refine r_iload_n DX1_sightsOf_13 (i := 1) rfl rfl ?_
  refine r_iload_n DX1_sightsOf_14 (i := 2) rfl rfl ?_
  refine r_iconst DX1_sightsOf_15 (v := (-1)) (by decide) ?_
  refine r_ixor DX1_sightsOf_16 ?_
  refine r_iand DX1_sightsOf_17 ?_
  obtain ⟨q18, e18, e⟩ := x_bnd e
  refine r_callS1 (As := [.int (v1 &&& (q2 ^^^ (-1)))]) (S := [.int q10, .ref (xa g 1)]) DX1_sightsOf_18 C_X1_32 (by decide) (by decide) (Nat.le_of_ble_eq_true rfl) (t_J6_bitCount_0f7a4 (v1 &&& (q2 ^^^ (-1))) e18) rfl ?_
  obtain ⟨q21, e21, e⟩ := x_bnd e
  refine r_callV1 (As := [.int q10, .int q18]) (S := []) DX1_sightsOf_21 C_X1_74 (ci := 1) rfl rfl e_1 (by decide) (by decide) (Nat.le_of_ble_eq_true rfl) (t_X1_sights N q10 q18 a e21) rfl ?_
  obtain rfl := Option.some.inj e
  exact r_iret DX1_sightsOf_24 rfl rfl

set_option maxRecDepth 100000 in
set_option maxHeartbeats 4000000 in
theorem t_X1_agreement {l : Launch} {g : xG} {b : xT} (v1 : Int32) (v2 : Int32) (a : xT)  {r : Int32} (e : f_X1_agreement v1 v2 a = some r) : Ev l g 1 yX1_agreement M_X1_agreement [.ref (xa g 1), .int v1, .int v2] (a, b) (some (.int r), (a, b)) := by
  unfold f_X1_agreement at e
  refine Ev.of 0 (L0 := [some (.ref (xa g 1)), some (.int v1), some (.int v2)]) (by decide) rfl (Nat.le_of_ble_eq_true rfl) rfl ?_
  refine r_iload_n DX1_agreement_0 (i := 1) rfl rfl ?_
  refine r_iload_n DX1_agreement_1 (i := 2) rfl rfl ?_
  refine r_ixor DX1_agreement_2 ?_
  refine r_iconst DX1_agreement_3 (v := (-1)) (by decide) ?_
  refine r_ixor DX1_agreement_4 ?_
  refine r_aload_n DX1_agreement_5 (i := 0) rfl rfl ?_
  obtain ⟨q6, e6, e⟩ := x_bnd e
  refine r_callV1 (As := []) (S := [.int ((v1 ^^^ v2) ^^^ (-1))]) DX1_agreement_6 C_X1_24 (ci := 1) rfl rfl e_1 (by decide) (by decide) (Nat.le_of_ble_eq_true rfl) (t_X1_all a e6) rfl ?_
  refine r_iand DX1_agreement_9 ?_
  obtain rfl := Option.some.inj e
  exact r_iret DX1_agreement_10 rfl rfl

set_option maxRecDepth 100000 in
set_option maxHeartbeats 4000000 in
theorem t_X1_strays {l : Launch} {g : xG} {b : xT} (v1 : Int32) (v2 : Int32) (a : xT)  {r : Int32} (e : f_X1_strays v1 v2 a = some r) : Ev l g 1 yX1_strays M_X1_strays [.ref (xa g 1), .int v1, .int v2] (a, b) (some (.int r), (a, b)) := by
  unfold f_X1_strays at e
  refine Ev.of 0 (L0 := [some (.ref (xa g 1)), some (.int v1), some (.int v2)]) (by decide) rfl (Nat.le_of_ble_eq_true rfl) rfl ?_
  refine r_iload_n DX1_strays_0 (i := 1) rfl rfl ?_
  refine r_iload_n DX1_strays_1 (i := 2) rfl rfl ?_
  refine r_iconst DX1_strays_2 (v := (-1)) (by decide) ?_
  refine r_ixor DX1_strays_3 ?_
  refine r_iand DX1_strays_4 ?_
  obtain ⟨q5, e5, e⟩ := x_bnd e
  refine r_callS1 (As := [.int (v1 &&& (v2 ^^^ (-1)))]) (S := []) DX1_strays_5 C_X1_32 (by decide) (by decide) (Nat.le_of_ble_eq_true rfl) (t_J6_bitCount_0f7a4 (v1 &&& (v2 ^^^ (-1))) e5) rfl ?_
  refine r_aload_n DX1_strays_8 (i := 0) rfl rfl ?_
  refine r_get (v := .int (gI a 2)) DX1_strays_9 F_X1_18 e_1 rfl ?_
  refine r_icmp_gt DX1_strays_12 (tgt := 34) (by decide) (fun c12 => ?_) (fun c12 => ?_)
  · replace e := x_ift c12 e
    refine r_iconst DX1_strays_34 (v := 0) (by decide) ?_
    obtain rfl := Option.some.inj e
    exact r_zret DX1_strays_35 rfl (by decide) rfl
  · replace e := x_iff c12 e
    refine r_iload_n DX1_strays_15 (i := 2) rfl rfl ?_
    refine r_iload_n DX1_strays_16 (i := 1) rfl rfl ?_
    refine r_iconst DX1_strays_17 (v := (-1)) (by decide) ?_
    refine r_ixor DX1_strays_18 ?_
    refine r_iand DX1_strays_19 ?_
    obtain ⟨q20, e20, e⟩ := x_bnd e
    refine r_callS1 (As := [.int (v2 &&& (v1 ^^^ (-1)))]) (S := []) DX1_strays_20 C_X1_32 (by decide) (by decide) (Nat.le_of_ble_eq_true rfl) (t_J6_bitCount_0f7a4 (v2 &&& (v1 ^^^ (-1))) e20) rfl ?_
    refine r_aload_n DX1_strays_23 (i := 0) rfl rfl ?_
    obtain ⟨q24, e24, e⟩ := x_bnd e
    refine r_callV1 (As := []) (S := [.int q20]) DX1_strays_24 C_X1_45 (ci := 1) rfl rfl e_1 (by decide) (by decide) (Nat.le_of_ble_eq_true rfl) (t_X1_extra a e24) rfl ?_
    refine r_icmp_gt DX1_strays_27 (tgt := 34) (by decide) (fun c27 => ?_) (fun c27 => ?_)
    · replace e := x_ift c27 e
      refine r_iconst DX1_strays_34 (v := 0) (by decide) ?_
      obtain rfl := Option.some.inj e
      exact r_zret DX1_strays_35 rfl (by decide) rfl
    · replace e := x_iff c27 e
      refine r_iconst DX1_strays_30 (v := 1) (by decide) ?_
      refine r_goto DX1_strays_31 (tgt := 35) (by decide) ?_
      obtain rfl := Option.some.inj e
      exact r_zret DX1_strays_35 rfl (by decide) rfl

set_option maxRecDepth 100000 in
set_option maxHeartbeats 4000000 in
theorem t_X1_canShow {l : Launch} {g : xG} {b : xT} (N : Nat) (v1 : Int32) (v2 : Int32) (v3 : Int32) (a : xT)  {r : Int32} (e : f_X1_canShow N v1 v2 v3 a = some r) : Ev l g 2 yX1_canShow M_X1_canShow [.ref (xa g 1), .int v1, .int v2, .int v3] (a, b) (some (.int r), (a, b)) := by
  unfold f_X1_canShow at e
  refine Ev.of 0 (L0 := [some (.ref (xa g 1)), some (.int v1), some (.int v2), some (.int v3)]) (by decide) rfl (Nat.le_of_ble_eq_true rfl) rfl ?_
  refine r_aload_n DX1_canShow_0 (i := 0) rfl rfl ?_
  refine r_get (v := .int (gI a 1)) DX1_canShow_1 F_X1_15 e_1 rfl ?_
  refine r_if_ne DX1_canShow_4 (tgt := 33) (by decide) (fun c4 => ?_) (fun c4 => ?_)
  · replace e := x_iff c4 e
    refine r_iload_n DX1_canShow_33 (i := 3) rfl rfl ?_
    refine r_if_eq DX1_canShow_34 (tgt := 39) (by decide) (fun c34 => ?_) (fun c34 => ?_)
    · replace e := x_ift c34 e
      refine r_aload_n DX1_canShow_39 (i := 0) rfl rfl ?_
      refine r_iload_n DX1_canShow_40 (i := 1) rfl rfl ?_
      refine r_iload_n DX1_canShow_41 (i := 2) rfl rfl ?_
      obtain ⟨q42, e42, e⟩ := x_bnd e
      refine r_callV1 (As := [.int v1, .int v2]) (S := []) DX1_canShow_42 C_X1_38 (ci := 1) rfl rfl e_1 (by decide) (by decide) (Nat.le_of_ble_eq_true rfl) (t_X1_strays v1 v2 a e42) rfl ?_
      refine r_if_ne DX1_canShow_45 (tgt := 69) (by decide) (fun c45 => ?_) (fun c45 => ?_)
      · replace e := x_iff c45 e
        refine r_iconst DX1_canShow_69 (v := 1) (by decide) ?_
        refine r_goto DX1_canShow_70 (tgt := 74) (by decide) ?_
        obtain rfl := Option.some.inj e
        exact r_zret DX1_canShow_74 rfl (by decide) rfl
      · replace e := x_ift c45 e
        refine r_aload_n DX1_canShow_48 (i := 0) rfl rfl ?_
        refine r_get (v := .int (gI a 1)) DX1_canShow_49 F_X1_15 e_1 rfl ?_
        refine r_iconst DX1_canShow_52 (v := 3) (by decide) ?_
        refine r_icmp_ne DX1_canShow_53 (tgt := 73) (by decide) (fun c53 => ?_) (fun c53 => ?_)
        · replace e := x_iff c53 e
          refine r_iconst DX1_canShow_73 (v := 0) (by decide) ?_
          obtain rfl := Option.some.inj e
          exact r_zret DX1_canShow_74 rfl (by decide) rfl
        · replace e := x_ift c53 e
          refine r_aload_n DX1_canShow_56 (i := 0) rfl rfl ?_
          refine r_aload_n DX1_canShow_57 (i := 0) rfl rfl ?_
          refine r_iload_n DX1_canShow_58 (i := 1) rfl rfl ?_
          obtain ⟨q59, e59, e⟩ := x_bnd e
          refine r_callV1 (As := [.int v1]) (S := [.ref (xa g 1)]) DX1_canShow_59 C_X1_42 (ci := 1) rfl rfl e_1 (by decide) (by decide) (Nat.le_of_ble_eq_true rfl) (t_X1_reversed N v1 a e59) rfl ?_
          refine r_iload_n DX1_canShow_62 (i := 2) rfl rfl ?_
          obtain ⟨q63, e63, e⟩ := x_bnd e
          refine r_callV1 (As := [.int q59, .int v2]) (S := []) DX1_canShow_63 C_X1_38 (ci := 1) rfl rfl e_1 (by decide) (by decide) (Nat.le_of_ble_eq_true rfl) (t_X1_strays q59 v2 a e63) rfl ?_
          refine r_if_eq DX1_canShow_66 (tgt := 73) (by decide) (fun c66 => ?_) (fun c66 => ?_)
          · replace e := x_ift c66 e
            refine r_iconst DX1_canShow_73 (v := 0) (by decide) ?_
            obtain rfl := Option.some.inj e
            exact r_zret DX1_canShow_74 rfl (by decide) rfl
          · replace e := x_iff c66 e
            refine r_iconst DX1_canShow_69 (v := 1) (by decide) ?_
            refine r_goto DX1_canShow_70 (tgt := 74) (by decide) ?_
            obtain rfl := Option.some.inj e
            exact r_zret DX1_canShow_74 rfl (by decide) rfl
    · replace e := x_iff c34 e
      refine r_iconst DX1_canShow_37 (v := 0) (by decide) ?_
      obtain rfl := Option.some.inj e
      exact r_zret DX1_canShow_38 rfl (by decide) rfl
  · replace e := x_ift c4 e
    refine r_iload_n DX1_canShow_7 (i := 3) rfl rfl ?_
    obtain ⟨q8, e8, e⟩ := x_bnd e
    refine r_callS1 (As := [.int v3]) (S := []) DX1_canShow_8 C_X1_32 (by decide) (by decide) (Nat.le_of_ble_eq_true rfl) (t_J6_bitCount_0f7a4 v3 e8) rfl ?_
    refine r_aload_n DX1_canShow_11 (i := 0) rfl rfl ?_
    refine r_get (v := .int (gI a 2)) DX1_canShow_12 F_X1_18 e_1 rfl ?_
    refine r_icmp_gt DX1_canShow_15 (tgt := 31) (by decide) (fun c15 => ?_) (fun c15 => ?_)
    · replace e := x_ift c15 e
      refine r_iconst DX1_canShow_31 (v := 0) (by decide) ?_
      obtain rfl := Option.some.inj e
      exact r_zret DX1_canShow_32 rfl (by decide) rfl
    · replace e := x_iff c15 e
      refine r_iload_n DX1_canShow_18 (i := 1) rfl rfl ?_
      refine r_iload_n DX1_canShow_19 (i := 3) rfl rfl ?_
      refine r_iconst DX1_canShow_20 (v := (-1)) (by decide) ?_
      refine r_ixor DX1_canShow_21 ?_
      refine r_iand DX1_canShow_22 ?_
      refine r_iload_n DX1_canShow_23 (i := 2) rfl rfl ?_
      refine r_icmp_ne DX1_canShow_24 (tgt := 31) (by decide) (fun c24 => ?_) (fun c24 => ?_)
      · replace e := x_iff c24 e
        refine r_iconst DX1_canShow_31 (v := 0) (by decide) ?_
        obtain rfl := Option.some.inj e
        exact r_zret DX1_canShow_32 rfl (by decide) rfl
      · replace e := x_ift c24 e
        refine r_iconst DX1_canShow_27 (v := 1) (by decide) ?_
        refine r_goto DX1_canShow_28 (tgt := 32) (by decide) ?_
        obtain rfl := Option.some.inj e
        exact r_zret DX1_canShow_32 rfl (by decide) rfl

set_option maxRecDepth 100000 in
set_option maxHeartbeats 4000000 in
theorem t_X1_isSeen {l : Launch} {g : xG} {b : xT} (v1 : Int32) (v2 : Int32) (a : xT)  {r : Int32} (e : f_X1_isSeen v1 v2 a = some r) : Ev l g 2 yX1_isSeen M_X1_isSeen [.ref (xa g 1), .int v1, .int v2] (a, b) (some (.int r), (a, b)) := by
  unfold f_X1_isSeen at e
  refine Ev.of 0 (L0 := [some (.ref (xa g 1)), some (.int v1), some (.int v2)]) (by decide) rfl (Nat.le_of_ble_eq_true rfl) rfl ?_
  refine r_aload_n DX1_isSeen_0 (i := 0) rfl rfl ?_
  refine r_iload_n DX1_isSeen_1 (i := 1) rfl rfl ?_
  obtain ⟨q2, e2, e⟩ := x_bnd e
  refine r_callV1 (As := [.int v1]) (S := []) DX1_isSeen_2 C_X1_28 (ci := 1) rfl rfl e_1 (by decide) (by decide) (Nat.le_of_ble_eq_true rfl) (t_X1_isSet v1 a e2) rfl ?_
  refine r_if_eq DX1_isSeen_5 (tgt := 26) (by decide) (fun c5 => ?_) (fun c5 => ?_)
  · replace e := x_ift c5 e
    refine r_iconst DX1_isSeen_26 (v := 0) (by decide) ?_
    obtain rfl := Option.some.inj e
    exact r_zret DX1_isSeen_27 rfl (by decide) rfl
  · replace e := x_iff c5 e
    refine r_aload_n DX1_isSeen_8 (i := 0) rfl rfl ?_
    refine r_iload_n DX1_isSeen_9 (i := 2) rfl rfl ?_
    obtain ⟨q10, e10, e⟩ := x_bnd e
    refine r_callV1 (As := [.int v2]) (S := []) DX1_isSeen_10 C_X1_28 (ci := 1) rfl rfl e_1 (by decide) (by decide) (Nat.le_of_ble_eq_true rfl) (t_X1_isSet v2 a e10) rfl ?_
    refine r_if_eq DX1_isSeen_13 (tgt := 26) (by decide) (fun c13 => ?_) (fun c13 => ?_)
    · replace e := x_ift c13 e
      refine r_iconst DX1_isSeen_26 (v := 0) (by decide) ?_
      obtain rfl := Option.some.inj e
      exact r_zret DX1_isSeen_27 rfl (by decide) rfl
    · replace e := x_iff c13 e
      refine r_iload_n DX1_isSeen_16 (i := 1) rfl rfl ?_
      refine r_iload_n DX1_isSeen_17 (i := 2) rfl rfl ?_
      refine r_iand DX1_isSeen_18 ?_
      refine r_if_ne DX1_isSeen_19 (tgt := 26) (by decide) (fun c19 => ?_) (fun c19 => ?_)
      · replace e := x_iff c19 e
        refine r_iconst DX1_isSeen_26 (v := 0) (by decide) ?_
        obtain rfl := Option.some.inj e
        exact r_zret DX1_isSeen_27 rfl (by decide) rfl
      · replace e := x_ift c19 e
        refine r_iconst DX1_isSeen_22 (v := 1) (by decide) ?_
        refine r_goto DX1_isSeen_23 (tgt := 27) (by decide) ?_
        obtain rfl := Option.some.inj e
        exact r_zret DX1_isSeen_27 rfl (by decide) rfl
