set_option maxRecDepth 100000 in
set_option maxHeartbeats 4000000 in
theorem lp_X4_chanceOf_L5 {l : Launch} {g : xG} {b : xT} {R : Option Value × xS} (v1 : Int32) (a : xT) : ∀ (n : Nat) (v2 : Int64) (v4 : Int32) (r : (Int64)), f_X4_chanceOf_L5 v1 a n v2 v4 = some r → Rx l g 0 M_X4_chanceOf 66 [none, none, some (.long r), none, none] [] (a, b) R → Rx l g 0 M_X4_chanceOf 5 [some (.ref (xa g 3)), some (.int v1), some (.long v2), none, some (.int v4)] [] (a, b) R := by
  intro n
  induction n with
  | zero => intro v2_ v4_ r_ e; cases e
  | succ n ih =>
    intro v2 v4 r e K0
    rw [f_X4_chanceOf_L5] at e
    refine r_iload DX4_chanceOf_5 rfl ?_
    refine r_aload_n DX4_chanceOf_7 (i := 0) rfl rfl ?_
    refine r_get (v := .ref (xa g 4)) DX4_chanceOf_8 F_X4_9 e_3 rfl ?_
    refine r_alen (t0 := 0) (v := 12) DX4_chanceOf_11 e_4 rfl rfl ?_
    refine r_icmp_ge DX4_chanceOf_12 (tgt := 66) (by decide) (fun c12 => ?_) (fun c12 => ?_)
    · replace e := x_ift c12 e
      obtain rfl := Option.some.inj e
      refine r_mask (L' := [none, none, some (.long v2), none, none]) [false, false, true, false, false] rfl ?_
      exact K0
    · replace e := x_iff c12 e
      refine r_aload_n DX4_chanceOf_15 (i := 0) rfl rfl ?_
      refine r_get (v := .ref (xa g 4)) DX4_chanceOf_16 F_X4_9 e_3 rfl ?_
      refine r_iload DX4_chanceOf_19 rfl ?_
      obtain ⟨c21, e⟩ := x_grd e
      refine r_iald (f := (gA a 4)) DX4_chanceOf_21 e_4 rfl c21 ?_
      refine r_iconst DX4_chanceOf_22 (v := (-1)) (by decide) ?_
      refine r_icmp_eq DX4_chanceOf_23 (tgt := 60) (by decide) (fun c23 => ?_) (fun c23 => ?_)
      · replace e := x_ift c23 e
        refine r_iinc (L' := [some (.ref (xa g 3)), some (.int v1), some (.long v2), none, some (.int (v4 + 1))]) DX4_chanceOf_60 (x := v4) (v := (v4 + 1)) rfl rfl (by decide) rfl rfl ?_
        refine r_goto DX4_chanceOf_63 (tgt := 5) (by decide) ?_
        exact ih _ _ _ e K0
      · replace e := x_iff c23 e
        refine r_lload_n DX4_chanceOf_26 (i := 2) rfl rfl ?_
        refine r_iload_n DX4_chanceOf_27 (i := 1) rfl rfl ?_
        refine r_iload DX4_chanceOf_28 rfl ?_
        refine r_ishr DX4_chanceOf_30 ?_
        refine r_iconst DX4_chanceOf_31 (v := 1) (by decide) ?_
        refine r_iand DX4_chanceOf_32 ?_
        refine r_if_eq DX4_chanceOf_33 (tgt := 47) (by decide) (fun c33 => ?_) (fun c33 => ?_)
        · replace e := x_ift c33 e
          refine r_bipush DX4_chanceOf_47 (v := 9) (by decide) ?_
          refine r_aload_n DX4_chanceOf_49 (i := 0) rfl rfl ?_
          refine r_get (v := .ref (xa g 4)) DX4_chanceOf_50 F_X4_9 e_3 rfl ?_
          refine r_iload DX4_chanceOf_53 rfl ?_
          obtain ⟨c55, e⟩ := x_grd e
          refine r_iald (f := (gA a 4)) DX4_chanceOf_55 e_4 rfl c55 ?_
          refine r_isub DX4_chanceOf_56 ?_
          refine r_i2l DX4_chanceOf_57 ?_
          refine r_lmul DX4_chanceOf_58 ?_
          obtain ⟨w59, e59, e⟩ := x_bnd e
          refine r_lstore_nB (L' := [some (.ref (xa g 3)), some (.int v1), some (.long w59), none, some (.int v4)]) (w := w59) DX4_chanceOf_59 (Option.some.inj e59) (i := 2) rfl (by decide) rfl rfl ?_
          refine r_iinc (L' := [some (.ref (xa g 3)), some (.int v1), some (.long w59), none, some (.int (v4 + 1))]) DX4_chanceOf_60 (x := v4) (v := (v4 + 1)) rfl rfl (by decide) rfl rfl ?_
          refine r_goto DX4_chanceOf_63 (tgt := 5) (by decide) ?_
          exact ih _ _ _ e K0
        · replace e := x_iff c33 e
          refine r_aload_n DX4_chanceOf_36 (i := 0) rfl rfl ?_
          refine r_get (v := .ref (xa g 4)) DX4_chanceOf_37 F_X4_9 e_3 rfl ?_
          refine r_iload DX4_chanceOf_40 rfl ?_
          obtain ⟨c42, e⟩ := x_grd e
          refine r_iald (f := (gA a 4)) DX4_chanceOf_42 e_4 rfl c42 ?_
          refine r_i2l DX4_chanceOf_43 ?_
          refine r_goto DX4_chanceOf_44 (tgt := 58) (by decide) ?_
          refine r_lmul DX4_chanceOf_58 ?_
          obtain ⟨w59, e59, e⟩ := x_bnd e
          refine r_lstore_nB (L' := [some (.ref (xa g 3)), some (.int v1), some (.long w59), none, some (.int v4)]) (w := w59) DX4_chanceOf_59 (Option.some.inj e59) (i := 2) rfl (by decide) rfl rfl ?_
          refine r_iinc (L' := [some (.ref (xa g 3)), some (.int v1), some (.long w59), none, some (.int (v4 + 1))]) DX4_chanceOf_60 (x := v4) (v := (v4 + 1)) rfl rfl (by decide) rfl rfl ?_
          refine r_goto DX4_chanceOf_63 (tgt := 5) (by decide) ?_
          exact ih _ _ _ e K0

set_option maxRecDepth 100000 in
set_option maxHeartbeats 4000000 in
theorem t_X4_chanceOf {l : Launch} {g : xG} {b : xT} (N : Nat) (v1 : Int32) (a : xT)  {r : Int64} (e : f_X4_chanceOf N v1 a = some r) : Ev l g 0 yX4_chanceOf M_X4_chanceOf [.ref (xa g 3), .int v1] (a, b) (some (.long r), (a, b)) := by
  unfold f_X4_chanceOf at e
  refine Ev.of 3 (L0 := [some (.ref (xa g 3)), some (.int v1), none, none, none]) (by decide) rfl (Nat.le_of_ble_eq_true rfl) rfl ?_
  refine r_lconst DX4_chanceOf_0 (v := 1) (by decide) ?_
  refine r_lstore_n (L' := [some (.ref (xa g 3)), some (.int v1), some (.long 1), none, none]) DX4_chanceOf_1 (i := 2) rfl (by decide) rfl rfl ?_
  refine r_iconst DX4_chanceOf_2 (v := 0) (by decide) ?_
  refine r_istore (L' := [some (.ref (xa g 3)), some (.int v1), some (.long 1), none, some (.int 0)]) DX4_chanceOf_3 (by decide) rfl rfl ?_
  obtain ⟨q5, e5, e⟩ := x_bnd e
  refine lp_X4_chanceOf_L5 v1 a N 1 0 q5 e5 ?_
  refine r_lload_n DX4_chanceOf_66 (i := 2) rfl rfl ?_
  obtain rfl := Option.some.inj e
  exact r_lret DX4_chanceOf_67 rfl rfl

set_option maxRecDepth 100000 in
set_option maxHeartbeats 4000000 in
theorem lp_X4_lookedAt_L4 {l : Launch} {g : xG} {b : xT} {R : Option Value × xS} (a : xT) : ∀ (n : Nat) (v1 : Int32) (v2 : Int32) (r : (Int32)), f_X4_lookedAt_L4 a n v1 v2 = some r → Rx l g 0 M_X4_lookedAt 32 [none, some (.int r), none] [] (a, b) R → Rx l g 0 M_X4_lookedAt 4 [some (.ref (xa g 3)), some (.int v1), some (.int v2)] [] (a, b) R := by
  intro n
  induction n with
  | zero => intro v1_ v2_ r_ e; cases e
  | succ n ih =>
    intro v1 v2 r e K0
    rw [f_X4_lookedAt_L4] at e
    refine r_iload_n DX4_lookedAt_4 (i := 2) rfl rfl ?_
    refine r_aload_n DX4_lookedAt_5 (i := 0) rfl rfl ?_
    refine r_get (v := .ref (xa g 4)) DX4_lookedAt_6 F_X4_9 e_3 rfl ?_
    refine r_alen (t0 := 0) (v := 12) DX4_lookedAt_9 e_4 rfl rfl ?_
    refine r_icmp_ge DX4_lookedAt_10 (tgt := 32) (by decide) (fun c10 => ?_) (fun c10 => ?_)
    · replace e := x_ift c10 e
      obtain rfl := Option.some.inj e
      refine r_mask (L' := [none, some (.int v1), none]) [false, true, false] rfl ?_
      exact K0
    · replace e := x_iff c10 e
      refine r_aload_n DX4_lookedAt_13 (i := 0) rfl rfl ?_
      refine r_get (v := .ref (xa g 4)) DX4_lookedAt_14 F_X4_9 e_3 rfl ?_
      refine r_iload_n DX4_lookedAt_17 (i := 2) rfl rfl ?_
      obtain ⟨c18, e⟩ := x_grd e
      refine r_iald (f := (gA a 4)) DX4_lookedAt_18 e_4 rfl c18 ?_
      refine r_iconst DX4_lookedAt_19 (v := (-1)) (by decide) ?_
      refine r_icmp_eq DX4_lookedAt_20 (tgt := 26) (by decide) (fun c20 => ?_) (fun c20 => ?_)
      · replace e := x_ift c20 e
        refine r_iinc (L' := [some (.ref (xa g 3)), some (.int v1), some (.int (v2 + 1))]) DX4_lookedAt_26 (x := v2) (v := (v2 + 1)) rfl rfl (by decide) rfl rfl ?_
        refine r_goto DX4_lookedAt_29 (tgt := 4) (by decide) ?_
        exact ih _ _ _ e K0
      · replace e := x_iff c20 e
        refine r_iinc (L' := [some (.ref (xa g 3)), some (.int (v1 + 1)), some (.int v2)]) DX4_lookedAt_23 (x := v1) (v := (v1 + 1)) rfl rfl (by decide) rfl rfl ?_
        refine r_iinc (L' := [some (.ref (xa g 3)), some (.int (v1 + 1)), some (.int (v2 + 1))]) DX4_lookedAt_26 (x := v2) (v := (v2 + 1)) rfl rfl (by decide) rfl rfl ?_
        refine r_goto DX4_lookedAt_29 (tgt := 4) (by decide) ?_
        exact ih _ _ _ e K0

set_option maxRecDepth 100000 in
set_option maxHeartbeats 4000000 in
theorem t_X4_lookedAt {l : Launch} {g : xG} {b : xT} (N : Nat) (a : xT)  {r : Int32} (e : f_X4_lookedAt N a = some r) : Ev l g 0 yX4_lookedAt M_X4_lookedAt [.ref (xa g 3)] (a, b) (some (.int r), (a, b)) := by
  unfold f_X4_lookedAt at e
  refine Ev.of 2 (L0 := [some (.ref (xa g 3)), none, none]) (by decide) rfl (Nat.le_of_ble_eq_true rfl) rfl ?_
  refine r_iconst DX4_lookedAt_0 (v := 0) (by decide) ?_
  refine r_istore_n (L' := [some (.ref (xa g 3)), some (.int 0), none]) DX4_lookedAt_1 (i := 1) rfl (by decide) rfl rfl ?_
  refine r_iconst DX4_lookedAt_2 (v := 0) (by decide) ?_
  refine r_istore_n (L' := [some (.ref (xa g 3)), some (.int 0), some (.int 0)]) DX4_lookedAt_3 (i := 2) rfl (by decide) rfl rfl ?_
  obtain ⟨q4, e4, e⟩ := x_bnd e
  refine lp_X4_lookedAt_L4 a N 0 0 q4 e4 ?_
  refine r_iload_n DX4_lookedAt_32 (i := 1) rfl rfl ?_
  obtain rfl := Option.some.inj e
  exact r_iret DX4_lookedAt_33 rfl rfl

set_option maxRecDepth 100000 in
set_option maxHeartbeats 4000000 in
theorem lp_X4_possible_L4 {l : Launch} {g : xG} {b : xT} {R : Option Value × xS} (a : xT) : ∀ (n : Nat) (v1 : Int32) (v2 : Int32) (r : (Int32)), f_X4_possible_L4 a n v1 v2 = some r → Rx l g 0 M_X4_possible 32 [none, some (.int r), none] [] (a, b) R → Rx l g 0 M_X4_possible 4 [some (.ref (xa g 3)), some (.int v1), some (.int v2)] [] (a, b) R := by
  intro n
  induction n with
  | zero => intro v1_ v2_ r_ e; cases e
  | succ n ih =>
    intro v1 v2 r e K0
    rw [f_X4_possible_L4] at e
    refine r_iload_n DX4_possible_4 (i := 2) rfl rfl ?_
    refine r_aload_n DX4_possible_5 (i := 0) rfl rfl ?_
    refine r_get (v := .int (gI a 4)) DX4_possible_6 F_X4_19 e_3 rfl ?_
    refine r_icmp_ge DX4_possible_9 (tgt := 32) (by decide) (fun c9 => ?_) (fun c9 => ?_)
    · replace e := x_ift c9 e
      obtain rfl := Option.some.inj e
      refine r_mask (L' := [none, some (.int v1), none]) [false, true, false] rfl ?_
      exact K0
    · replace e := x_iff c9 e
      refine r_aload_n DX4_possible_12 (i := 0) rfl rfl ?_
      refine r_get (v := .ref (xa g 5)) DX4_possible_13 F_X4_15 e_3 rfl ?_
      refine r_iload_n DX4_possible_16 (i := 2) rfl rfl ?_
      obtain ⟨c17, e⟩ := x_grd e
      refine r_lald (f := (gB a 5)) DX4_possible_17 e_5 rfl c17 ?_
      refine r_lconst DX4_possible_18 (v := 0) (by decide) ?_
      refine r_lcmp_le DX4_possible_19 DX4_possible_20 (tgt := 26) (by decide) (fun c19 => ?_) (fun c19 => ?_)
      · replace e := x_ift c19 e
        refine r_iinc (L' := [some (.ref (xa g 3)), some (.int v1), some (.int (v2 + 1))]) DX4_possible_26 (x := v2) (v := (v2 + 1)) rfl rfl (by decide) rfl rfl ?_
        refine r_goto DX4_possible_29 (tgt := 4) (by decide) ?_
        exact ih _ _ _ e K0
      · replace e := x_iff c19 e
        refine r_iinc (L' := [some (.ref (xa g 3)), some (.int (v1 + 1)), some (.int v2)]) DX4_possible_23 (x := v1) (v := (v1 + 1)) rfl rfl (by decide) rfl rfl ?_
        refine r_iinc (L' := [some (.ref (xa g 3)), some (.int (v1 + 1)), some (.int (v2 + 1))]) DX4_possible_26 (x := v2) (v := (v2 + 1)) rfl rfl (by decide) rfl rfl ?_
        refine r_goto DX4_possible_29 (tgt := 4) (by decide) ?_
        exact ih _ _ _ e K0

set_option maxRecDepth 100000 in
set_option maxHeartbeats 4000000 in
theorem t_X4_possible {l : Launch} {g : xG} {b : xT} (N : Nat) (a : xT)  {r : Int32} (e : f_X4_possible N a = some r) : Ev l g 0 yX4_possible M_X4_possible [.ref (xa g 3)] (a, b) (some (.int r), (a, b)) := by
  unfold f_X4_possible at e
  refine Ev.of 2 (L0 := [some (.ref (xa g 3)), none, none]) (by decide) rfl (Nat.le_of_ble_eq_true rfl) rfl ?_
  refine r_iconst DX4_possible_0 (v := 0) (by decide) ?_
  refine r_istore_n (L' := [some (.ref (xa g 3)), some (.int 0), none]) DX4_possible_1 (i := 1) rfl (by decide) rfl rfl ?_
  refine r_iconst DX4_possible_2 (v := 0) (by decide) ?_
  refine r_istore_n (L' := [some (.ref (xa g 3)), some (.int 0), some (.int 0)]) DX4_possible_3 (i := 2) rfl (by decide) rfl rfl ?_
  obtain ⟨q4, e4, e⟩ := x_bnd e
  refine lp_X4_possible_L4 a N 0 0 q4 e4 ?_
  refine r_iload_n DX4_possible_32 (i := 1) rfl rfl ?_
  obtain rfl := Option.some.inj e
  exact r_iret DX4_possible_33 rfl rfl

set_option maxRecDepth 100000 in
set_option maxHeartbeats 4000000 in
theorem lp_X4_ahead_L4 {l : Launch} {g : xG} {b : xT} {R : Option Value × xS} (v1 : Int32) (a : xT) : ∀ (n : Nat) (v2 : Int32) (v3 : Int32) (r : (Int32)), f_X4_ahead_L4 v1 a n v2 v3 = some r → Rx l g 0 M_X4_ahead 58 [none, none, some (.int r), none] [] (a, b) R → Rx l g 0 M_X4_ahead 4 [some (.ref (xa g 3)), some (.int v1), some (.int v2), some (.int v3)] [] (a, b) R := by
  intro n
  induction n with
  | zero => intro v2_ v3_ r_ e; cases e
  | succ n ih =>
    intro v2 v3 r e K0
    rw [f_X4_ahead_L4] at e
    refine r_iload_n DX4_ahead_4 (i := 3) rfl rfl ?_
    refine r_aload_n DX4_ahead_5 (i := 0) rfl rfl ?_
    refine r_get (v := .int (gI a 4)) DX4_ahead_6 F_X4_19 e_3 rfl ?_
    refine r_icmp_ge DX4_ahead_9 (tgt := 58) (by decide) (fun c9 => ?_) (fun c9 => ?_)
    · replace e := x_ift c9 e
      obtain rfl := Option.some.inj e
      refine r_mask (L' := [none, none, some (.int v2), none]) [false, false, true, false] rfl ?_
      exact K0
    · replace e := x_iff c9 e
      refine r_aload_n DX4_ahead_12 (i := 0) rfl rfl ?_
      refine r_get (v := .ref (xa g 5)) DX4_ahead_13 F_X4_15 e_3 rfl ?_
      refine r_iload_n DX4_ahead_16 (i := 3) rfl rfl ?_
      obtain ⟨c17, e⟩ := x_grd e
      refine r_lald (f := (gB a 5)) DX4_ahead_17 e_5 rfl c17 ?_
      refine r_aload_n DX4_ahead_18 (i := 0) rfl rfl ?_
      refine r_get (v := .ref (xa g 5)) DX4_ahead_19 F_X4_15 e_3 rfl ?_
      refine r_iload_n DX4_ahead_22 (i := 1) rfl rfl ?_
      obtain ⟨c23, e⟩ := x_grd e
      refine r_lald (f := (gB a 5)) DX4_ahead_23 e_5 rfl c23 ?_
      refine r_lcmp_gt DX4_ahead_24 DX4_ahead_25 (tgt := 49) (by decide) (fun c24 => ?_) (fun c24 => ?_)
      · replace e := x_ift c24 e
        refine r_iinc (L' := [some (.ref (xa g 3)), some (.int v1), some (.int (v2 + 1)), some (.int v3)]) DX4_ahead_49 (x := v2) (v := (v2 + 1)) rfl rfl (by decide) rfl rfl ?_
        refine r_iinc (L' := [some (.ref (xa g 3)), some (.int v1), some (.int (v2 + 1)), some (.int (v3 + 1))]) DX4_ahead_52 (x := v3) (v := (v3 + 1)) rfl rfl (by decide) rfl rfl ?_
        refine r_goto DX4_ahead_55 (tgt := 4) (by decide) ?_
        exact ih _ _ _ e K0
      · replace e := x_iff c24 e
        refine r_aload_n DX4_ahead_28 (i := 0) rfl rfl ?_
        refine r_get (v := .ref (xa g 5)) DX4_ahead_29 F_X4_15 e_3 rfl ?_
        refine r_iload_n DX4_ahead_32 (i := 3) rfl rfl ?_
        obtain ⟨c33, e⟩ := x_grd e
        refine r_lald (f := (gB a 5)) DX4_ahead_33 e_5 rfl c33 ?_
        refine r_aload_n DX4_ahead_34 (i := 0) rfl rfl ?_
        refine r_get (v := .ref (xa g 5)) DX4_ahead_35 F_X4_15 e_3 rfl ?_
        refine r_iload_n DX4_ahead_38 (i := 1) rfl rfl ?_
        obtain ⟨c39, e⟩ := x_grd e
        refine r_lald (f := (gB a 5)) DX4_ahead_39 e_5 rfl c39 ?_
        refine r_lcmp_ne DX4_ahead_40 DX4_ahead_41 (tgt := 52) (by decide) (fun c40 => ?_) (fun c40 => ?_)
        · replace e := x_iff c40 e
          refine r_iinc (L' := [some (.ref (xa g 3)), some (.int v1), some (.int v2), some (.int (v3 + 1))]) DX4_ahead_52 (x := v3) (v := (v3 + 1)) rfl rfl (by decide) rfl rfl ?_
          refine r_goto DX4_ahead_55 (tgt := 4) (by decide) ?_
          exact ih _ _ _ e K0
        · replace e := x_ift c40 e
          refine r_iload_n DX4_ahead_44 (i := 3) rfl rfl ?_
          refine r_iload_n DX4_ahead_45 (i := 1) rfl rfl ?_
          refine r_icmp_ge DX4_ahead_46 (tgt := 52) (by decide) (fun c46 => ?_) (fun c46 => ?_)
          · replace e := x_ift c46 e
            refine r_iinc (L' := [some (.ref (xa g 3)), some (.int v1), some (.int v2), some (.int (v3 + 1))]) DX4_ahead_52 (x := v3) (v := (v3 + 1)) rfl rfl (by decide) rfl rfl ?_
            refine r_goto DX4_ahead_55 (tgt := 4) (by decide) ?_
            exact ih _ _ _ e K0
          · replace e := x_iff c46 e
            refine r_iinc (L' := [some (.ref (xa g 3)), some (.int v1), some (.int (v2 + 1)), some (.int v3)]) DX4_ahead_49 (x := v2) (v := (v2 + 1)) rfl rfl (by decide) rfl rfl ?_
            refine r_iinc (L' := [some (.ref (xa g 3)), some (.int v1), some (.int (v2 + 1)), some (.int (v3 + 1))]) DX4_ahead_52 (x := v3) (v := (v3 + 1)) rfl rfl (by decide) rfl rfl ?_
            refine r_goto DX4_ahead_55 (tgt := 4) (by decide) ?_
            exact ih _ _ _ e K0

set_option maxRecDepth 100000 in
set_option maxHeartbeats 4000000 in
theorem t_X4_ahead {l : Launch} {g : xG} {b : xT} (N : Nat) (v1 : Int32) (a : xT)  {r : Int32} (e : f_X4_ahead N v1 a = some r) : Ev l g 0 yX4_ahead M_X4_ahead [.ref (xa g 3), .int v1] (a, b) (some (.int r), (a, b)) := by
  unfold f_X4_ahead at e
  refine Ev.of 2 (L0 := [some (.ref (xa g 3)), some (.int v1), none, none]) (by decide) rfl (Nat.le_of_ble_eq_true rfl) rfl ?_
  refine r_iconst DX4_ahead_0 (v := 0) (by decide) ?_
  refine r_istore_n (L' := [some (.ref (xa g 3)), some (.int v1), some (.int 0), none]) DX4_ahead_1 (i := 2) rfl (by decide) rfl rfl ?_
  refine r_iconst DX4_ahead_2 (v := 0) (by decide) ?_
  refine r_istore_n (L' := [some (.ref (xa g 3)), some (.int v1), some (.int 0), some (.int 0)]) DX4_ahead_3 (i := 3) rfl (by decide) rfl rfl ?_
  obtain ⟨q4, e4, e⟩ := x_bnd e
  refine lp_X4_ahead_L4 v1 a N 0 0 q4 e4 ?_
  refine r_iload_n DX4_ahead_58 (i := 2) rfl rfl ?_
  obtain rfl := Option.some.inj e
  exact r_iret DX4_ahead_59 rfl rfl

set_option maxRecDepth 100000 in
set_option maxHeartbeats 4000000 in
theorem lp_X4_ranked_L2 {l : Launch} {g : xG} {b : xT} {R : Option Value × xS} (N : Nat) (v1 : Int32) (a : xT) : ∀ (n : Nat) (v2 : Int32) (r : ((Unit) ⊕ (Int32))), f_X4_ranked_L2 N v1 a n v2 = some r → (∀ z, r = (.inl z) → Rx l g 1 M_X4_ranked 38 [none, none, none] [] (a, b) R) → (∀ z, r = (.inr (z)) → Rx l g 1 M_X4_ranked 30 [none, none, some (.int z)] [] (a, b) R) → Rx l g 1 M_X4_ranked 2 [some (.ref (xa g 3)), some (.int v1), some (.int v2)] [] (a, b) R := by
  intro n
  induction n with
  | zero => intro v2_ r_ e; cases e
  | succ n ih =>
    intro v2 r e K0 K1
    rw [f_X4_ranked_L2] at e
    refine r_iload_n DX4_ranked_2 (i := 2) rfl rfl ?_
    refine r_aload_n DX4_ranked_3 (i := 0) rfl rfl ?_
    refine r_get (v := .int (gI a 4)) DX4_ranked_4 F_X4_19 e_3 rfl ?_
    refine r_icmp_ge DX4_ranked_7 (tgt := 38) (by decide) (fun c7 => ?_) (fun c7 => ?_)
    · replace e := x_ift c7 e
      obtain rfl := Option.some.inj e
      refine r_mask (L' := [none, none, none]) [false, false, false] rfl ?_
      exact K0 _ rfl
    · replace e := x_iff c7 e
      refine r_aload_n DX4_ranked_10 (i := 0) rfl rfl ?_
      refine r_get (v := .ref (xa g 5)) DX4_ranked_11 F_X4_15 e_3 rfl ?_
      refine r_iload_n DX4_ranked_14 (i := 2) rfl rfl ?_
      obtain ⟨c15, e⟩ := x_grd e
      refine r_lald (f := (gB a 5)) DX4_ranked_15 e_5 rfl c15 ?_
      refine r_lconst DX4_ranked_16 (v := 0) (by decide) ?_
      refine r_lcmp_le DX4_ranked_17 DX4_ranked_18 (tgt := 32) (by decide) (fun c17 => ?_) (fun c17 => ?_)
      · replace e := x_ift c17 e
        refine r_iinc (L' := [some (.ref (xa g 3)), some (.int v1), some (.int (v2 + 1))]) DX4_ranked_32 (x := v2) (v := (v2 + 1)) rfl rfl (by decide) rfl rfl ?_
        refine r_goto DX4_ranked_35 (tgt := 2) (by decide) ?_
        exact ih _ _ e K0 K1
      · replace e := x_iff c17 e
        refine r_aload_n DX4_ranked_21 (i := 0) rfl rfl ?_
        refine r_iload_n DX4_ranked_22 (i := 2) rfl rfl ?_
        obtain ⟨q23, e23, e⟩ := x_bnd e
        refine r_callV1 (As := [.int v2]) (S := []) DX4_ranked_23 C_X4_41 (ci := 4) rfl rfl e_3 (by decide) (by decide) (Nat.le_of_ble_eq_true rfl) (t_X4_ahead N v2 a e23) rfl ?_
        refine r_iload_n DX4_ranked_26 (i := 1) rfl rfl ?_
        refine r_icmp_ne DX4_ranked_27 (tgt := 32) (by decide) (fun c27 => ?_) (fun c27 => ?_)
        · replace e := x_iff c27 e
          refine r_iinc (L' := [some (.ref (xa g 3)), some (.int v1), some (.int (v2 + 1))]) DX4_ranked_32 (x := v2) (v := (v2 + 1)) rfl rfl (by decide) rfl rfl ?_
          refine r_goto DX4_ranked_35 (tgt := 2) (by decide) ?_
          exact ih _ _ e K0 K1
        · replace e := x_ift c27 e
          obtain rfl := Option.some.inj e
          refine r_mask (L' := [none, none, some (.int v2)]) [false, false, true] rfl ?_
          exact K1 _ rfl

set_option maxRecDepth 100000 in
set_option maxHeartbeats 4000000 in
theorem t_X4_ranked {l : Launch} {g : xG} {b : xT} (N : Nat) (v1 : Int32) (a : xT)  {r : Int32} (e : f_X4_ranked N v1 a = some r) : Ev l g 1 yX4_ranked M_X4_ranked [.ref (xa g 3), .int v1] (a, b) (some (.int r), (a, b)) := by
  unfold f_X4_ranked at e
  refine Ev.of 1 (L0 := [some (.ref (xa g 3)), some (.int v1), none]) (by decide) rfl (Nat.le_of_ble_eq_true rfl) rfl ?_
  refine r_iconst DX4_ranked_0 (v := 0) (by decide) ?_
  refine r_istore_n (L' := [some (.ref (xa g 3)), some (.int v1), some (.int 0)]) DX4_ranked_1 (i := 2) rfl (by decide) rfl rfl ?_
  obtain ⟨q2, e2, e⟩ := x_bnd e
  refine lp_X4_ranked_L2 N v1 a N 0 q2 e2 (fun z2_38 w2 => ?_) (fun z2_30 w2 => ?_)
  · subst w2
    dsimp only [Sum.elim] at e
    refine r_iconst DX4_ranked_38 (v := (-1)) (by decide) ?_
    obtain rfl := Option.some.inj e
    exact r_iret DX4_ranked_39 rfl rfl
  · subst w2
    dsimp only [Sum.elim] at e
    refine r_iload_n DX4_ranked_30 (i := 2) rfl rfl ?_
    obtain rfl := Option.some.inj e
    exact r_iret DX4_ranked_31 rfl rfl

set_option maxRecDepth 100000 in
set_option maxHeartbeats 4000000 in
theorem lp_X4_weigh_L10 {l : Launch} {g : xG} {b : xT} {R : Option Value × xS} (N : Nat) (k1 : Nat) (hk1 : k1 < 7): ∀ (n : Nat) (v2 : Int32) (a : xT) (r : (xT)), f_X4_weigh_L10 N k1 n v2 a = some r → Rx l g 1 M_X4_weigh 40 [none, none, none] [] (r, b) R → Rx l g 1 M_X4_weigh 10 [some (.ref (xa g 3)), some (.ref (xa g (23 + k1))), some (.int v2)] [] (a, b) R := by
  intro n
  induction n with
  | zero => intro v2_ s_ r_ e; cases e
  | succ n ih =>
    intro v2 a r e K0
    rw [f_X4_weigh_L10] at e
    refine r_iload_n DX4_weigh_10 (i := 2) rfl rfl ?_
    refine r_aload_n DX4_weigh_11 (i := 0) rfl rfl ?_
    refine r_get (v := .int (gI a 4)) DX4_weigh_12 F_X4_19 e_3 rfl ?_
    refine r_icmp_ge DX4_weigh_15 (tgt := 40) (by decide) (fun c15 => ?_) (fun c15 => ?_)
    · replace e := x_ift c15 e
      obtain rfl := Option.some.inj e
      refine r_mask (L' := [none, none, none]) [false, false, false] rfl ?_
      exact K0
    · replace e := x_iff c15 e
      refine r_aload_n DX4_weigh_18 (i := 0) rfl rfl ?_
      refine r_get (v := .ref (xa g 5)) DX4_weigh_19 F_X4_15 e_3 rfl ?_
      refine r_iload_n DX4_weigh_22 (i := 2) rfl rfl ?_
      refine r_aload_n DX4_weigh_23 (i := 0) rfl rfl ?_
      refine r_aload_n DX4_weigh_24 (i := 1) rfl rfl ?_
      refine r_get (v := .ref (xa g (30 + k1))) DX4_weigh_25 F_X4_34 (e_ml hk1) rfl ?_
      refine r_iload_n DX4_weigh_28 (i := 2) rfl rfl ?_
      obtain ⟨c29, e⟩ := x_grd e
      refine r_iald (f := (gA a (30 + k1))) DX4_weigh_29 (e_mk hk1) rfl c29 ?_
      obtain ⟨q30, e30, e⟩ := x_bnd e
      refine r_callV1 (As := [.int ((gA a (30 + k1)) (Int32.toNatClampNeg v2))]) (S := [.int v2, .ref (xa g 5)]) DX4_weigh_30 C_X4_37 (ci := 4) rfl rfl e_3 (by decide) (by decide) (Nat.le_of_ble_eq_true rfl) (t_X4_chanceOf N ((gA a (30 + k1)) (Int32.toNatClampNeg v2)) a e30) rfl ?_
      obtain ⟨c33, e⟩ := x_grd e
      refine r_last (f := (gB a 5)) DX4_weigh_33 e_5 rfl c33 p_5 ?_
      refine r_iinc (L' := [some (.ref (xa g 3)), some (.ref (xa g (23 + k1))), some (.int (v2 + 1))]) DX4_weigh_34 (x := v2) (v := (v2 + 1)) rfl rfl (by decide) rfl rfl ?_
      refine r_goto DX4_weigh_37 (tgt := 10) (by decide) ?_
      exact ih _ _ _ e K0

set_option maxRecDepth 100000 in
set_option maxHeartbeats 4000000 in
theorem t_X4_weigh {l : Launch} {g : xG} {b : xT} (N : Nat) (k1 : Nat) (a : xT) (hk1 : k1 < 7) {r : xT} (e : f_X4_weigh N k1 a = some r) : Ev l g 1 yX4_weigh M_X4_weigh [.ref (xa g 3), .ref (xa g (23 + k1))] (a, b) (none, (r, b)) := by
  unfold f_X4_weigh at e
  refine Ev.of 1 (L0 := [some (.ref (xa g 3)), some (.ref (xa g (23 + k1))), none]) (by decide) rfl (Nat.le_of_ble_eq_true rfl) rfl ?_
  refine r_aload_n DX4_weigh_0 (i := 0) rfl rfl ?_
  refine r_aload_n DX4_weigh_1 (i := 1) rfl rfl ?_
  refine r_get (v := .int (gI a (23 + k1))) DX4_weigh_2 F_X4_29 (e_ml hk1) rfl ?_
  refine r_put (ty := .int) DX4_weigh_5 F_X4_19 Fp_4_2 e_3 rfl rfl (Nat.le_of_ble_eq_true rfl) p_3_2 ?_
  refine r_iconst DX4_weigh_8 (v := 0) (by decide) ?_
  refine r_istore_n (L' := [some (.ref (xa g 3)), some (.ref (xa g (23 + k1))), some (.int 0)]) DX4_weigh_9 (i := 2) rfl (by decide) rfl rfl ?_
  obtain ⟨q10, e10, e⟩ := x_bnd e
  refine lp_X4_weigh_L10 N k1 hk1 N 0 (sI a 4 (gI a (23 + k1))) q10 e10 ?_
  obtain rfl := Option.some.inj e
  exact r_vret DX4_weigh_40 rfl rfl

set_option maxRecDepth 100000 in
set_option maxHeartbeats 4000000 in
theorem t_X4_forget {l : Launch} {g : xG} {b : xT} (N : Nat) (a : xT)  {r : xT} (e : f_X4_forget N a = some r) : Ev l g 1 yX4_forget M_X4_forget [.ref (xa g 3)] (a, b) (none, (r, b)) := by
  unfold f_X4_forget at e
  refine Ev.of 0 (L0 := [some (.ref (xa g 3))]) (by decide) rfl (Nat.le_of_ble_eq_true rfl) rfl ?_
  refine r_aload_n DX4_forget_0 (i := 0) rfl rfl ?_
  refine r_get (v := .ref (xa g 4)) DX4_forget_1 F_X4_9 e_3 rfl ?_
  refine r_iconst DX4_forget_4 (v := (-1)) (by decide) ?_
  obtain ⟨q5, e5, e⟩ := x_bnd e
  refine r_callS0 (As := [.ref (xa g 4), .int (-1)]) (S := []) DX4_forget_5 C_X4_23 (by decide) (by decide) (Nat.le_of_ble_eq_true rfl) (t_J7_fill_53178 N (-1) a e5) rfl ?_
  obtain rfl := Option.some.inj e
  exact r_vret DX4_forget_8 rfl rfl
