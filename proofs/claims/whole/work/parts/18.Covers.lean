set_option maxRecDepth 100000 in
set_option maxHeartbeats 4000000 in
theorem t_X0_offer {l : Launch} {g : xG} {b : xT} (v1 : Int32) (v2 : Int32) (a : xT)  {r : xT} (e : f_X0_offer v1 v2 a = some r) : Ev l g 0 yX0_offer M_X0_offer [.ref (xa g 19), .int v1, .int v2] (a, b) (none, (r, b)) := by
  unfold f_X0_offer at e
  refine Ev.of 0 (L0 := [some (.ref (xa g 19)), some (.int v1), some (.int v2)]) (by decide) rfl (Nat.le_of_ble_eq_true rfl) rfl ?_
  refine r_aload_n DX0_offer_0 (i := 0) rfl rfl ?_
  refine r_get (v := .int (gI a 17)) DX0_offer_1 F_X0_21 e_19 rfl ?_
  refine r_bipush DX0_offer_4 (v := 64) (by decide) ?_
  refine r_icmp_ge DX0_offer_6 (tgt := 39) (by decide) (fun c6 => ?_) (fun c6 => ?_)
  · replace e := x_ift c6 e
    obtain rfl := Option.some.inj e
    exact r_vret DX0_offer_39 rfl rfl
  · replace e := x_iff c6 e
    refine r_aload_n DX0_offer_9 (i := 0) rfl rfl ?_
    refine r_get (v := .ref (xa g 20)) DX0_offer_10 F_X0_9 e_19 rfl ?_
    refine r_aload_n DX0_offer_13 (i := 0) rfl rfl ?_
    refine r_get (v := .int (gI a 17)) DX0_offer_14 F_X0_21 e_19 rfl ?_
    refine r_iload_n DX0_offer_17 (i := 2) rfl rfl ?_
    obtain ⟨c18, e⟩ := x_grd e
    refine r_iast (f := (gA a 20)) DX0_offer_18 e_20 rfl c18 p_20 ?_
    refine r_aload_n DX0_offer_19 (i := 0) rfl rfl ?_
    refine r_get (v := .ref (xa g 21)) DX0_offer_20 F_X0_15 e_19 rfl ?_
    refine r_aload_n DX0_offer_23 (i := 0) rfl rfl ?_
    refine r_get (v := .int (gI a 17)) DX0_offer_24 F_X0_21 e_19 rfl ?_
    refine r_iload_n DX0_offer_27 (i := 1) rfl rfl ?_
    obtain ⟨c28, e⟩ := x_grd e
    refine r_iast (f := (gA a 21)) DX0_offer_28 e_21 rfl c28 p_21 ?_
    refine r_aload_n DX0_offer_29 (i := 0) rfl rfl ?_
    refine r_dup DX0_offer_30 rfl ?_
    refine r_get (v := .int (gI a 17)) DX0_offer_31 F_X0_21 e_19 rfl ?_
    refine r_iconst DX0_offer_34 (v := 1) (by decide) ?_
    refine r_iadd DX0_offer_35 ?_
    refine r_put (ty := .int) DX0_offer_36 F_X0_21 Fp_0_3 e_19 rfl rfl (Nat.le_of_ble_eq_true rfl) p_19_3 ?_
    obtain rfl := Option.some.inj e
    exact r_vret DX0_offer_39 rfl rfl

set_option maxRecDepth 100000 in
set_option maxHeartbeats 4000000 in
theorem t_X0_start {l : Launch} {g : xG} {b : xT} (v1 : Int32) (a : xT)  {r : xT} (e : f_X0_start v1 a = some r) : Ev l g 0 yX0_start M_X0_start [.ref (xa g 19), .int v1] (a, b) (none, (r, b)) := by
  unfold f_X0_start at e
  refine Ev.of 0 (L0 := [some (.ref (xa g 19)), some (.int v1)]) (by decide) rfl (Nat.le_of_ble_eq_true rfl) rfl ?_
  refine r_aload_n DX0_start_0 (i := 0) rfl rfl ?_
  refine r_iload_n DX0_start_1 (i := 1) rfl rfl ?_
  refine r_put (ty := .int) DX0_start_2 F_X0_25 Fp_0_4 e_19 rfl rfl (Nat.le_of_ble_eq_true rfl) p_19_4 ?_
  refine r_aload_n DX0_start_5 (i := 0) rfl rfl ?_
  refine r_iconst DX0_start_6 (v := 0) (by decide) ?_
  refine r_put (ty := .int) DX0_start_7 F_X0_21 Fp_0_3 e_19 rfl rfl (Nat.le_of_ble_eq_true rfl) p_19_3 ?_
  obtain rfl := Option.some.inj e
  exact r_vret DX0_start_10 rfl rfl

set_option maxRecDepth 100000 in
set_option maxHeartbeats 4000000 in
theorem t_X0_tally {l : Launch} {g : xG} {b : xT} (v1 : Int32) (v2 : Int32) (v3 : Int32) (v4 : Int32) (a : xT)  {r : xT} (e : f_X0_tally v1 v2 v3 v4 a = some r) : Ev l g 0 yX0_tally M_X0_tally [.ref (xa g 19), .int v1, .int v2, .int v3, .int v4] (a, b) (none, (r, b)) := by
  unfold f_X0_tally at e
  refine Ev.of 0 (L0 := [some (.ref (xa g 19)), some (.int v1), some (.int v2), some (.int v3), some (.int v4)]) (by decide) rfl (Nat.le_of_ble_eq_true rfl) rfl ?_
  refine r_aload_n DX0_tally_0 (i := 0) rfl rfl ?_
  refine r_dup DX0_tally_1 rfl ?_
  refine r_get (v := .int (gI a 19)) DX0_tally_2 F_X0_28 e_19 rfl ?_
  refine r_iconst DX0_tally_5 (v := 1) (by decide) ?_
  refine r_iadd DX0_tally_6 ?_
  refine r_put (ty := .int) DX0_tally_7 F_X0_28 Fp_0_5 e_19 rfl rfl (Nat.le_of_ble_eq_true rfl) p_19_5 ?_
  refine r_aload_n DX0_tally_10 (i := 0) rfl rfl ?_
  refine r_dup DX0_tally_11 rfl ?_
  refine r_get (v := .long (gJ a 0)) DX0_tally_12 F_X0_34 e_19 rfl ?_
  refine r_lconst DX0_tally_15 (v := 1) (by decide) ?_
  refine r_aload_n DX0_tally_16 (i := 0) rfl rfl ?_
  refine r_get (v := .ref (xa g 21)) DX0_tally_17 F_X0_15 e_19 rfl ?_
  refine r_iload_n DX0_tally_20 (i := 2) rfl rfl ?_
  obtain ⟨c21, e⟩ := x_grd e
  refine r_iald (f := (gA a 21)) DX0_tally_21 e_21 rfl c21 ?_
  refine r_lshl DX0_tally_22 ?_
  refine r_lconst DX0_tally_23 (v := 1) (by decide) ?_
  refine r_aload_n DX0_tally_24 (i := 0) rfl rfl ?_
  refine r_get (v := .ref (xa g 21)) DX0_tally_25 F_X0_15 e_19 rfl ?_
  refine r_iload_n DX0_tally_28 (i := 3) rfl rfl ?_
  obtain ⟨c29, e⟩ := x_grd e
  refine r_iald (f := (gA a 21)) DX0_tally_29 e_21 rfl c29 ?_
  refine r_lshl DX0_tally_30 ?_
  refine r_lor DX0_tally_31 ?_
  refine r_lconst DX0_tally_32 (v := 1) (by decide) ?_
  refine r_aload_n DX0_tally_33 (i := 0) rfl rfl ?_
  refine r_get (v := .ref (xa g 21)) DX0_tally_34 F_X0_15 e_19 rfl ?_
  refine r_iload DX0_tally_37 rfl ?_
  obtain ⟨c39, e⟩ := x_grd e
  refine r_iald (f := (gA a 21)) DX0_tally_39 e_21 rfl c39 ?_
  refine r_lshl DX0_tally_40 ?_
  refine r_lor DX0_tally_41 ?_
  refine r_land DX0_tally_42 ?_
  refine r_put (ty := .long) DX0_tally_43 F_X0_34 Fp_0_7 e_19 rfl rfl (Nat.le_of_ble_eq_true rfl) p_19_7 ?_
  refine r_aload_n DX0_tally_46 (i := 0) rfl rfl ?_
  refine r_get (v := .int (gI a 20)) DX0_tally_47 F_X0_31 e_19 rfl ?_
  refine r_iconst DX0_tally_50 (v := (-1)) (by decide) ?_
  refine r_icmp_ne DX0_tally_51 (tgt := 96) (by decide) (fun c51 => ?_) (fun c51 => ?_)
  · replace e := x_iff c51 e
    obtain rfl := Option.some.inj e
    exact r_vret DX0_tally_96 rfl rfl
  · replace e := x_ift c51 e
    refine r_aload_n DX0_tally_54 (i := 0) rfl rfl ?_
    refine r_iload_n DX0_tally_55 (i := 1) rfl rfl ?_
    refine r_put (ty := .int) DX0_tally_56 F_X0_31 Fp_0_6 e_19 rfl rfl (Nat.le_of_ble_eq_true rfl) p_19_6 ?_
    refine r_aload_n DX0_tally_59 (i := 0) rfl rfl ?_
    refine r_get (v := .ref (xa g 22)) DX0_tally_60 F_X0_18 e_19 rfl ?_
    refine r_iconst DX0_tally_63 (v := 0) (by decide) ?_
    refine r_aload_n DX0_tally_64 (i := 0) rfl rfl ?_
    refine r_get (v := .ref (xa g 21)) DX0_tally_65 F_X0_15 e_19 rfl ?_
    refine r_iload_n DX0_tally_68 (i := 2) rfl rfl ?_
    obtain ⟨c69, e⟩ := x_grd e
    refine r_iald (f := (gA a 21)) DX0_tally_69 e_21 rfl c69 ?_
    obtain ⟨c70, e⟩ := x_grd e
    refine r_iast (f := (gA a 22)) DX0_tally_70 e_22 rfl c70 p_22 ?_
    refine r_aload_n DX0_tally_71 (i := 0) rfl rfl ?_
    refine r_get (v := .ref (xa g 22)) DX0_tally_72 F_X0_18 e_19 rfl ?_
    refine r_iconst DX0_tally_75 (v := 1) (by decide) ?_
    refine r_aload_n DX0_tally_76 (i := 0) rfl rfl ?_
    refine r_get (v := .ref (xa g 21)) DX0_tally_77 F_X0_15 e_19 rfl ?_
    refine r_iload_n DX0_tally_80 (i := 3) rfl rfl ?_
    obtain ⟨c81, e⟩ := x_grd e
    refine r_iald (f := (gA a 21)) DX0_tally_81 e_21 rfl c81 ?_
    obtain ⟨c82, e⟩ := x_grd e
    refine r_iast (f := (upd (gA a 22) (Int32.toNatClampNeg 0) ((gA a 21) (Int32.toNatClampNeg v2)))) DX0_tally_82 e_22 rfl c82 p_22 ?_
    refine r_aload_n DX0_tally_83 (i := 0) rfl rfl ?_
    refine r_get (v := .ref (xa g 22)) DX0_tally_84 F_X0_18 e_19 rfl ?_
    refine r_iconst DX0_tally_87 (v := 2) (by decide) ?_
    refine r_aload_n DX0_tally_88 (i := 0) rfl rfl ?_
    refine r_get (v := .ref (xa g 21)) DX0_tally_89 F_X0_15 e_19 rfl ?_
    refine r_iload DX0_tally_92 rfl ?_
    obtain ⟨c94, e⟩ := x_grd e
    refine r_iald (f := (gA a 21)) DX0_tally_94 e_21 rfl c94 ?_
    obtain ⟨c95, e⟩ := x_grd e
    refine r_iast (f := (upd (upd (gA a 22) (Int32.toNatClampNeg 0) ((gA a 21) (Int32.toNatClampNeg v2))) (Int32.toNatClampNeg 1) ((gA a 21) (Int32.toNatClampNeg v3)))) DX0_tally_95 e_22 rfl c95 p_22 ?_
    obtain rfl := Option.some.inj e
    exact r_vret DX0_tally_96 rfl rfl

set_option maxRecDepth 100000 in
set_option maxHeartbeats 4000000 in
theorem lp_X0_searchPairs_L14 {l : Launch} {g : xG} {b : xT} {R : Option Value × xS} (v1 : Int32) : ∀ (n : Nat) (v2 : Int32) (a : xT) (r : (xT)), f_X0_searchPairs_L14 v1 n v2 a = some r → Rx l g 1 M_X0_searchPairs 56 [some (.ref (xa g 19)), some (.int v1), none] [] (r, b) R → Rx l g 1 M_X0_searchPairs 14 [some (.ref (xa g 19)), some (.int v1), some (.int v2)] [] (a, b) R := by
  intro n
  induction n with
  | zero => intro v2_ s_ r_ e; cases e
  | succ n ih =>
    intro v2 a r e K0
    rw [f_X0_searchPairs_L14] at e
    refine r_iload_n DX0_searchPairs_14 (i := 2) rfl rfl ?_
    refine r_aload_n DX0_searchPairs_15 (i := 0) rfl rfl ?_
    refine r_get (v := .int (gI a 17)) DX0_searchPairs_16 F_X0_21 e_19 rfl ?_
    refine r_icmp_ge DX0_searchPairs_19 (tgt := 56) (by decide) (fun c19 => ?_) (fun c19 => ?_)
    · replace e := x_ift c19 e
      obtain rfl := Option.some.inj e
      refine r_mask (L' := [some (.ref (xa g 19)), some (.int v1), none]) [true, true, false] rfl ?_
      exact K0
    · replace e := x_iff c19 e
      refine r_aload_n DX0_searchPairs_22 (i := 0) rfl rfl ?_
      refine r_get (v := .ref (xa g 20)) DX0_searchPairs_23 F_X0_9 e_19 rfl ?_
      refine r_iload_n DX0_searchPairs_26 (i := 1) rfl rfl ?_
      obtain ⟨c27, e⟩ := x_grd e
      refine r_iald (f := (gA a 20)) DX0_searchPairs_27 e_20 rfl c27 ?_
      refine r_aload_n DX0_searchPairs_28 (i := 0) rfl rfl ?_
      refine r_get (v := .ref (xa g 20)) DX0_searchPairs_29 F_X0_9 e_19 rfl ?_
      refine r_iload_n DX0_searchPairs_32 (i := 2) rfl rfl ?_
      obtain ⟨c33, e⟩ := x_grd e
      refine r_iald (f := (gA a 20)) DX0_searchPairs_33 e_20 rfl c33 ?_
      refine r_ior DX0_searchPairs_34 ?_
      refine r_aload_n DX0_searchPairs_35 (i := 0) rfl rfl ?_
      refine r_get (v := .int (gI a 18)) DX0_searchPairs_36 F_X0_25 e_19 rfl ?_
      refine r_icmp_ne DX0_searchPairs_39 (tgt := 50) (by decide) (fun c39 => ?_) (fun c39 => ?_)
      · replace e := x_iff c39 e
        refine r_iinc (L' := [some (.ref (xa g 19)), some (.int v1), some (.int (v2 + 1))]) DX0_searchPairs_50 (x := v2) (v := (v2 + 1)) rfl rfl (by decide) rfl rfl ?_
        refine r_goto DX0_searchPairs_53 (tgt := 14) (by decide) ?_
        exact ih _ _ _ e K0
      · replace e := x_ift c39 e
        refine r_aload_n DX0_searchPairs_42 (i := 0) rfl rfl ?_
        refine r_iconst DX0_searchPairs_43 (v := 2) (by decide) ?_
        refine r_iload_n DX0_searchPairs_44 (i := 1) rfl rfl ?_
        refine r_iload_n DX0_searchPairs_45 (i := 2) rfl rfl ?_
        refine r_iload_n DX0_searchPairs_46 (i := 2) rfl rfl ?_
        obtain ⟨q47, e47, e⟩ := x_bnd e
        refine r_callV0 (As := [.int 2, .int v1, .int v2, .int v2]) (S := []) DX0_searchPairs_47 C_X0_40 (ci := 0) rfl rfl e_19 (by decide) (by decide) (Nat.le_of_ble_eq_true rfl) (t_X0_tally 2 v1 v2 v2 a e47) rfl ?_
        refine r_iinc (L' := [some (.ref (xa g 19)), some (.int v1), some (.int (v2 + 1))]) DX0_searchPairs_50 (x := v2) (v := (v2 + 1)) rfl rfl (by decide) rfl rfl ?_
        refine r_goto DX0_searchPairs_53 (tgt := 14) (by decide) ?_
        exact ih _ _ _ e K0

set_option maxRecDepth 100000 in
set_option maxHeartbeats 4000000 in
theorem lp_X0_searchPairs_L2 {l : Launch} {g : xG} {b : xT} {R : Option Value × xS} (N : Nat) : ∀ (n : Nat) (v1 : Int32) (a : xT) (r : (xT)), f_X0_searchPairs_L2 N n v1 a = some r → Rx l g 1 M_X0_searchPairs 62 [none, none, none] [] (r, b) R → Rx l g 1 M_X0_searchPairs 2 [some (.ref (xa g 19)), some (.int v1), none] [] (a, b) R := by
  intro n
  induction n with
  | zero => intro v1_ s_ r_ e; cases e
  | succ n ih =>
    intro v1 a r e K0
    rw [f_X0_searchPairs_L2] at e
    refine r_iload_n DX0_searchPairs_2 (i := 1) rfl rfl ?_
    refine r_aload_n DX0_searchPairs_3 (i := 0) rfl rfl ?_
    refine r_get (v := .int (gI a 17)) DX0_searchPairs_4 F_X0_21 e_19 rfl ?_
    refine r_icmp_ge DX0_searchPairs_7 (tgt := 62) (by decide) (fun c7 => ?_) (fun c7 => ?_)
    · replace e := x_ift c7 e
      obtain rfl := Option.some.inj e
      refine r_mask (L' := [none, none, none]) [false, false, false] rfl ?_
      exact K0
    · replace e := x_iff c7 e
      refine r_iload_n DX0_searchPairs_10 (i := 1) rfl rfl ?_
      refine r_iconst DX0_searchPairs_11 (v := 1) (by decide) ?_
      refine r_iadd DX0_searchPairs_12 ?_
      refine r_istore_n (L' := [some (.ref (xa g 19)), some (.int v1), some (.int (v1 + 1))]) DX0_searchPairs_13 (i := 2) rfl (by decide) rfl rfl ?_
      obtain ⟨q14, e14, e⟩ := x_bnd e
      refine lp_X0_searchPairs_L14 v1 N (v1 + 1) a q14 e14 ?_
      refine r_iinc (L' := [some (.ref (xa g 19)), some (.int (v1 + 1)), none]) DX0_searchPairs_56 (x := v1) (v := (v1 + 1)) rfl rfl (by decide) rfl rfl ?_
      refine r_goto DX0_searchPairs_59 (tgt := 2) (by decide) ?_
      exact ih _ _ _ e K0

set_option maxRecDepth 100000 in
set_option maxHeartbeats 4000000 in
theorem t_X0_searchPairs {l : Launch} {g : xG} {b : xT} (N : Nat) (a : xT)  {r : xT} (e : f_X0_searchPairs N a = some r) : Ev l g 1 yX0_searchPairs M_X0_searchPairs [.ref (xa g 19)] (a, b) (none, (r, b)) := by
  unfold f_X0_searchPairs at e
  refine Ev.of 2 (L0 := [some (.ref (xa g 19)), none, none]) (by decide) rfl (Nat.le_of_ble_eq_true rfl) rfl ?_
  refine r_iconst DX0_searchPairs_0 (v := 0) (by decide) ?_
  refine r_istore_n (L' := [some (.ref (xa g 19)), some (.int 0), none]) DX0_searchPairs_1 (i := 1) rfl (by decide) rfl rfl ?_
  obtain ⟨q2, e2, e⟩ := x_bnd e
  refine lp_X0_searchPairs_L2 N N 0 a q2 e2 ?_
  obtain rfl := Option.some.inj e
  exact r_vret DX0_searchPairs_62 rfl rfl

set_option maxRecDepth 100000 in
set_option maxHeartbeats 4000000 in
theorem lp_X0_searchTriples_L41 {l : Launch} {g : xG} {b : xT} {R : Option Value × xS} (v1 : Int32) (v2 : Int32) (v3 : Int32) : ∀ (n : Nat) (v4 : Int32) (a : xT) (r : (xT)), f_X0_searchTriples_L41 v1 v2 v3 n v4 a = some r → Rx l g 1 M_X0_searchTriples 81 [some (.ref (xa g 19)), some (.int v1), some (.int v2), none, none] [] (r, b) R → Rx l g 1 M_X0_searchTriples 41 [some (.ref (xa g 19)), some (.int v1), some (.int v2), some (.int v3), some (.int v4)] [] (a, b) R := by
  intro n
  induction n with
  | zero => intro v4_ s_ r_ e; cases e
  | succ n ih =>
    intro v4 a r e K0
    rw [f_X0_searchTriples_L41] at e
    refine r_iload DX0_searchTriples_41 rfl ?_
    refine r_aload_n DX0_searchTriples_43 (i := 0) rfl rfl ?_
    refine r_get (v := .int (gI a 17)) DX0_searchTriples_44 F_X0_21 e_19 rfl ?_
    refine r_icmp_ge DX0_searchTriples_47 (tgt := 81) (by decide) (fun c47 => ?_) (fun c47 => ?_)
    · replace e := x_ift c47 e
      obtain rfl := Option.some.inj e
      refine r_mask (L' := [some (.ref (xa g 19)), some (.int v1), some (.int v2), none, none]) [true, true, true, false, false] rfl ?_
      exact K0
    · replace e := x_iff c47 e
      refine r_iload_n DX0_searchTriples_50 (i := 3) rfl rfl ?_
      refine r_aload_n DX0_searchTriples_51 (i := 0) rfl rfl ?_
      refine r_get (v := .ref (xa g 20)) DX0_searchTriples_52 F_X0_9 e_19 rfl ?_
      refine r_iload DX0_searchTriples_55 rfl ?_
      obtain ⟨c57, e⟩ := x_grd e
      refine r_iald (f := (gA a 20)) DX0_searchTriples_57 e_20 rfl c57 ?_
      refine r_ior DX0_searchTriples_58 ?_
      refine r_aload_n DX0_searchTriples_59 (i := 0) rfl rfl ?_
      refine r_get (v := .int (gI a 18)) DX0_searchTriples_60 F_X0_25 e_19 rfl ?_
      refine r_icmp_ne DX0_searchTriples_63 (tgt := 75) (by decide) (fun c63 => ?_) (fun c63 => ?_)
      · replace e := x_iff c63 e
        refine r_iinc (L' := [some (.ref (xa g 19)), some (.int v1), some (.int v2), some (.int v3), some (.int (v4 + 1))]) DX0_searchTriples_75 (x := v4) (v := (v4 + 1)) rfl rfl (by decide) rfl rfl ?_
        refine r_goto DX0_searchTriples_78 (tgt := 41) (by decide) ?_
        exact ih _ _ _ e K0
      · replace e := x_ift c63 e
        refine r_aload_n DX0_searchTriples_66 (i := 0) rfl rfl ?_
        refine r_iconst DX0_searchTriples_67 (v := 3) (by decide) ?_
        refine r_iload_n DX0_searchTriples_68 (i := 1) rfl rfl ?_
        refine r_iload_n DX0_searchTriples_69 (i := 2) rfl rfl ?_
        refine r_iload DX0_searchTriples_70 rfl ?_
        obtain ⟨q72, e72, e⟩ := x_bnd e
        refine r_callV0 (As := [.int 3, .int v1, .int v2, .int v4]) (S := []) DX0_searchTriples_72 C_X0_40 (ci := 0) rfl rfl e_19 (by decide) (by decide) (Nat.le_of_ble_eq_true rfl) (t_X0_tally 3 v1 v2 v4 a e72) rfl ?_
        refine r_iinc (L' := [some (.ref (xa g 19)), some (.int v1), some (.int v2), some (.int v3), some (.int (v4 + 1))]) DX0_searchTriples_75 (x := v4) (v := (v4 + 1)) rfl rfl (by decide) rfl rfl ?_
        refine r_goto DX0_searchTriples_78 (tgt := 41) (by decide) ?_
        exact ih _ _ _ e K0

set_option maxRecDepth 100000 in
set_option maxHeartbeats 4000000 in
theorem lp_X0_searchTriples_L14 {l : Launch} {g : xG} {b : xT} {R : Option Value × xS} (N : Nat) (v1 : Int32) : ∀ (n : Nat) (v2 : Int32) (a : xT) (r : (xT)), f_X0_searchTriples_L14 N v1 n v2 a = some r → Rx l g 1 M_X0_searchTriples 87 [some (.ref (xa g 19)), some (.int v1), none, none, none] [] (r, b) R → Rx l g 1 M_X0_searchTriples 14 [some (.ref (xa g 19)), some (.int v1), some (.int v2), none, none] [] (a, b) R := by
  intro n
  induction n with
  | zero => intro v2_ s_ r_ e; cases e
  | succ n ih =>
    intro v2 a r e K0
    rw [f_X0_searchTriples_L14] at e
    refine r_iload_n DX0_searchTriples_14 (i := 2) rfl rfl ?_
    refine r_aload_n DX0_searchTriples_15 (i := 0) rfl rfl ?_
    refine r_get (v := .int (gI a 17)) DX0_searchTriples_16 F_X0_21 e_19 rfl ?_
    refine r_icmp_ge DX0_searchTriples_19 (tgt := 87) (by decide) (fun c19 => ?_) (fun c19 => ?_)
    · replace e := x_ift c19 e
      obtain rfl := Option.some.inj e
      refine r_mask (L' := [some (.ref (xa g 19)), some (.int v1), none, none, none]) [true, true, false, false, false] rfl ?_
      exact K0
    · replace e := x_iff c19 e
      refine r_aload_n DX0_searchTriples_22 (i := 0) rfl rfl ?_
      refine r_get (v := .ref (xa g 20)) DX0_searchTriples_23 F_X0_9 e_19 rfl ?_
      refine r_iload_n DX0_searchTriples_26 (i := 1) rfl rfl ?_
      obtain ⟨c27, e⟩ := x_grd e
      refine r_iald (f := (gA a 20)) DX0_searchTriples_27 e_20 rfl c27 ?_
      refine r_aload_n DX0_searchTriples_28 (i := 0) rfl rfl ?_
      refine r_get (v := .ref (xa g 20)) DX0_searchTriples_29 F_X0_9 e_19 rfl ?_
      refine r_iload_n DX0_searchTriples_32 (i := 2) rfl rfl ?_
      obtain ⟨c33, e⟩ := x_grd e
      refine r_iald (f := (gA a 20)) DX0_searchTriples_33 e_20 rfl c33 ?_
      refine r_ior DX0_searchTriples_34 ?_
      obtain ⟨w35, e35, e⟩ := x_bnd e
      refine r_istore_nB (L' := [some (.ref (xa g 19)), some (.int v1), some (.int v2), some (.int w35), none]) (w := w35) DX0_searchTriples_35 (Option.some.inj e35) (i := 3) rfl (by decide) rfl rfl ?_
      refine r_iload_n DX0_searchTriples_36 (i := 2) rfl rfl ?_
      refine r_iconst DX0_searchTriples_37 (v := 1) (by decide) ?_
      refine r_iadd DX0_searchTriples_38 ?_
      refine r_istore (L' := [some (.ref (xa g 19)), some (.int v1), some (.int v2), some (.int w35), some (.int (v2 + 1))]) DX0_searchTriples_39 (by decide) rfl rfl ?_
      obtain ⟨q41, e41, e⟩ := x_bnd e
      refine lp_X0_searchTriples_L41 v1 v2 w35 N (v2 + 1) a q41 e41 ?_
      refine r_iinc (L' := [some (.ref (xa g 19)), some (.int v1), some (.int (v2 + 1)), none, none]) DX0_searchTriples_81 (x := v2) (v := (v2 + 1)) rfl rfl (by decide) rfl rfl ?_
      refine r_goto DX0_searchTriples_84 (tgt := 14) (by decide) ?_
      exact ih _ _ _ e K0

set_option maxRecDepth 100000 in
set_option maxHeartbeats 4000000 in
theorem lp_X0_searchTriples_L2 {l : Launch} {g : xG} {b : xT} {R : Option Value × xS} (N : Nat) : ∀ (n : Nat) (v1 : Int32) (a : xT) (r : (xT)), f_X0_searchTriples_L2 N n v1 a = some r → Rx l g 1 M_X0_searchTriples 93 [none, none, none, none, none] [] (r, b) R → Rx l g 1 M_X0_searchTriples 2 [some (.ref (xa g 19)), some (.int v1), none, none, none] [] (a, b) R := by
  intro n
  induction n with
  | zero => intro v1_ s_ r_ e; cases e
  | succ n ih =>
    intro v1 a r e K0
    rw [f_X0_searchTriples_L2] at e
    refine r_iload_n DX0_searchTriples_2 (i := 1) rfl rfl ?_
    refine r_aload_n DX0_searchTriples_3 (i := 0) rfl rfl ?_
    refine r_get (v := .int (gI a 17)) DX0_searchTriples_4 F_X0_21 e_19 rfl ?_
    refine r_icmp_ge DX0_searchTriples_7 (tgt := 93) (by decide) (fun c7 => ?_) (fun c7 => ?_)
    · replace e := x_ift c7 e
      obtain rfl := Option.some.inj e
      refine r_mask (L' := [none, none, none, none, none]) [false, false, false, false, false] rfl ?_
      exact K0
    · replace e := x_iff c7 e
      refine r_iload_n DX0_searchTriples_10 (i := 1) rfl rfl ?_
      refine r_iconst DX0_searchTriples_11 (v := 1) (by decide) ?_
      refine r_iadd DX0_searchTriples_12 ?_
      refine r_istore_n (L' := [some (.ref (xa g 19)), some (.int v1), some (.int (v1 + 1)), none, none]) DX0_searchTriples_13 (i := 2) rfl (by decide) rfl rfl ?_
      obtain ⟨q14, e14, e⟩ := x_bnd e
      refine lp_X0_searchTriples_L14 N v1 N (v1 + 1) a q14 e14 ?_
      refine r_iinc (L' := [some (.ref (xa g 19)), some (.int (v1 + 1)), none, none, none]) DX0_searchTriples_87 (x := v1) (v := (v1 + 1)) rfl rfl (by decide) rfl rfl ?_
      refine r_goto DX0_searchTriples_90 (tgt := 2) (by decide) ?_
      exact ih _ _ _ e K0

set_option maxRecDepth 100000 in
set_option maxHeartbeats 4000000 in
theorem t_X0_searchTriples {l : Launch} {g : xG} {b : xT} (N : Nat) (a : xT)  {r : xT} (e : f_X0_searchTriples N a = some r) : Ev l g 1 yX0_searchTriples M_X0_searchTriples [.ref (xa g 19)] (a, b) (none, (r, b)) := by
  unfold f_X0_searchTriples at e
  refine Ev.of 4 (L0 := [some (.ref (xa g 19)), none, none, none, none]) (by decide) rfl (Nat.le_of_ble_eq_true rfl) rfl ?_
  refine r_iconst DX0_searchTriples_0 (v := 0) (by decide) ?_
  refine r_istore_n (L' := [some (.ref (xa g 19)), some (.int 0), none, none, none]) DX0_searchTriples_1 (i := 1) rfl (by decide) rfl rfl ?_
  obtain ⟨q2, e2, e⟩ := x_bnd e
  refine lp_X0_searchTriples_L2 N N 0 a q2 e2 ?_
  obtain rfl := Option.some.inj e
  exact r_vret DX0_searchTriples_93 rfl rfl

set_option maxRecDepth 100000 in
set_option maxHeartbeats 4000000 in
theorem lp_X0_search_L19 {l : Launch} {g : xG} {b : xT} {R : Option Value × xS} (v1 : Int32) : ∀ (n : Nat) (v2 : Int32) (a : xT) (r : (xT)), f_X0_search_L19 v1 n v2 a = some r → Rx l g 2 M_X0_search 54 [some (.ref (xa g 19)), some (.int v1), none] [] (r, b) R → Rx l g 2 M_X0_search 19 [some (.ref (xa g 19)), some (.int v1), some (.int v2)] [] (a, b) R := by
  intro n
  induction n with
  | zero => intro v2_ s_ r_ e; cases e
  | succ n ih =>
    intro v2 a r e K0
    rw [f_X0_search_L19] at e
    refine r_iload_n DX0_search_19 (i := 2) rfl rfl ?_
    refine r_aload_n DX0_search_20 (i := 0) rfl rfl ?_
    refine r_get (v := .int (gI a 17)) DX0_search_21 F_X0_21 e_19 rfl ?_
    refine r_icmp_ge DX0_search_24 (tgt := 54) (by decide) (fun c24 => ?_) (fun c24 => ?_)
    · replace e := x_ift c24 e
      obtain rfl := Option.some.inj e
      refine r_mask (L' := [some (.ref (xa g 19)), some (.int v1), none]) [true, true, false] rfl ?_
      exact K0
    · replace e := x_iff c24 e
      refine r_aload_n DX0_search_27 (i := 0) rfl rfl ?_
      refine r_get (v := .ref (xa g 20)) DX0_search_28 F_X0_9 e_19 rfl ?_
      refine r_iload_n DX0_search_31 (i := 2) rfl rfl ?_
      obtain ⟨c32, e⟩ := x_grd e
      refine r_iald (f := (gA a 20)) DX0_search_32 e_20 rfl c32 ?_
      refine r_aload_n DX0_search_33 (i := 0) rfl rfl ?_
      refine r_get (v := .int (gI a 18)) DX0_search_34 F_X0_25 e_19 rfl ?_
      refine r_icmp_ne DX0_search_37 (tgt := 48) (by decide) (fun c37 => ?_) (fun c37 => ?_)
      · replace e := x_iff c37 e
        refine r_iinc (L' := [some (.ref (xa g 19)), some (.int v1), some (.int (v2 + 1))]) DX0_search_48 (x := v2) (v := (v2 + 1)) rfl rfl (by decide) rfl rfl ?_
        refine r_goto DX0_search_51 (tgt := 19) (by decide) ?_
        exact ih _ _ _ e K0
      · replace e := x_ift c37 e
        refine r_aload_n DX0_search_40 (i := 0) rfl rfl ?_
        refine r_iconst DX0_search_41 (v := 1) (by decide) ?_
        refine r_iload_n DX0_search_42 (i := 2) rfl rfl ?_
        refine r_iload_n DX0_search_43 (i := 2) rfl rfl ?_
        refine r_iload_n DX0_search_44 (i := 2) rfl rfl ?_
        obtain ⟨q45, e45, e⟩ := x_bnd e
        refine r_callV0 (As := [.int 1, .int v2, .int v2, .int v2]) (S := []) DX0_search_45 C_X0_40 (ci := 0) rfl rfl e_19 (by decide) (by decide) (Nat.le_of_ble_eq_true rfl) (t_X0_tally 1 v2 v2 v2 a e45) rfl ?_
        refine r_iinc (L' := [some (.ref (xa g 19)), some (.int v1), some (.int (v2 + 1))]) DX0_search_48 (x := v2) (v := (v2 + 1)) rfl rfl (by decide) rfl rfl ?_
        refine r_goto DX0_search_51 (tgt := 19) (by decide) ?_
        exact ih _ _ _ e K0

set_option maxRecDepth 100000 in
set_option maxHeartbeats 4000000 in
theorem t_X0_search {l : Launch} {g : xG} {b : xT} (N : Nat) (v1 : Int32) (a : xT)  {r : xT} (e : f_X0_search N v1 a = some r) : Ev l g 2 yX0_search M_X0_search [.ref (xa g 19), .int v1] (a, b) (none, (r, b)) := by
  unfold f_X0_search at e
  refine Ev.of 1 (L0 := [some (.ref (xa g 19)), some (.int v1), none]) (by decide) rfl (Nat.le_of_ble_eq_true rfl) rfl ?_
  refine r_aload_n DX0_search_0 (i := 0) rfl rfl ?_
  refine r_iconst DX0_search_1 (v := 0) (by decide) ?_
  refine r_put (ty := .int) DX0_search_2 F_X0_28 Fp_0_5 e_19 rfl rfl (Nat.le_of_ble_eq_true rfl) p_19_5 ?_
  refine r_aload_n DX0_search_5 (i := 0) rfl rfl ?_
  refine r_iconst DX0_search_6 (v := (-1)) (by decide) ?_
  refine r_put (ty := .int) DX0_search_7 F_X0_31 Fp_0_6 e_19 rfl rfl (Nat.le_of_ble_eq_true rfl) p_19_6 ?_
  refine r_aload_n DX0_search_10 (i := 0) rfl rfl ?_
  refine r_ldc2 DX0_search_11 K_X0_38 ?_
  refine r_put (ty := .long) DX0_search_14 F_X0_34 Fp_0_7 e_19 rfl rfl (Nat.le_of_ble_eq_true rfl) p_19_7 ?_
  refine r_iconst DX0_search_17 (v := 0) (by decide) ?_
  refine r_istore_n (L' := [some (.ref (xa g 19)), some (.int v1), some (.int 0)]) DX0_search_18 (i := 2) rfl (by decide) rfl rfl ?_
  obtain ⟨q19, e19, e⟩ := x_bnd e
  refine lp_X0_search_L19 v1 N 0 (sJ (sI (sI a 19 0) 20 (-1)) 0 (-1)) q19 e19 ?_
  refine r_iload_n DX0_search_54 (i := 1) rfl rfl ?_
  refine r_iconst DX0_search_55 (v := 2) (by decide) ?_
  refine r_icmp_lt DX0_search_56 (tgt := 63) (by decide) (fun c56 => ?_) (fun c56 => ?_)
  · replace e := x_ift c56 e
    refine r_iload_n DX0_search_63 (i := 1) rfl rfl ?_
    refine r_iconst DX0_search_64 (v := 3) (by decide) ?_
    refine r_icmp_lt DX0_search_65 (tgt := 72) (by decide) (fun c65 => ?_) (fun c65 => ?_)
    · replace e := x_ift c65 e
      obtain rfl := Option.some.inj e
      exact r_vret DX0_search_72 rfl rfl
    · replace e := x_iff c65 e
      refine r_aload_n DX0_search_68 (i := 0) rfl rfl ?_
      obtain ⟨q69, e69, e⟩ := x_bnd e
      refine r_callV0 (As := []) (S := []) DX0_search_69 C_X0_47 (ci := 0) rfl rfl e_19 (by decide) (by decide) (Nat.le_of_ble_eq_true rfl) (t_X0_searchTriples N q19 e69) rfl ?_
      obtain rfl := Option.some.inj e
      exact r_vret DX0_search_72 rfl rfl
  · replace e := x_iff c56 e
    refine r_aload_n DX0_search_59 (i := 0) rfl rfl ?_
    obtain ⟨q60, e60, e⟩ := x_bnd e
    refine r_callV0 (As := []) (S := []) DX0_search_60 C_X0_44 (ci := 0) rfl rfl e_19 (by decide) (by decide) (Nat.le_of_ble_eq_true rfl) (t_X0_searchPairs N q19 e60) rfl ?_
    refine r_iload_n DX0_search_63 (i := 1) rfl rfl ?_
    refine r_iconst DX0_search_64 (v := 3) (by decide) ?_
    refine r_icmp_lt DX0_search_65 (tgt := 72) (by decide) (fun c65 => ?_) (fun c65 => ?_)
    · replace e := x_ift c65 e
      obtain rfl := Option.some.inj e
      exact r_vret DX0_search_72 rfl rfl
    · replace e := x_iff c65 e
      refine r_aload_n DX0_search_68 (i := 0) rfl rfl ?_
      obtain ⟨q69, e69, e⟩ := x_bnd e
      refine r_callV0 (As := []) (S := []) DX0_search_69 C_X0_47 (ci := 0) rfl rfl e_19 (by decide) (by decide) (Nat.le_of_ble_eq_true rfl) (t_X0_searchTriples N q60 e69) rfl ?_
      obtain rfl := Option.some.inj e
      exact r_vret DX0_search_72 rfl rfl

set_option maxRecDepth 100000 in
set_option maxHeartbeats 4000000 in
theorem lp_X0_canReach_L3 {l : Launch} {g : xG} {b : xT} {R : Option Value × xS} {D : Nat} (rc : (Int32 → Int32 → Int32 → xT → Option Int32)) (N : Nat) (v2 : Int32) (v3 : Int32) (a : xT)  (hrc : ∀ (v1 : Int32) (v2 : Int32) (v3 : Int32) (a : xT) (r : Int32), rc v1 v2 v3 a = some r → Ev l g (0 + D) yX0_canReach M_X0_canReach [.ref (xa g 19), .int v1, .int v2, .int v3] (a, b) (some (.int r), (a, b))): ∀ (n : Nat) (v4 : Int32) (r : ((Unit) ⊕ (Unit))), f_X0_canReach_L3 rc N v2 v3 a n v4 = some r → (∀ z, r = (.inl z) → Rx l g (0 + (D + 1)) M_X0_canReach 60 [none, none, none, none, none, none] [] (a, b) R) → (∀ z, r = (.inr (z)) → Rx l g (0 + (D + 1)) M_X0_canReach 52 [none, none, none, none, none, none] [] (a, b) R) → Rx l g (0 + (D + 1)) M_X0_canReach 3 [some (.ref (xa g 19)), none, some (.int v2), some (.int v3), some (.int v4), none] [] (a, b) R := by
  intro n
  induction n with
  | zero => intro v4_ r_ e; cases e
  | succ n ih =>
    intro v4 r e K0 K1
    rw [f_X0_canReach_L3] at e
    refine r_iload DX0_canReach_3 rfl ?_
    refine r_aload_n DX0_canReach_5 (i := 0) rfl rfl ?_
    refine r_get (v := .int (gI a 17)) DX0_canReach_6 F_X0_21 e_19 rfl ?_
    refine r_icmp_ge DX0_canReach_9 (tgt := 60) (by decide) (fun c9 => ?_) (fun c9 => ?_)
    · replace e := x_ift c9 e
      obtain rfl := Option.some.inj e
      refine r_mask (L' := [none, none, none, none, none, none]) [false, false, false, false, false, false] rfl ?_
      exact K0 _ rfl
    · replace e := x_iff c9 e
      refine r_iload_n DX0_canReach_12 (i := 3) rfl rfl ?_
      refine r_if_le DX0_canReach_13 (tgt := 60) (by decide) (fun c13 => ?_) (fun c13 => ?_)
      · replace e := x_ift c13 e
        obtain rfl := Option.some.inj e
        refine r_mask (L' := [none, none, none, none, none, none]) [false, false, false, false, false, false] rfl ?_
        exact K0 _ rfl
      · replace e := x_iff c13 e
        refine r_iload_n DX0_canReach_16 (i := 2) rfl rfl ?_
        refine r_aload_n DX0_canReach_17 (i := 0) rfl rfl ?_
        refine r_get (v := .ref (xa g 20)) DX0_canReach_18 F_X0_9 e_19 rfl ?_
        refine r_iload DX0_canReach_21 rfl ?_
        obtain ⟨c23, e⟩ := x_grd e
        refine r_iald (f := (gA a 20)) DX0_canReach_23 e_20 rfl c23 ?_
        refine r_ior DX0_canReach_24 ?_
        refine r_istore (L' := [some (.ref (xa g 19)), none, some (.int v2), some (.int v3), some (.int v4), some (.int (v2 ||| ((gA a 20) (Int32.toNatClampNeg v4))))]) DX0_canReach_25 (by decide) rfl rfl ?_
        refine r_iload DX0_canReach_27 rfl ?_
        refine r_aload_n DX0_canReach_29 (i := 0) rfl rfl ?_
        refine r_get (v := .int (gI a 18)) DX0_canReach_30 F_X0_25 e_19 rfl ?_
        refine r_icmp_eq DX0_canReach_33 (tgt := 52) (by decide) (fun c33 => ?_) (fun c33 => ?_)
        · replace e := x_ift c33 e
          obtain rfl := Option.some.inj e
          refine r_mask (L' := [none, none, none, none, none, none]) [false, false, false, false, false, false] rfl ?_
          exact K1 _ rfl
        · replace e := x_iff c33 e
          refine r_aload_n DX0_canReach_36 (i := 0) rfl rfl ?_
          refine r_iload DX0_canReach_37 rfl ?_
          refine r_iconst DX0_canReach_39 (v := 1) (by decide) ?_
          refine r_iadd DX0_canReach_40 ?_
          refine r_iload DX0_canReach_41 rfl ?_
          refine r_iload_n DX0_canReach_43 (i := 3) rfl rfl ?_
          refine r_iconst DX0_canReach_44 (v := 1) (by decide) ?_
          refine r_isub DX0_canReach_45 ?_
          obtain ⟨q46, e46, e⟩ := x_bnd e
          refine r_callV1 (As := [.int (v4 + 1), .int (v2 ||| ((gA a 20) (Int32.toNatClampNeg v4))), .int (v3 - 1)]) (S := []) DX0_canReach_46 C_X0_50 (ci := 0) rfl rfl e_19 (by omega) (by decide) (Nat.le_of_ble_eq_true rfl) (hrc (v4 + 1) (v2 ||| ((gA a 20) (Int32.toNatClampNeg v4))) (v3 - 1) a _ e46) rfl ?_
          refine r_if_eq DX0_canReach_49 (tgt := 54) (by decide) (fun c49 => ?_) (fun c49 => ?_)
          · replace e := x_ift c49 e
            refine r_iinc (L' := [some (.ref (xa g 19)), none, some (.int v2), some (.int v3), some (.int (v4 + 1)), some (.int (v2 ||| ((gA a 20) (Int32.toNatClampNeg v4))))]) DX0_canReach_54 (x := v4) (v := (v4 + 1)) rfl rfl (by decide) rfl rfl ?_
            refine r_goto DX0_canReach_57 (tgt := 3) (by decide) ?_
            refine r_mask (L' := [some (.ref (xa g 19)), none, some (.int v2), some (.int v3), some (.int (v4 + 1)), none]) [true, false, true, true, true, false] rfl ?_
            exact ih _ _ e K0 K1
          · replace e := x_iff c49 e
            obtain rfl := Option.some.inj e
            refine r_mask (L' := [none, none, none, none, none, none]) [false, false, false, false, false, false] rfl ?_
            exact K1 _ rfl

set_option maxRecDepth 100000 in
set_option maxHeartbeats 4000000 in
theorem t0_X0_canReach {l : Launch} {g : xG} {b : xT} (N : Nat) : ∀ (D : Nat) (v1 : Int32) (v2 : Int32) (v3 : Int32) (a : xT) (r : Int32), f_X0_canReach D N v1 v2 v3 a = some r → Ev l g (0 + D) yX0_canReach M_X0_canReach [.ref (xa g 19), .int v1, .int v2, .int v3] (a, b) (some (.int r), (a, b)) := by
  intro D
  induction D with
  | zero => intro w_v1 w_v2 w_v3 w_s w_r e; cases e
  | succ D ih =>
    intro v1 v2 v3 a r e
    rw [f_X0_canReach] at e
    refine Ev.of 2 (L0 := [some (.ref (xa g 19)), some (.int v1), some (.int v2), some (.int v3), none, none]) (by decide) rfl (Nat.le_of_ble_eq_true rfl) rfl ?_
    refine r_iload_n DX0_canReach_0 (i := 1) rfl rfl ?_
    refine r_istore (L' := [some (.ref (xa g 19)), some (.int v1), some (.int v2), some (.int v3), some (.int v1), none]) DX0_canReach_1 (by decide) rfl rfl ?_
    obtain ⟨q3, e3, e⟩ := x_bnd e
    refine r_mask (L' := [some (.ref (xa g 19)), none, some (.int v2), some (.int v3), some (.int v1), none]) [true, false, true, true, true, false] rfl ?_
    refine lp_X0_canReach_L3 (f_X0_canReach D N) N v2 v3 a (fun v1 v2 v3 a r e => ih v1 v2 v3 a r e) N v1 q3 e3 (fun z3_60 w3 => ?_) (fun z3_52 w3 => ?_)
    · subst w3
      dsimp only [Sum.elim] at e
      refine r_iconst DX0_canReach_60 (v := 0) (by decide) ?_
      obtain rfl := Option.some.inj e
      exact r_zret DX0_canReach_61 rfl (by decide) rfl
    · subst w3
      dsimp only [Sum.elim] at e
      refine r_iconst DX0_canReach_52 (v := 1) (by decide) ?_
      obtain rfl := Option.some.inj e
      exact r_zret DX0_canReach_53 rfl (by decide) rfl
theorem t_X0_canReach {l : Launch} {g : xG} {b : xT} (D : Nat) (N : Nat) (v1 : Int32) (v2 : Int32) (v3 : Int32) (a : xT) {r : Int32} (e : f_X0_canReach D N v1 v2 v3 a = some r) : Ev l g (0 + D) yX0_canReach M_X0_canReach [.ref (xa g 19), .int v1, .int v2, .int v3] (a, b) (some (.int r), (a, b)) := t0_X0_canReach N D v1 v2 v3 a r e

set_option maxRecDepth 100000 in
set_option maxHeartbeats 4000000 in
theorem t_X0_canCover {l : Launch} {g : xG} {b : xT} (N : Nat) (v1 : Int32) (a : xT)  {r : Int32} (e : f_X0_canCover N v1 a = some r) : Ev l g 7 yX0_canCover M_X0_canCover [.ref (xa g 19), .int v1] (a, b) (some (.int r), (a, b)) := by
  unfold f_X0_canCover at e
  refine Ev.of 0 (L0 := [some (.ref (xa g 19)), some (.int v1)]) (by decide) rfl (Nat.le_of_ble_eq_true rfl) rfl ?_
  refine r_aload_n DX0_canCover_0 (i := 0) rfl rfl ?_
  refine r_iconst DX0_canCover_1 (v := 0) (by decide) ?_
  refine r_iconst DX0_canCover_2 (v := 0) (by decide) ?_
  refine r_iload_n DX0_canCover_3 (i := 1) rfl rfl ?_
  obtain ⟨q4, e4, e⟩ := x_bnd e
  refine r_callV1 (As := [.int 0, .int 0, .int v1]) (S := []) DX0_canCover_4 C_X0_50 (ci := 0) rfl rfl e_19 (by decide) (by decide) (Nat.le_of_ble_eq_true rfl) (t_X0_canReach 6 N 0 0 v1 a e4) rfl ?_
  obtain ⟨c7, e⟩ := x_grd e
  obtain rfl := Option.some.inj e
  exact r_zret DX0_canCover_7 rfl (congrArg Value.int c7) rfl

set_option maxRecDepth 100000 in
set_option maxHeartbeats 4000000 in
theorem t_X0_firstAt {l : Launch} {g : xG} {b : xT} (v1 : Int32) (a : xT)  {r : Int32} (e : f_X0_firstAt v1 a = some r) : Ev l g 0 yX0_firstAt M_X0_firstAt [.ref (xa g 19), .int v1] (a, b) (some (.int r), (a, b)) := by
  unfold f_X0_firstAt at e
  refine Ev.of 0 (L0 := [some (.ref (xa g 19)), some (.int v1)]) (by decide) rfl (Nat.le_of_ble_eq_true rfl) rfl ?_
  refine r_iload_n DX0_firstAt_0 (i := 1) rfl rfl ?_
  refine r_if_lt DX0_firstAt_1 (tgt := 26) (by decide) (fun c1 => ?_) (fun c1 => ?_)
  · replace e := x_ift c1 e
    refine r_iconst DX0_firstAt_26 (v := (-1)) (by decide) ?_
    obtain rfl := Option.some.inj e
    exact r_iret DX0_firstAt_27 rfl rfl
  · replace e := x_iff c1 e
    refine r_iload_n DX0_firstAt_4 (i := 1) rfl rfl ?_
    refine r_aload_n DX0_firstAt_5 (i := 0) rfl rfl ?_
    refine r_get (v := .int (gI a 20)) DX0_firstAt_6 F_X0_31 e_19 rfl ?_
    refine r_icmp_ge DX0_firstAt_9 (tgt := 26) (by decide) (fun c9 => ?_) (fun c9 => ?_)
    · replace e := x_ift c9 e
      refine r_iconst DX0_firstAt_26 (v := (-1)) (by decide) ?_
      obtain rfl := Option.some.inj e
      exact r_iret DX0_firstAt_27 rfl rfl
    · replace e := x_iff c9 e
      refine r_iload_n DX0_firstAt_12 (i := 1) rfl rfl ?_
      refine r_iconst DX0_firstAt_13 (v := 3) (by decide) ?_
      refine r_icmp_ge DX0_firstAt_14 (tgt := 26) (by decide) (fun c14 => ?_) (fun c14 => ?_)
      · replace e := x_ift c14 e
        refine r_iconst DX0_firstAt_26 (v := (-1)) (by decide) ?_
        obtain rfl := Option.some.inj e
        exact r_iret DX0_firstAt_27 rfl rfl
      · replace e := x_iff c14 e
        refine r_aload_n DX0_firstAt_17 (i := 0) rfl rfl ?_
        refine r_get (v := .ref (xa g 22)) DX0_firstAt_18 F_X0_18 e_19 rfl ?_
        refine r_iload_n DX0_firstAt_21 (i := 1) rfl rfl ?_
        obtain ⟨c22, e⟩ := x_grd e
        refine r_iald (f := (gA a 22)) DX0_firstAt_22 e_22 rfl c22 ?_
        refine r_goto DX0_firstAt_23 (tgt := 27) (by decide) ?_
        obtain rfl := Option.some.inj e
        exact r_iret DX0_firstAt_27 rfl rfl

set_option maxRecDepth 100000 in
set_option maxHeartbeats 4000000 in
theorem lp_X0_commonAt_L4 {l : Launch} {g : xG} {b : xT} {R : Option Value × xS} (v1 : Int32) (a : xT) : ∀ (n : Nat) (v2 : Int32) (v3 : Int32) (r : ((Unit) ⊕ (Int32))), f_X0_commonAt_L4 v1 a n v2 v3 = some r → (∀ z, r = (.inl z) → Rx l g 0 M_X0_commonAt 39 [none, none, none, none] [] (a, b) R) → (∀ z, r = (.inr (z)) → Rx l g 0 M_X0_commonAt 28 [none, none, none, some (.int z)] [] (a, b) R) → Rx l g 0 M_X0_commonAt 4 [some (.ref (xa g 19)), some (.int v1), some (.int v2), some (.int v3)] [] (a, b) R := by
  intro n
  induction n with
  | zero => intro v2_ v3_ r_ e; cases e
  | succ n ih =>
    intro v2 v3 r e K0 K1
    rw [f_X0_commonAt_L4] at e
    refine r_iload_n DX0_commonAt_4 (i := 3) rfl rfl ?_
    refine r_bipush DX0_commonAt_5 (v := 64) (by decide) ?_
    refine r_icmp_ge DX0_commonAt_7 (tgt := 39) (by decide) (fun c7 => ?_) (fun c7 => ?_)
    · replace e := x_ift c7 e
      obtain rfl := Option.some.inj e
      refine r_mask (L' := [none, none, none, none]) [false, false, false, false] rfl ?_
      exact K0 _ rfl
    · replace e := x_iff c7 e
      refine r_aload_n DX0_commonAt_10 (i := 0) rfl rfl ?_
      refine r_get (v := .long (gJ a 0)) DX0_commonAt_11 F_X0_34 e_19 rfl ?_
      refine r_iload_n DX0_commonAt_14 (i := 3) rfl rfl ?_
      refine r_lushr DX0_commonAt_15 ?_
      refine r_lconst DX0_commonAt_16 (v := 1) (by decide) ?_
      refine r_land DX0_commonAt_17 ?_
      refine r_lconst DX0_commonAt_18 (v := 0) (by decide) ?_
      refine r_lcmp_eq DX0_commonAt_19 DX0_commonAt_20 (tgt := 33) (by decide) (fun c19 => ?_) (fun c19 => ?_)
      · replace e := x_ift c19 e
        refine r_iinc (L' := [some (.ref (xa g 19)), some (.int v1), some (.int v2), some (.int (v3 + 1))]) DX0_commonAt_33 (x := v3) (v := (v3 + 1)) rfl rfl (by decide) rfl rfl ?_
        refine r_goto DX0_commonAt_36 (tgt := 4) (by decide) ?_
        exact ih _ _ _ e K0 K1
      · replace e := x_iff c19 e
        refine r_iload_n DX0_commonAt_23 (i := 2) rfl rfl ?_
        refine r_iload_n DX0_commonAt_24 (i := 1) rfl rfl ?_
        refine r_icmp_ne DX0_commonAt_25 (tgt := 30) (by decide) (fun c25 => ?_) (fun c25 => ?_)
        · replace e := x_iff c25 e
          refine r_iinc (L' := [some (.ref (xa g 19)), some (.int v1), some (.int (v2 + 1)), some (.int v3)]) DX0_commonAt_30 (x := v2) (v := (v2 + 1)) rfl rfl (by decide) rfl rfl ?_
          refine r_iinc (L' := [some (.ref (xa g 19)), some (.int v1), some (.int (v2 + 1)), some (.int (v3 + 1))]) DX0_commonAt_33 (x := v3) (v := (v3 + 1)) rfl rfl (by decide) rfl rfl ?_
          refine r_goto DX0_commonAt_36 (tgt := 4) (by decide) ?_
          exact ih _ _ _ e K0 K1
        · replace e := x_ift c25 e
          obtain rfl := Option.some.inj e
          refine r_mask (L' := [none, none, none, some (.int v3)]) [false, false, false, true] rfl ?_
          exact K1 _ rfl

set_option maxRecDepth 100000 in
set_option maxHeartbeats 4000000 in
theorem t_X0_commonAt {l : Launch} {g : xG} {b : xT} (N : Nat) (v1 : Int32) (a : xT)  {r : Int32} (e : f_X0_commonAt N v1 a = some r) : Ev l g 0 yX0_commonAt M_X0_commonAt [.ref (xa g 19), .int v1] (a, b) (some (.int r), (a, b)) := by
  unfold f_X0_commonAt at e
  refine Ev.of 2 (L0 := [some (.ref (xa g 19)), some (.int v1), none, none]) (by decide) rfl (Nat.le_of_ble_eq_true rfl) rfl ?_
  refine r_iconst DX0_commonAt_0 (v := 0) (by decide) ?_
  refine r_istore_n (L' := [some (.ref (xa g 19)), some (.int v1), some (.int 0), none]) DX0_commonAt_1 (i := 2) rfl (by decide) rfl rfl ?_
  refine r_iconst DX0_commonAt_2 (v := 0) (by decide) ?_
  refine r_istore_n (L' := [some (.ref (xa g 19)), some (.int v1), some (.int 0), some (.int 0)]) DX0_commonAt_3 (i := 3) rfl (by decide) rfl rfl ?_
  obtain ⟨q4, e4, e⟩ := x_bnd e
  refine lp_X0_commonAt_L4 v1 a N 0 0 q4 e4 (fun z4_39 w4 => ?_) (fun z4_28 w4 => ?_)
  · subst w4
    dsimp only [Sum.elim] at e
    refine r_iconst DX0_commonAt_39 (v := (-1)) (by decide) ?_
    obtain rfl := Option.some.inj e
    exact r_iret DX0_commonAt_40 rfl rfl
  · subst w4
    dsimp only [Sum.elim] at e
    refine r_iload_n DX0_commonAt_28 (i := 3) rfl rfl ?_
    obtain rfl := Option.some.inj e
    exact r_iret DX0_commonAt_29 rfl rfl
