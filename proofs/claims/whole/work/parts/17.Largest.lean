set_option maxRecDepth 100000 in
set_option maxHeartbeats 4000000 in
theorem t_X2_forget {l : Launch} {g : xG} {b : xT} (a : xT)  {r : xT} (e : f_X2_forget a = some r) : Ev l g 0 yX2_forget M_X2_forget [.ref (xa g 15)] (a, b) (none, (r, b)) := by
  unfold f_X2_forget at e
  refine Ev.of 0 (L0 := [some (.ref (xa g 15))]) (by decide) rfl (Nat.le_of_ble_eq_true rfl) rfl ?_
  refine r_aload_n DX2_forget_0 (i := 0) rfl rfl ?_
  refine r_iconst DX2_forget_1 (v := 0) (by decide) ?_
  refine r_put (ty := .boolean) DX2_forget_2 F_X2_29 Fp_2_5 e_15 (by decide) (by decide) (Nat.le_of_ble_eq_true rfl) p_15_5 ?_
  obtain rfl := Option.some.inj e
  exact r_vret DX2_forget_5 rfl rfl

set_option maxRecDepth 100000 in
set_option maxHeartbeats 4000000 in
theorem lp_X2_apartAbove_L15 {l : Launch} {g : xG} {b : xT} {R : Option Value × xS} (v1 : Int32) (v2 : Int64) (v4 : Int32) (v5 : Int32) (a : xT) : ∀ (n : Nat) (v6 : Int64) (v8 : Int32) (r : (Int64)), f_X2_apartAbove_L15 v1 v2 v4 v5 a n v6 v8 = some r → Rx l g 3 M_X2_apartAbove 60 [none, none, none, none, none, none, some (.long r), none, none] [] (a, b) R → Rx l g 3 M_X2_apartAbove 15 [some (.ref (xa g 1)), some (.int v1), some (.long v2), none, some (.int v4), some (.int v5), some (.long v6), none, some (.int v8)] [] (a, b) R := by
  intro n
  induction n with
  | zero => intro v6_ v8_ r_ e; cases e
  | succ n ih =>
    intro v6 v8 r e K0
    rw [f_X2_apartAbove_L15] at e
    refine r_iload DX2_apartAbove_15 rfl ?_
    refine r_iload DX2_apartAbove_17 rfl ?_
    refine r_icmp_ge DX2_apartAbove_19 (tgt := 60) (by decide) (fun c19 => ?_) (fun c19 => ?_)
    · replace e := x_ift c19 e
      obtain rfl := Option.some.inj e
      refine r_mask (L' := [none, none, none, none, none, none, some (.long v6), none, none]) [false, false, false, false, false, false, true, false, false] rfl ?_
      exact K0
    · replace e := x_iff c19 e
      refine r_lload_n DX2_apartAbove_22 (i := 2) rfl rfl ?_
      refine r_iload DX2_apartAbove_23 rfl ?_
      refine r_lushr DX2_apartAbove_25 ?_
      refine r_lconst DX2_apartAbove_26 (v := 1) (by decide) ?_
      refine r_land DX2_apartAbove_27 ?_
      refine r_lconst DX2_apartAbove_28 (v := 0) (by decide) ?_
      refine r_lcmp_eq DX2_apartAbove_29 DX2_apartAbove_30 (tgt := 54) (by decide) (fun c29 => ?_) (fun c29 => ?_)
      · replace e := x_ift c29 e
        refine r_iinc (L' := [some (.ref (xa g 1)), some (.int v1), some (.long v2), none, some (.int v4), some (.int v5), some (.long v6), none, some (.int (v8 + 1))]) DX2_apartAbove_54 (x := v8) (v := (v8 + 1)) rfl rfl (by decide) rfl rfl ?_
        refine r_goto DX2_apartAbove_57 (tgt := 15) (by decide) ?_
        exact ih _ _ _ e K0
      · replace e := x_iff c29 e
        refine r_aload_n DX2_apartAbove_33 (i := 0) rfl rfl ?_
        refine r_iload_n DX2_apartAbove_34 (i := 1) rfl rfl ?_
        refine r_iload DX2_apartAbove_35 rfl ?_
        refine r_iload DX2_apartAbove_37 rfl ?_
        obtain ⟨q39, e39, e⟩ := x_bnd e
        refine r_callV1 (As := [.int v1, .int v5, .int v8]) (S := []) DX2_apartAbove_39 C_X2_66 (ci := 1) rfl rfl e_1 (by decide) (by decide) (Nat.le_of_ble_eq_true rfl) (t_X1_alike v1 v5 v8 a e39) rfl ?_
        refine r_if_ne DX2_apartAbove_42 (tgt := 54) (by decide) (fun c42 => ?_) (fun c42 => ?_)
        · replace e := x_iff c42 e
          refine r_iinc (L' := [some (.ref (xa g 1)), some (.int v1), some (.long v2), none, some (.int v4), some (.int v5), some (.long v6), none, some (.int (v8 + 1))]) DX2_apartAbove_54 (x := v8) (v := (v8 + 1)) rfl rfl (by decide) rfl rfl ?_
          refine r_goto DX2_apartAbove_57 (tgt := 15) (by decide) ?_
          exact ih _ _ _ e K0
        · replace e := x_ift c42 e
          refine r_lload DX2_apartAbove_45 rfl ?_
          refine r_lconst DX2_apartAbove_47 (v := 1) (by decide) ?_
          refine r_iload DX2_apartAbove_48 rfl ?_
          refine r_lshl DX2_apartAbove_50 ?_
          refine r_lor DX2_apartAbove_51 ?_
          obtain ⟨w52, e52, e⟩ := x_bnd e
          refine r_lstoreB (L' := [some (.ref (xa g 1)), some (.int v1), some (.long v2), none, some (.int v4), some (.int v5), some (.long w52), none, some (.int v8)]) (w := w52) DX2_apartAbove_52 (Option.some.inj e52) (by decide) rfl rfl ?_
          refine r_iinc (L' := [some (.ref (xa g 1)), some (.int v1), some (.long v2), none, some (.int v4), some (.int v5), some (.long w52), none, some (.int (v8 + 1))]) DX2_apartAbove_54 (x := v8) (v := (v8 + 1)) rfl rfl (by decide) rfl rfl ?_
          refine r_goto DX2_apartAbove_57 (tgt := 15) (by decide) ?_
          exact ih _ _ _ e K0

set_option maxRecDepth 100000 in
set_option maxHeartbeats 4000000 in
theorem t_X2_apartAbove {l : Launch} {g : xG} {b : xT} (N : Nat) (v1 : Int32) (v2 : Int64) (v4 : Int32) (a : xT)  {r : Int64} (e : f_X2_apartAbove N v1 v2 v4 a = some r) : Ev l g 3 yX2_apartAbove M_X2_apartAbove [.ref (xa g 1), .int v1, .long v2, .int v4] (a, b) (some (.long r), (a, b)) := by
  unfold f_X2_apartAbove at e
  refine Ev.of 4 (L0 := [some (.ref (xa g 1)), some (.int v1), some (.long v2), none, some (.int v4), none, none, none, none]) (by decide) rfl (Nat.le_of_ble_eq_true rfl) rfl ?_
  refine r_aload_n DX2_apartAbove_0 (i := 0) rfl rfl ?_
  refine r_iload_n DX2_apartAbove_1 (i := 1) rfl rfl ?_
  obtain ⟨q2, e2, e⟩ := x_bnd e
  refine r_callV1 (As := [.int v1]) (S := []) DX2_apartAbove_2 C_X2_63 (ci := 1) rfl rfl e_1 (by decide) (by decide) (Nat.le_of_ble_eq_true rfl) (t_X1_reversed N v1 a e2) rfl ?_
  refine r_istore (L' := [some (.ref (xa g 1)), some (.int v1), some (.long v2), none, some (.int v4), some (.int q2), none, none, none]) DX2_apartAbove_5 (by decide) rfl rfl ?_
  refine r_lconst DX2_apartAbove_7 (v := 0) (by decide) ?_
  refine r_lstore (L' := [some (.ref (xa g 1)), some (.int v1), some (.long v2), none, some (.int v4), some (.int q2), some (.long 0), none, none]) DX2_apartAbove_8 (by decide) rfl rfl ?_
  refine r_iload_n DX2_apartAbove_10 (i := 1) rfl rfl ?_
  refine r_iconst DX2_apartAbove_11 (v := 1) (by decide) ?_
  refine r_iadd DX2_apartAbove_12 ?_
  refine r_istore (L' := [some (.ref (xa g 1)), some (.int v1), some (.long v2), none, some (.int v4), some (.int q2), some (.long 0), none, some (.int (v1 + 1))]) DX2_apartAbove_13 (by decide) rfl rfl ?_
  obtain ⟨q15, e15, e⟩ := x_bnd e
  refine lp_X2_apartAbove_L15 v1 v2 v4 q2 a N 0 (v1 + 1) q15 e15 ?_
  refine r_lload DX2_apartAbove_60 rfl ?_
  obtain rfl := Option.some.inj e
  exact r_lret DX2_apartAbove_62 rfl rfl

set_option maxRecDepth 100000 in
set_option maxHeartbeats 4000000 in
theorem t_X2_canStandForAny {l : Launch} {g : xG} {b : xT} (v1 : Int32) (v2 : Int64) (a : xT)  {r : Int32} (e : f_X2_canStandForAny v1 v2 a = some r) : Ev l g 1 yX2_canStandForAny M_X2_canStandForAny [.ref (xa g 15), .int v1, .long v2] (a, b) (some (.int r), (a, b)) := by
  unfold f_X2_canStandForAny at e
  refine Ev.of 0 (L0 := [some (.ref (xa g 15)), some (.int v1), some (.long v2), none]) (by decide) rfl (Nat.le_of_ble_eq_true rfl) rfl ?_
  refine r_lload_n DX2_canStandForAny_0 (i := 2) rfl rfl ?_
  refine r_aload_n DX2_canStandForAny_1 (i := 0) rfl rfl ?_
  refine r_get (v := .ref (xa g 17)) DX2_canStandForAny_2 F_X2_15 e_15 rfl ?_
  refine r_iload_n DX2_canStandForAny_5 (i := 1) rfl rfl ?_
  obtain ⟨c6, e⟩ := x_grd e
  refine r_lald (f := (gB a 17)) DX2_canStandForAny_6 e_17 rfl c6 ?_
  refine r_ldc2 DX2_canStandForAny_7 K_X2_74 ?_
  refine r_lxor DX2_canStandForAny_10 ?_
  refine r_land DX2_canStandForAny_11 ?_
  refine r_iload_n DX2_canStandForAny_12 (i := 1) rfl rfl ?_
  refine r_iconst DX2_canStandForAny_13 (v := 1) (by decide) ?_
  refine r_iadd DX2_canStandForAny_14 ?_
  refine r_lushr DX2_canStandForAny_15 ?_
  obtain ⟨q16, e16, e⟩ := x_bnd e
  refine r_callS1 (As := [.long (xlushr (v2 &&& (((gB a 17) (Int32.toNatClampNeg v1)) ^^^ (-1))) (v1 + 1))]) (S := []) DX2_canStandForAny_16 C_X2_76 (by decide) (by decide) (Nat.le_of_ble_eq_true rfl) (t_J13_bitCount_95d88 (xlushr (v2 &&& (((gB a 17) (Int32.toNatClampNeg v1)) ^^^ (-1))) (v1 + 1)) e16) rfl ?_
  refine r_iconst DX2_canStandForAny_19 (v := 1) (by decide) ?_
  refine r_icmp_gt DX2_canStandForAny_20 (tgt := 27) (by decide) (fun c20 => ?_) (fun c20 => ?_)
  · replace e := x_ift c20 e
    refine r_iconst DX2_canStandForAny_27 (v := 0) (by decide) ?_
    obtain rfl := Option.some.inj e
    exact r_zret DX2_canStandForAny_28 rfl (by decide) rfl
  · replace e := x_iff c20 e
    refine r_iconst DX2_canStandForAny_23 (v := 1) (by decide) ?_
    refine r_goto DX2_canStandForAny_24 (tgt := 28) (by decide) ?_
    obtain rfl := Option.some.inj e
    exact r_zret DX2_canStandForAny_28 rfl (by decide) rfl

set_option maxRecDepth 100000 in
set_option maxHeartbeats 4000000 in
theorem lp_X2_canPick_L19 {l : Launch} {g : xG} {b : xT} {R : Option Value × xS} {D : Nat} (rc : (Int64 → Int32 → Int32 → Int32 → xT → Option (Int32 × xT))) (N : Nat) (v1 : Int64) (v3 : Int32) (v5 : Int32)  (hrc : ∀ (v1 : Int64) (v3 : Int32) (v4 : Int32) (v5 : Int32) (a : xT) (r : (Int32 × xT)), rc v1 v3 v4 v5 a = some r → Ev l g (2 + D) yX2_canPick M_X2_canPick [.ref (xa g 15), .long v1, .int v3, .int v4, .int v5] (a, b) (some (.int r.1), (r.2, b))): ∀ (n : Nat) (v6 : Int32) (a : xT) (r : ((xT) ⊕ (xT) ⊕ (xT))), f_X2_canPick_L19 rc N v1 v3 v5 n v6 a = some r → (∀ z, r = (.inl z) → Rx l g (2 + (D + 1)) M_X2_canPick 104 [none, none, none, none, none, none, none] [] (z, b) R) → (∀ z, r = (.inr (.inl z)) → Rx l g (2 + (D + 1)) M_X2_canPick 84 [none, none, none, none, none, none, none] [] (z, b) R) → (∀ z, r = (.inr (.inr (z))) → Rx l g (2 + (D + 1)) M_X2_canPick 96 [none, none, none, none, none, none, none] [] (z, b) R) → Rx l g (2 + (D + 1)) M_X2_canPick 19 [some (.ref (xa g 15)), some (.long v1), none, some (.int v3), none, some (.int v5), some (.int v6)] [] (a, b) R := by
  intro n
  induction n with
  | zero => intro v6_ s_ r_ e; cases e
  | succ n ih =>
    intro v6 a r e K0 K1 K2
    rw [f_X2_canPick_L19] at e
    refine r_iload DX2_canPick_19 rfl ?_
    refine r_bipush DX2_canPick_21 (v := 32) (by decide) ?_
    refine r_icmp_ge DX2_canPick_23 (tgt := 104) (by decide) (fun c23 => ?_) (fun c23 => ?_)
    · replace e := x_ift c23 e
      obtain rfl := Option.some.inj e
      refine r_mask (L' := [none, none, none, none, none, none, none]) [false, false, false, false, false, false, false] rfl ?_
      exact K0 _ rfl
    · replace e := x_iff c23 e
      refine r_aload_n DX2_canPick_26 (i := 0) rfl rfl ?_
      refine r_get (v := .ref (xa g 18)) DX2_canPick_27 F_X2_19 e_15 rfl ?_
      refine r_iload DX2_canPick_30 rfl ?_
      obtain ⟨c32, e⟩ := x_grd e
      refine r_iald (f := (gA a 18)) DX2_canPick_32 e_18 rfl c32 ?_
      refine r_iload_n DX2_canPick_33 (i := 3) rfl rfl ?_
      refine r_icmp_lt DX2_canPick_34 (tgt := 104) (by decide) (fun c34 => ?_) (fun c34 => ?_)
      · replace e := x_ift c34 e
        obtain rfl := Option.some.inj e
        refine r_mask (L' := [none, none, none, none, none, none, none]) [false, false, false, false, false, false, false] rfl ?_
        exact K0 _ rfl
      · replace e := x_iff c34 e
        refine r_lload_n DX2_canPick_37 (i := 1) rfl rfl ?_
        refine r_iload DX2_canPick_38 rfl ?_
        refine r_lushr DX2_canPick_40 ?_
        refine r_lconst DX2_canPick_41 (v := 1) (by decide) ?_
        refine r_land DX2_canPick_42 ?_
        refine r_lconst DX2_canPick_43 (v := 0) (by decide) ?_
        refine r_lcmp_eq DX2_canPick_44 DX2_canPick_45 (tgt := 98) (by decide) (fun c44 => ?_) (fun c44 => ?_)
        · replace e := x_ift c44 e
          refine r_iinc (L' := [some (.ref (xa g 15)), some (.long v1), none, some (.int v3), none, some (.int v5), some (.int (v6 + 1))]) DX2_canPick_98 (x := v6) (v := (v6 + 1)) rfl rfl (by decide) rfl rfl ?_
          refine r_goto DX2_canPick_101 (tgt := 19) (by decide) ?_
          exact ih _ _ _ e K0 K1 K2
        · replace e := x_iff c44 e
          refine r_aload_n DX2_canPick_48 (i := 0) rfl rfl ?_
          refine r_get (v := .ref (xa g 16)) DX2_canPick_49 F_X2_11 e_15 rfl ?_
          refine r_iload DX2_canPick_52 rfl ?_
          refine r_iload DX2_canPick_54 rfl ?_
          obtain ⟨c56, e⟩ := x_grd e
          refine r_iast (f := (gA a 16)) DX2_canPick_56 e_16 rfl c56 p_16 ?_
          refine r_aload_n DX2_canPick_57 (i := 0) rfl rfl ?_
          refine r_lload_n DX2_canPick_58 (i := 1) rfl rfl ?_
          refine r_aload_n DX2_canPick_59 (i := 0) rfl rfl ?_
          refine r_get (v := .ref (xa g 17)) DX2_canPick_60 F_X2_15 e_15 rfl ?_
          refine r_iload DX2_canPick_63 rfl ?_
          obtain ⟨c65, e⟩ := x_grd e
          refine r_lald (f := (gB a 17)) DX2_canPick_65 e_17 rfl c65 ?_
          refine r_land DX2_canPick_66 ?_
          refine r_iload_n DX2_canPick_67 (i := 3) rfl rfl ?_
          refine r_iconst DX2_canPick_68 (v := 1) (by decide) ?_
          refine r_isub DX2_canPick_69 ?_
          refine r_iload DX2_canPick_70 rfl ?_
          refine r_iconst DX2_canPick_72 (v := 1) (by decide) ?_
          refine r_iadd DX2_canPick_73 ?_
          refine r_iload DX2_canPick_74 rfl ?_
          refine r_iconst DX2_canPick_76 (v := 1) (by decide) ?_
          refine r_iadd DX2_canPick_77 ?_
          obtain ⟨q78, e78, e⟩ := x_bnd e
          refine r_callV1 (As := [.long (v1 &&& ((gB a 17) (Int32.toNatClampNeg v6))), .int (v3 - 1), .int (v6 + 1), .int (v5 + 1)]) (S := []) DX2_canPick_78 C_X2_53 (ci := 2) rfl rfl e_15 (by omega) (by decide) (Nat.le_of_ble_eq_true rfl) (hrc (v1 &&& ((gB a 17) (Int32.toNatClampNeg v6))) (v3 - 1) (v6 + 1) (v5 + 1) (sA a 16 (upd (gA a 16) (Int32.toNatClampNeg v5) v6)) _ e78) rfl ?_
          refine r_if_eq DX2_canPick_81 (tgt := 86) (by decide) (fun c81 => ?_) (fun c81 => ?_)
          · replace e := x_ift c81 e
            refine r_aload_n DX2_canPick_86 (i := 0) rfl rfl ?_
            refine r_iload DX2_canPick_87 rfl ?_
            refine r_lload_n DX2_canPick_89 (i := 1) rfl rfl ?_
            obtain ⟨q90, e90, e⟩ := x_bnd e
            refine r_callV1 (As := [.int v6, .long v1]) (S := []) DX2_canPick_90 C_X2_70 (ci := 2) rfl rfl e_15 (by omega) (by decide) (Nat.le_of_ble_eq_true rfl) (t_X2_canStandForAny v6 v1 q78.2 e90) rfl ?_
            refine r_if_eq DX2_canPick_93 (tgt := 98) (by decide) (fun c93 => ?_) (fun c93 => ?_)
            · replace e := x_ift c93 e
              refine r_iinc (L' := [some (.ref (xa g 15)), some (.long v1), none, some (.int v3), none, some (.int v5), some (.int (v6 + 1))]) DX2_canPick_98 (x := v6) (v := (v6 + 1)) rfl rfl (by decide) rfl rfl ?_
              refine r_goto DX2_canPick_101 (tgt := 19) (by decide) ?_
              exact ih _ _ _ e K0 K1 K2
            · replace e := x_iff c93 e
              obtain rfl := Option.some.inj e
              refine r_mask (L' := [none, none, none, none, none, none, none]) [false, false, false, false, false, false, false] rfl ?_
              exact K2 _ rfl
          · replace e := x_iff c81 e
            obtain rfl := Option.some.inj e
            refine r_mask (L' := [none, none, none, none, none, none, none]) [false, false, false, false, false, false, false] rfl ?_
            exact K1 _ rfl

set_option maxRecDepth 100000 in
set_option maxHeartbeats 4000000 in
theorem t0_X2_canPick {l : Launch} {g : xG} {b : xT} (N : Nat) : ∀ (D : Nat) (v1 : Int64) (v3 : Int32) (v4 : Int32) (v5 : Int32) (a : xT) (r : (Int32 × xT)), f_X2_canPick D N v1 v3 v4 v5 a = some r → Ev l g (2 + D) yX2_canPick M_X2_canPick [.ref (xa g 15), .long v1, .int v3, .int v4, .int v5] (a, b) (some (.int r.1), (r.2, b)) := by
  intro D
  induction D with
  | zero => intro w_v1 w_v3 w_v4 w_v5 w_s w_r e; cases e
  | succ D ih =>
    intro v1 v3 v4 v5 a r e
    rw [f_X2_canPick] at e
    refine Ev.of 1 (L0 := [some (.ref (xa g 15)), some (.long v1), none, some (.int v3), some (.int v4), some (.int v5), none]) (by decide) rfl (Nat.le_of_ble_eq_true rfl) rfl ?_
    refine r_iload_n DX2_canPick_0 (i := 3) rfl rfl ?_
    refine r_if_gt DX2_canPick_1 (tgt := 6) (by decide) (fun c1 => ?_) (fun c1 => ?_)
    · replace e := x_ift c1 e
      refine r_iload DX2_canPick_6 rfl ?_
      refine r_bipush DX2_canPick_8 (v := 32) (by decide) ?_
      refine r_icmp_lt DX2_canPick_10 (tgt := 15) (by decide) (fun c10 => ?_) (fun c10 => ?_)
      · replace e := x_ift c10 e
        refine r_iload DX2_canPick_15 rfl ?_
        refine r_istore (L' := [some (.ref (xa g 15)), some (.long v1), none, some (.int v3), some (.int v4), some (.int v5), some (.int v4)]) DX2_canPick_17 (by decide) rfl rfl ?_
        obtain ⟨q19, e19, e⟩ := x_bnd e
        refine r_mask (L' := [some (.ref (xa g 15)), some (.long v1), none, some (.int v3), none, some (.int v5), some (.int v4)]) [true, true, false, true, false, true, true] rfl ?_
        refine lp_X2_canPick_L19 (f_X2_canPick D N) N v1 v3 v5 (fun v1 v3 v4 v5 a r e => ih v1 v3 v4 v5 a r e) N v4 a q19 e19 (fun z19_104 w19 => ?_) (fun z19_84 w19 => ?_) (fun z19_96 w19 => ?_)
        · subst w19
          dsimp only [Sum.elim] at e
          refine r_iconst DX2_canPick_104 (v := 0) (by decide) ?_
          obtain rfl := Option.some.inj e
          exact r_zret DX2_canPick_105 rfl (by decide) rfl
        · subst w19
          dsimp only [Sum.elim] at e
          refine r_iconst DX2_canPick_84 (v := 1) (by decide) ?_
          obtain rfl := Option.some.inj e
          exact r_zret DX2_canPick_85 rfl (by decide) rfl
        · subst w19
          dsimp only [Sum.elim] at e
          refine r_iconst DX2_canPick_96 (v := 0) (by decide) ?_
          obtain rfl := Option.some.inj e
          exact r_zret DX2_canPick_97 rfl (by decide) rfl
      · replace e := x_iff c10 e
        refine r_iconst DX2_canPick_13 (v := 0) (by decide) ?_
        obtain rfl := Option.some.inj e
        exact r_zret DX2_canPick_14 rfl (by decide) rfl
    · replace e := x_iff c1 e
      refine r_iconst DX2_canPick_4 (v := 1) (by decide) ?_
      obtain rfl := Option.some.inj e
      exact r_zret DX2_canPick_5 rfl (by decide) rfl
theorem t_X2_canPick {l : Launch} {g : xG} {b : xT} (D : Nat) (N : Nat) (v1 : Int64) (v3 : Int32) (v4 : Int32) (v5 : Int32) (a : xT) {r : (Int32 × xT)} (e : f_X2_canPick D N v1 v3 v4 v5 a = some r) : Ev l g (2 + D) yX2_canPick M_X2_canPick [.ref (xa g 15), .long v1, .int v3, .int v4, .int v5] (a, b) (some (.int r.1), (r.2, b)) := t0_X2_canPick N D v1 v3 v4 v5 a r e

set_option maxRecDepth 100000 in
set_option maxHeartbeats 4000000 in
theorem lp_X2_marksWith_L5 {l : Launch} {g : xG} {s : xS} {R : Option Value × xS} (v0 : Int32) (v1 : Int32) : ∀ (n : Nat) (v2 : Int64) (v4 : Int32) (r : (Int64)), f_X2_marksWith_L5 v0 v1 n v2 v4 = some r → Rx l g 1 M_X2_marksWith 38 [none, none, some (.long r), none, none] [] s R → Rx l g 1 M_X2_marksWith 5 [some (.int v0), some (.int v1), some (.long v2), none, some (.int v4)] [] s R := by
  intro n
  induction n with
  | zero => intro v2_ v4_ r_ e; cases e
  | succ n ih =>
    intro v2 v4 r e K0
    rw [f_X2_marksWith_L5] at e
    refine r_iload DX2_marksWith_5 rfl ?_
    refine r_iload_n DX2_marksWith_7 (i := 0) rfl rfl ?_
    refine r_icmp_ge DX2_marksWith_8 (tgt := 38) (by decide) (fun c8 => ?_) (fun c8 => ?_)
    · replace e := x_ift c8 e
      obtain rfl := Option.some.inj e
      refine r_mask (L' := [none, none, some (.long v2), none, none]) [false, false, true, false, false] rfl ?_
      exact K0
    · replace e := x_iff c8 e
      refine r_iload_n DX2_marksWith_11 (i := 1) rfl rfl ?_
      refine r_iconst DX2_marksWith_12 (v := (-1)) (by decide) ?_
      refine r_icmp_eq DX2_marksWith_13 (tgt := 25) (by decide) (fun c13 => ?_) (fun c13 => ?_)
      · replace e := x_ift c13 e
        refine r_lload_n DX2_marksWith_25 (i := 2) rfl rfl ?_
        refine r_lconst DX2_marksWith_26 (v := 1) (by decide) ?_
        refine r_iload DX2_marksWith_27 rfl ?_
        refine r_lshl DX2_marksWith_29 ?_
        refine r_lor DX2_marksWith_30 ?_
        obtain ⟨w31, e31, e⟩ := x_bnd e
        refine r_lstore_nB (L' := [some (.int v0), some (.int v1), some (.long w31), none, some (.int v4)]) (w := w31) DX2_marksWith_31 (Option.some.inj e31) (i := 2) rfl (by decide) rfl rfl ?_
        refine r_iinc (L' := [some (.int v0), some (.int v1), some (.long w31), none, some (.int (v4 + 1))]) DX2_marksWith_32 (x := v4) (v := (v4 + 1)) rfl rfl (by decide) rfl rfl ?_
        refine r_goto DX2_marksWith_35 (tgt := 5) (by decide) ?_
        exact ih _ _ _ e K0
      · replace e := x_iff c13 e
        refine r_iload DX2_marksWith_16 rfl ?_
        obtain ⟨q18, e18, e⟩ := x_bnd e
        refine r_callS1 (As := [.int v4]) (S := []) DX2_marksWith_18 C_X2_57 (by decide) (by decide) (Nat.le_of_ble_eq_true rfl) (t_J6_bitCount_0f7a4 v4 e18) rfl ?_
        refine r_iload_n DX2_marksWith_21 (i := 1) rfl rfl ?_
        refine r_icmp_ne DX2_marksWith_22 (tgt := 32) (by decide) (fun c22 => ?_) (fun c22 => ?_)
        · replace e := x_iff c22 e
          refine r_iinc (L' := [some (.int v0), some (.int v1), some (.long v2), none, some (.int (v4 + 1))]) DX2_marksWith_32 (x := v4) (v := (v4 + 1)) rfl rfl (by decide) rfl rfl ?_
          refine r_goto DX2_marksWith_35 (tgt := 5) (by decide) ?_
          exact ih _ _ _ e K0
        · replace e := x_ift c22 e
          refine r_lload_n DX2_marksWith_25 (i := 2) rfl rfl ?_
          refine r_lconst DX2_marksWith_26 (v := 1) (by decide) ?_
          refine r_iload DX2_marksWith_27 rfl ?_
          refine r_lshl DX2_marksWith_29 ?_
          refine r_lor DX2_marksWith_30 ?_
          obtain ⟨w31, e31, e⟩ := x_bnd e
          refine r_lstore_nB (L' := [some (.int v0), some (.int v1), some (.long w31), none, some (.int v4)]) (w := w31) DX2_marksWith_31 (Option.some.inj e31) (i := 2) rfl (by decide) rfl rfl ?_
          refine r_iinc (L' := [some (.int v0), some (.int v1), some (.long w31), none, some (.int (v4 + 1))]) DX2_marksWith_32 (x := v4) (v := (v4 + 1)) rfl rfl (by decide) rfl rfl ?_
          refine r_goto DX2_marksWith_35 (tgt := 5) (by decide) ?_
          exact ih _ _ _ e K0

set_option maxRecDepth 100000 in
set_option maxHeartbeats 4000000 in
theorem t_X2_marksWith {l : Launch} {g : xG} {s : xS} (N : Nat) (v0 : Int32) (v1 : Int32)  {r : Int64} (e : f_X2_marksWith N v0 v1 = some r) : Ev l g 1 yX2_marksWith M_X2_marksWith [.int v0, .int v1] s (some (.long r), s) := by
  unfold f_X2_marksWith at e
  refine Ev.of 3 (L0 := [some (.int v0), some (.int v1), none, none, none]) (by decide) rfl (Nat.le_of_ble_eq_true rfl) rfl ?_
  refine r_lconst DX2_marksWith_0 (v := 0) (by decide) ?_
  refine r_lstore_n (L' := [some (.int v0), some (.int v1), some (.long 0), none, none]) DX2_marksWith_1 (i := 2) rfl (by decide) rfl rfl ?_
  refine r_iconst DX2_marksWith_2 (v := 0) (by decide) ?_
  refine r_istore (L' := [some (.int v0), some (.int v1), some (.long 0), none, some (.int 0)]) DX2_marksWith_3 (by decide) rfl rfl ?_
  obtain ⟨q5, e5, e⟩ := x_bnd e
  refine lp_X2_marksWith_L5 v0 v1 N 0 0 q5 e5 ?_
  refine r_lload_n DX2_marksWith_38 (i := 2) rfl rfl ?_
  obtain rfl := Option.some.inj e
  exact r_lret DX2_marksWith_39 rfl rfl

set_option maxRecDepth 100000 in
set_option maxHeartbeats 4000000 in
theorem lp_X2_seek_L57 {l : Launch} {g : xG} {b : xT} {R : Option Value × xS} (N : Nat) (v3 : Int32) (v4 : Int64) : ∀ (n : Nat) (v6 : Int32) (a : xT) (r : (xT)), f_X2_seek_L57 N v3 v4 n v6 a = some r → Rx l g 43 M_X2_seek 151 [some (.ref (xa g 15)), none, none, none, some (.long v4), none, none] [] (r, b) R → Rx l g 43 M_X2_seek 57 [some (.ref (xa g 15)), some (.ref (xa g 1)), none, some (.int v3), some (.long v4), none, some (.int v6)] [] (a, b) R := by
  intro n
  induction n with
  | zero => intro v6_ s_ r_ e; cases e
  | succ n ih =>
    intro v6 a r e K0
    rw [f_X2_seek_L57] at e
    refine r_iload DX2_seek_57 rfl ?_
    refine r_if_lt DX2_seek_59 (tgt := 151) (by decide) (fun c59 => ?_) (fun c59 => ?_)
    · replace e := x_ift c59 e
      obtain rfl := Option.some.inj e
      refine r_mask (L' := [some (.ref (xa g 15)), none, none, none, some (.long v4), none, none]) [true, false, false, false, true, false, false] rfl ?_
      exact K0
    · replace e := x_iff c59 e
      refine r_aload_n DX2_seek_62 (i := 0) rfl rfl ?_
      refine r_get (v := .ref (xa g 18)) DX2_seek_63 F_X2_19 e_15 rfl ?_
      refine r_iload DX2_seek_66 rfl ?_
      refine r_aload_n DX2_seek_68 (i := 0) rfl rfl ?_
      refine r_get (v := .ref (xa g 18)) DX2_seek_69 F_X2_19 e_15 rfl ?_
      refine r_iload DX2_seek_72 rfl ?_
      refine r_iconst DX2_seek_74 (v := 1) (by decide) ?_
      refine r_iadd DX2_seek_75 ?_
      obtain ⟨c76, e⟩ := x_grd e
      refine r_iald (f := (gA a 18)) DX2_seek_76 e_18 rfl c76 ?_
      obtain ⟨c77, e⟩ := x_grd e
      refine r_iast (f := (gA a 18)) DX2_seek_77 e_18 rfl c77 p_18 ?_
      refine r_aload_n DX2_seek_78 (i := 0) rfl rfl ?_
      refine r_get (v := .ref (xa g 17)) DX2_seek_79 F_X2_15 e_15 rfl ?_
      refine r_iload DX2_seek_82 rfl ?_
      refine r_aload_n DX2_seek_84 (i := 1) rfl rfl ?_
      refine r_iload DX2_seek_85 rfl ?_
      refine r_lload DX2_seek_87 rfl ?_
      refine r_iload_n DX2_seek_89 (i := 3) rfl rfl ?_
      obtain ⟨q90, e90, e⟩ := x_bnd e
      refine r_callS1 (As := [.ref (xa g 1), .int v6, .long v4, .int v3]) (S := [.int v6, .ref (xa g 17)]) DX2_seek_90 C_X2_49 (by decide) (by decide) (Nat.le_of_ble_eq_true rfl) (t_X2_apartAbove N v6 v4 v3 (sA a 18 (upd (gA a 18) (Int32.toNatClampNeg v6) ((gA a 18) (Int32.toNatClampNeg (v6 + 1))))) e90) rfl ?_
      obtain ⟨c93, e⟩ := x_grd e
      refine r_last (f := (gB a 17)) DX2_seek_93 e_17 rfl c93 p_17 ?_
      refine r_lload DX2_seek_94 rfl ?_
      refine r_iload DX2_seek_96 rfl ?_
      refine r_lushr DX2_seek_98 ?_
      refine r_lconst DX2_seek_99 (v := 1) (by decide) ?_
      refine r_land DX2_seek_100 ?_
      refine r_lconst DX2_seek_101 (v := 0) (by decide) ?_
      refine r_lcmp_eq DX2_seek_102 DX2_seek_103 (tgt := 145) (by decide) (fun c102 => ?_) (fun c102 => ?_)
      · replace e := x_ift c102 e
        refine r_iinc (L' := [some (.ref (xa g 15)), some (.ref (xa g 1)), none, some (.int v3), some (.long v4), none, some (.int (v6 + (-1)))]) DX2_seek_145 (x := v6) (v := (v6 + (-1))) rfl rfl (by decide) rfl rfl ?_
        refine r_goto DX2_seek_148 (tgt := 57) (by decide) ?_
        exact ih _ _ _ e K0
      · replace e := x_iff c102 e
        refine r_aload_n DX2_seek_106 (i := 0) rfl rfl ?_
        refine r_aload_n DX2_seek_107 (i := 0) rfl rfl ?_
        refine r_get (v := .ref (xa g 17)) DX2_seek_108 F_X2_15 e_15 rfl ?_
        refine r_iload DX2_seek_111 rfl ?_
        obtain ⟨c113, e⟩ := x_grd e
        refine r_lald (f := (vp_updL (gB a 17) (Int32.toNatClampNeg v6) q90)) DX2_seek_113 e_17 rfl c113 ?_
        refine r_aload_n DX2_seek_114 (i := 0) rfl rfl ?_
        refine r_get (v := .ref (xa g 18)) DX2_seek_115 F_X2_19 e_15 rfl ?_
        refine r_iload DX2_seek_118 rfl ?_
        refine r_iconst DX2_seek_120 (v := 1) (by decide) ?_
        refine r_iadd DX2_seek_121 ?_
        obtain ⟨c122, e⟩ := x_grd e
        refine r_iald (f := (upd (gA a 18) (Int32.toNatClampNeg v6) ((gA a 18) (Int32.toNatClampNeg (v6 + 1))))) DX2_seek_122 e_18 rfl c122 ?_
        refine r_iload DX2_seek_123 rfl ?_
        refine r_iconst DX2_seek_125 (v := 1) (by decide) ?_
        refine r_iadd DX2_seek_126 ?_
        refine r_iconst DX2_seek_127 (v := 0) (by decide) ?_
        obtain ⟨q128, e128, e⟩ := x_bnd e
        refine r_callV1 (As := [.long ((vp_updL (gB a 17) (Int32.toNatClampNeg v6) q90) (Int32.toNatClampNeg v6)), .int ((upd (gA a 18) (Int32.toNatClampNeg v6) ((gA a 18) (Int32.toNatClampNeg (v6 + 1)))) (Int32.toNatClampNeg (v6 + 1))), .int (v6 + 1), .int 0]) (S := []) DX2_seek_128 C_X2_53 (ci := 2) rfl rfl e_15 (by decide) (by decide) (Nat.le_of_ble_eq_true rfl) (t_X2_canPick 40 N ((vp_updL (gB a 17) (Int32.toNatClampNeg v6) q90) (Int32.toNatClampNeg v6)) ((upd (gA a 18) (Int32.toNatClampNeg v6) ((gA a 18) (Int32.toNatClampNeg (v6 + 1)))) (Int32.toNatClampNeg (v6 + 1))) (v6 + 1) 0 (sB (sA a 18 (upd (gA a 18) (Int32.toNatClampNeg v6) ((gA a 18) (Int32.toNatClampNeg (v6 + 1))))) 17 (vp_updL (gB a 17) (Int32.toNatClampNeg v6) q90)) e128) rfl ?_
        refine r_if_eq DX2_seek_131 (tgt := 145) (by decide) (fun c131 => ?_) (fun c131 => ?_)
        · replace e := x_ift c131 e
          refine r_iinc (L' := [some (.ref (xa g 15)), some (.ref (xa g 1)), none, some (.int v3), some (.long v4), none, some (.int (v6 + (-1)))]) DX2_seek_145 (x := v6) (v := (v6 + (-1))) rfl rfl (by decide) rfl rfl ?_
          refine r_goto DX2_seek_148 (tgt := 57) (by decide) ?_
          exact ih _ _ _ e K0
        · replace e := x_iff c131 e
          refine r_aload_n DX2_seek_134 (i := 0) rfl rfl ?_
          refine r_get (v := .ref (xa g 18)) DX2_seek_135 F_X2_19 e_15 rfl ?_
          refine r_iload DX2_seek_138 rfl ?_
          refine r_dup2 DX2_seek_140 rfl rfl ?_
          obtain ⟨c141, e⟩ := x_grd e
          refine r_iald (f := (gA q128.2 18)) DX2_seek_141 e_18 rfl c141 ?_
          refine r_iconst DX2_seek_142 (v := 1) (by decide) ?_
          refine r_iadd DX2_seek_143 ?_
          obtain ⟨c144, e⟩ := x_grd e
          refine r_iast (f := (gA q128.2 18)) DX2_seek_144 e_18 rfl c144 p_18 ?_
          refine r_iinc (L' := [some (.ref (xa g 15)), some (.ref (xa g 1)), none, some (.int v3), some (.long v4), none, some (.int (v6 + (-1)))]) DX2_seek_145 (x := v6) (v := (v6 + (-1))) rfl rfl (by decide) rfl rfl ?_
          refine r_goto DX2_seek_148 (tgt := 57) (by decide) ?_
          exact ih _ _ _ e K0

set_option maxRecDepth 100000 in
set_option maxHeartbeats 4000000 in
theorem t_X2_seek {l : Launch} {g : xG} {b : xT} (N : Nat) (v2 : Int32) (a : xT)  {r : xT} (e : f_X2_seek N v2 a = some r) : Ev l g 43 yX2_seek M_X2_seek [.ref (xa g 15), .ref (xa g 1), .int v2] (a, b) (none, (r, b)) := by
  unfold f_X2_seek at e
  refine Ev.of 4 (L0 := [some (.ref (xa g 15)), some (.ref (xa g 1)), some (.int v2), none, none, none, none]) (by decide) rfl (Nat.le_of_ble_eq_true rfl) rfl ?_
  refine r_aload_n DX2_seek_0 (i := 0) rfl rfl ?_
  refine r_get (v := .int (gI a 16)) DX2_seek_1 F_X2_29 e_15 rfl ?_
  refine r_if_eq DX2_seek_4 (tgt := 16) (by decide) (fun c4 => ?_) (fun c4 => ?_)
  · replace e := x_ift c4 e
    refine r_aload_n DX2_seek_16 (i := 0) rfl rfl ?_
    refine r_iconst DX2_seek_17 (v := 1) (by decide) ?_
    refine r_put (ty := .boolean) DX2_seek_18 F_X2_29 Fp_2_5 e_15 (by decide) (by decide) (Nat.le_of_ble_eq_true rfl) p_15_5 ?_
    refine r_aload_n DX2_seek_21 (i := 0) rfl rfl ?_
    refine r_iload_n DX2_seek_22 (i := 2) rfl rfl ?_
    refine r_put (ty := .int) DX2_seek_23 F_X2_26 Fp_2_4 e_15 rfl rfl (Nat.le_of_ble_eq_true rfl) p_15_4 ?_
    refine r_bipush DX2_seek_26 (v := 32) (by decide) ?_
    refine r_aload_n DX2_seek_28 (i := 1) rfl rfl ?_
    obtain ⟨q29, e29, e⟩ := x_bnd e
    refine r_callV1 (As := []) (S := [.int 32]) DX2_seek_29 C_X2_33 (ci := 1) rfl rfl e_1 (by decide) (by decide) (Nat.le_of_ble_eq_true rfl) (t_X1_all (sI (sI a 16 1) 15 v2) e29) rfl ?_
    refine r_iconst DX2_seek_32 (v := 1) (by decide) ?_
    refine r_iadd DX2_seek_33 ?_
    refine r_mmin DX2_seek_34 C_X2_39 (by decide) (Nat.le_of_ble_eq_true rfl) ?_
    refine r_istore_n (L' := [some (.ref (xa g 15)), some (.ref (xa g 1)), some (.int v2), some (.int (xmin 32 (q29 + 1))), none, none, none]) DX2_seek_37 (i := 3) rfl (by decide) rfl rfl ?_
    refine r_iload_n DX2_seek_38 (i := 3) rfl rfl ?_
    refine r_iload_n DX2_seek_39 (i := 2) rfl rfl ?_
    obtain ⟨q40, e40, e⟩ := x_bnd e
    refine r_callS1 (As := [.int (xmin 32 (q29 + 1)), .int v2]) (S := []) DX2_seek_40 C_X2_45 (by decide) (by decide) (Nat.le_of_ble_eq_true rfl) (t_X2_marksWith N (xmin 32 (q29 + 1)) v2 e40) rfl ?_
    refine r_lstore (L' := [some (.ref (xa g 15)), some (.ref (xa g 1)), some (.int v2), some (.int (xmin 32 (q29 + 1))), some (.long q40), none, none]) DX2_seek_43 (by decide) rfl rfl ?_
    refine r_aload_n DX2_seek_45 (i := 0) rfl rfl ?_
    refine r_get (v := .ref (xa g 18)) DX2_seek_46 F_X2_19 e_15 rfl ?_
    refine r_iload_n DX2_seek_49 (i := 3) rfl rfl ?_
    refine r_iconst DX2_seek_50 (v := 0) (by decide) ?_
    obtain ⟨c51, e⟩ := x_grd e
    refine r_iast (f := (gA a 18)) DX2_seek_51 e_18 rfl c51 p_18 ?_
    refine r_iload_n DX2_seek_52 (i := 3) rfl rfl ?_
    refine r_iconst DX2_seek_53 (v := 1) (by decide) ?_
    refine r_isub DX2_seek_54 ?_
    refine r_istore (L' := [some (.ref (xa g 15)), some (.ref (xa g 1)), some (.int v2), some (.int (xmin 32 (q29 + 1))), some (.long q40), none, some (.int ((xmin 32 (q29 + 1)) - 1))]) DX2_seek_55 (by decide) rfl rfl ?_
    obtain ⟨q57, e57, e⟩ := x_bnd e
    refine r_mask (L' := [some (.ref (xa g 15)), some (.ref (xa g 1)), none, some (.int (xmin 32 (q29 + 1))), some (.long q40), none, some (.int ((xmin 32 (q29 + 1)) - 1))]) [true, true, false, true, true, false, true] rfl ?_
    refine lp_X2_seek_L57 N (xmin 32 (q29 + 1)) q40 N ((xmin 32 (q29 + 1)) - 1) (sA (sI (sI a 16 1) 15 v2) 18 (upd (gA a 18) (Int32.toNatClampNeg (xmin 32 (q29 + 1))) 0)) q57 e57 ?_
    refine r_aload_n DX2_seek_151 (i := 0) rfl rfl ?_
    refine r_aload_n DX2_seek_152 (i := 0) rfl rfl ?_
    refine r_get (v := .ref (xa g 18)) DX2_seek_153 F_X2_19 e_15 rfl ?_
    refine r_iconst DX2_seek_156 (v := 0) (by decide) ?_
    obtain ⟨c157, e⟩ := x_grd e
    refine r_iald (f := (gA q57 18)) DX2_seek_157 e_18 rfl c157 ?_
    refine r_put (ty := .int) DX2_seek_158 F_X2_22 Fp_2_3 e_15 rfl rfl (Nat.le_of_ble_eq_true rfl) p_15_3 ?_
    refine r_aload_n DX2_seek_161 (i := 0) rfl rfl ?_
    refine r_lload DX2_seek_162 rfl ?_
    refine r_aload_n DX2_seek_164 (i := 0) rfl rfl ?_
    refine r_get (v := .int ((gA q57 18) (Int32.toNatClampNeg 0))) DX2_seek_165 F_X2_22 e_15 rfl ?_
    refine r_iconst DX2_seek_168 (v := 0) (by decide) ?_
    refine r_iconst DX2_seek_169 (v := 0) (by decide) ?_
    obtain ⟨q170, e170, e⟩ := x_bnd e
    refine r_callV1 (As := [.long q40, .int ((gA q57 18) (Int32.toNatClampNeg 0)), .int 0, .int 0]) (S := []) DX2_seek_170 C_X2_53 (ci := 2) rfl rfl e_15 (by decide) (by decide) (Nat.le_of_ble_eq_true rfl) (t_X2_canPick 40 N q40 ((gA q57 18) (Int32.toNatClampNeg 0)) 0 0 (sI q57 14 ((gA q57 18) (Int32.toNatClampNeg 0))) e170) rfl ?_
    refine r_pop DX2_seek_173 rfl ?_
    obtain rfl := Option.some.inj e
    exact r_vret DX2_seek_174 rfl rfl
  · replace e := x_iff c4 e
    refine r_aload_n DX2_seek_7 (i := 0) rfl rfl ?_
    refine r_get (v := .int (gI a 15)) DX2_seek_8 F_X2_26 e_15 rfl ?_
    refine r_iload_n DX2_seek_11 (i := 2) rfl rfl ?_
    refine r_icmp_ne DX2_seek_12 (tgt := 16) (by decide) (fun c12 => ?_) (fun c12 => ?_)
    · replace e := x_iff c12 e
      refine r_aload_n DX2_seek_16 (i := 0) rfl rfl ?_
      refine r_iconst DX2_seek_17 (v := 1) (by decide) ?_
      refine r_put (ty := .boolean) DX2_seek_18 F_X2_29 Fp_2_5 e_15 (by decide) (by decide) (Nat.le_of_ble_eq_true rfl) p_15_5 ?_
      refine r_aload_n DX2_seek_21 (i := 0) rfl rfl ?_
      refine r_iload_n DX2_seek_22 (i := 2) rfl rfl ?_
      refine r_put (ty := .int) DX2_seek_23 F_X2_26 Fp_2_4 e_15 rfl rfl (Nat.le_of_ble_eq_true rfl) p_15_4 ?_
      refine r_bipush DX2_seek_26 (v := 32) (by decide) ?_
      refine r_aload_n DX2_seek_28 (i := 1) rfl rfl ?_
      obtain ⟨q29, e29, e⟩ := x_bnd e
      refine r_callV1 (As := []) (S := [.int 32]) DX2_seek_29 C_X2_33 (ci := 1) rfl rfl e_1 (by decide) (by decide) (Nat.le_of_ble_eq_true rfl) (t_X1_all (sI (sI a 16 1) 15 v2) e29) rfl ?_
      refine r_iconst DX2_seek_32 (v := 1) (by decide) ?_
      refine r_iadd DX2_seek_33 ?_
      refine r_mmin DX2_seek_34 C_X2_39 (by decide) (Nat.le_of_ble_eq_true rfl) ?_
      refine r_istore_n (L' := [some (.ref (xa g 15)), some (.ref (xa g 1)), some (.int v2), some (.int (xmin 32 (q29 + 1))), none, none, none]) DX2_seek_37 (i := 3) rfl (by decide) rfl rfl ?_
      refine r_iload_n DX2_seek_38 (i := 3) rfl rfl ?_
      refine r_iload_n DX2_seek_39 (i := 2) rfl rfl ?_
      obtain ⟨q40, e40, e⟩ := x_bnd e
      refine r_callS1 (As := [.int (xmin 32 (q29 + 1)), .int v2]) (S := []) DX2_seek_40 C_X2_45 (by decide) (by decide) (Nat.le_of_ble_eq_true rfl) (t_X2_marksWith N (xmin 32 (q29 + 1)) v2 e40) rfl ?_
      refine r_lstore (L' := [some (.ref (xa g 15)), some (.ref (xa g 1)), some (.int v2), some (.int (xmin 32 (q29 + 1))), some (.long q40), none, none]) DX2_seek_43 (by decide) rfl rfl ?_
      refine r_aload_n DX2_seek_45 (i := 0) rfl rfl ?_
      refine r_get (v := .ref (xa g 18)) DX2_seek_46 F_X2_19 e_15 rfl ?_
      refine r_iload_n DX2_seek_49 (i := 3) rfl rfl ?_
      refine r_iconst DX2_seek_50 (v := 0) (by decide) ?_
      obtain ⟨c51, e⟩ := x_grd e
      refine r_iast (f := (gA a 18)) DX2_seek_51 e_18 rfl c51 p_18 ?_
      refine r_iload_n DX2_seek_52 (i := 3) rfl rfl ?_
      refine r_iconst DX2_seek_53 (v := 1) (by decide) ?_
      refine r_isub DX2_seek_54 ?_
      refine r_istore (L' := [some (.ref (xa g 15)), some (.ref (xa g 1)), some (.int v2), some (.int (xmin 32 (q29 + 1))), some (.long q40), none, some (.int ((xmin 32 (q29 + 1)) - 1))]) DX2_seek_55 (by decide) rfl rfl ?_
      obtain ⟨q57, e57, e⟩ := x_bnd e
      refine r_mask (L' := [some (.ref (xa g 15)), some (.ref (xa g 1)), none, some (.int (xmin 32 (q29 + 1))), some (.long q40), none, some (.int ((xmin 32 (q29 + 1)) - 1))]) [true, true, false, true, true, false, true] rfl ?_
      refine lp_X2_seek_L57 N (xmin 32 (q29 + 1)) q40 N ((xmin 32 (q29 + 1)) - 1) (sA (sI (sI a 16 1) 15 v2) 18 (upd (gA a 18) (Int32.toNatClampNeg (xmin 32 (q29 + 1))) 0)) q57 e57 ?_
      refine r_aload_n DX2_seek_151 (i := 0) rfl rfl ?_
      refine r_aload_n DX2_seek_152 (i := 0) rfl rfl ?_
      refine r_get (v := .ref (xa g 18)) DX2_seek_153 F_X2_19 e_15 rfl ?_
      refine r_iconst DX2_seek_156 (v := 0) (by decide) ?_
      obtain ⟨c157, e⟩ := x_grd e
      refine r_iald (f := (gA q57 18)) DX2_seek_157 e_18 rfl c157 ?_
      refine r_put (ty := .int) DX2_seek_158 F_X2_22 Fp_2_3 e_15 rfl rfl (Nat.le_of_ble_eq_true rfl) p_15_3 ?_
      refine r_aload_n DX2_seek_161 (i := 0) rfl rfl ?_
      refine r_lload DX2_seek_162 rfl ?_
      refine r_aload_n DX2_seek_164 (i := 0) rfl rfl ?_
      refine r_get (v := .int ((gA q57 18) (Int32.toNatClampNeg 0))) DX2_seek_165 F_X2_22 e_15 rfl ?_
      refine r_iconst DX2_seek_168 (v := 0) (by decide) ?_
      refine r_iconst DX2_seek_169 (v := 0) (by decide) ?_
      obtain ⟨q170, e170, e⟩ := x_bnd e
      refine r_callV1 (As := [.long q40, .int ((gA q57 18) (Int32.toNatClampNeg 0)), .int 0, .int 0]) (S := []) DX2_seek_170 C_X2_53 (ci := 2) rfl rfl e_15 (by decide) (by decide) (Nat.le_of_ble_eq_true rfl) (t_X2_canPick 40 N q40 ((gA q57 18) (Int32.toNatClampNeg 0)) 0 0 (sI q57 14 ((gA q57 18) (Int32.toNatClampNeg 0))) e170) rfl ?_
      refine r_pop DX2_seek_173 rfl ?_
      obtain rfl := Option.some.inj e
      exact r_vret DX2_seek_174 rfl rfl
    · replace e := x_ift c12 e
      obtain rfl := Option.some.inj e
      exact r_vret DX2_seek_15 rfl rfl
