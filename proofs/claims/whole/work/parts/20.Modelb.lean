set_option maxRecDepth 100000 in
set_option maxHeartbeats 4000000 in
theorem t_X8_isOf {l : Launch} {g : xG} {a : xT} (v1 : Int32) (v2 : Int32) (b : xT)  {r : Int32} (e : f_X8_isOf v1 v2 b = some r) : Ev l g 2 yX8_isOf M_X8_isOf [.ref (xa g 44), .int v1, .int v2] (a, b) (some (.int r), (a, b)) := by
  unfold f_X8_isOf at e
  refine Ev.of 0 (L0 := [some (.ref (xa g 44)), some (.int v1), some (.int v2)]) (by decide) rfl (Nat.le_of_ble_eq_true rfl) rfl ?_
  refine r_iload_n DX8_isOf_0 (i := 1) rfl rfl ?_
  obtain ⟨q1, e1, e⟩ := x_bnd e
  refine r_callS1 (As := [.int v1]) (S := []) DX8_isOf_1 C_X8_76 (by decide) (by decide) (Nat.le_of_ble_eq_true rfl) (t_X8_isList v1 e1) rfl ?_
  refine r_if_eq DX8_isOf_4 (tgt := 29) (by decide) (fun c4 => ?_) (fun c4 => ?_)
  · replace e := x_ift c4 e
    refine r_iconst DX8_isOf_29 (v := 0) (by decide) ?_
    obtain rfl := Option.some.inj e
    exact r_zret DX8_isOf_30 rfl (by decide) rfl
  · replace e := x_iff c4 e
    refine r_iload_n DX8_isOf_7 (i := 2) rfl rfl ?_
    refine r_i2l DX8_isOf_8 ?_
    refine r_lconst DX8_isOf_9 (v := 0) (by decide) ?_
    refine r_aload_n DX8_isOf_10 (i := 0) rfl rfl ?_
    refine r_get (v := .ref (xa g 45)) DX8_isOf_11 F_X8_16 e_44 rfl ?_
    refine r_iload_n DX8_isOf_14 (i := 1) rfl rfl ?_
    obtain ⟨c15, e⟩ := x_grd e
    refine r_iald (f := (gA b 45)) DX8_isOf_15 e_45 rfl c15 ?_
    refine r_iconst DX8_isOf_16 (v := 1) (by decide) ?_
    refine r_isub DX8_isOf_17 ?_
    refine r_i2l DX8_isOf_18 ?_
    obtain ⟨q19, e19, e⟩ := x_bnd e
    refine r_callS1 (As := [.long (Int32.toInt64 v2), .long 0, .long (Int32.toInt64 (((gA b 45) (Int32.toNatClampNeg v1)) - 1))]) (S := []) DX8_isOf_19 C_X8_70 (by decide) (by decide) (Nat.le_of_ble_eq_true rfl) (t_X8_in (Int32.toInt64 v2) 0 (Int32.toInt64 (((gA b 45) (Int32.toNatClampNeg v1)) - 1)) e19) rfl ?_
    refine r_if_eq DX8_isOf_22 (tgt := 29) (by decide) (fun c22 => ?_) (fun c22 => ?_)
    · replace e := x_ift c22 e
      refine r_iconst DX8_isOf_29 (v := 0) (by decide) ?_
      obtain rfl := Option.some.inj e
      exact r_zret DX8_isOf_30 rfl (by decide) rfl
    · replace e := x_iff c22 e
      refine r_iconst DX8_isOf_25 (v := 1) (by decide) ?_
      refine r_goto DX8_isOf_26 (tgt := 30) (by decide) ?_
      obtain rfl := Option.some.inj e
      exact r_zret DX8_isOf_30 rfl (by decide) rfl

set_option maxRecDepth 100000 in
set_option maxHeartbeats 4000000 in
theorem t_X8_chance {l : Launch} {g : xG} {a : xT} (N : Nat) (v1 : Int32) (v2 : Int32) (b : xT)  {r : Int64} (e : f_X8_chance N v1 v2 b = some r) : Ev l g 3 yX8_chance M_X8_chance [.ref (xa g 44), .int v1, .int v2] (a, b) (some (.long r), (a, b)) := by
  unfold f_X8_chance at e
  refine Ev.of 0 (L0 := [some (.ref (xa g 44)), some (.int v1), some (.int v2)]) (by decide) rfl (Nat.le_of_ble_eq_true rfl) rfl ?_
  refine r_aload_n DX8_chance_0 (i := 0) rfl rfl ?_
  refine r_iload_n DX8_chance_1 (i := 1) rfl rfl ?_
  refine r_iload_n DX8_chance_2 (i := 2) rfl rfl ?_
  obtain ⟨q3, e3, e⟩ := x_bnd e
  refine r_callV1 (As := [.int v1, .int v2]) (S := []) DX8_chance_3 C_X8_148 (ci := 8) rfl rfl e_44 (by decide) (by decide) (Nat.le_of_ble_eq_true rfl) (t_X8_isOf v1 v2 b e3) rfl ?_
  refine r_if_eq DX8_chance_6 (tgt := 22) (by decide) (fun c6 => ?_) (fun c6 => ?_)
  · replace e := x_ift c6 e
    refine r_ldc2 DX8_chance_22 K_X8_281 ?_
    obtain rfl := Option.some.inj e
    exact r_lret DX8_chance_25 rfl rfl
  · replace e := x_iff c6 e
    refine r_aload_n DX8_chance_9 (i := 0) rfl rfl ?_
    refine r_aload_n DX8_chance_10 (i := 0) rfl rfl ?_
    refine r_iload_n DX8_chance_11 (i := 1) rfl rfl ?_
    refine r_iload_n DX8_chance_12 (i := 2) rfl rfl ?_
    obtain ⟨q13, e13, e⟩ := x_bnd e
    refine r_callV1 (As := [.int v1, .int v2]) (S := [.ref (xa g 44)]) DX8_chance_13 C_X8_138 (ci := 8) rfl rfl e_44 (by decide) (by decide) (Nat.le_of_ble_eq_true rfl) (t_X8_at v1 v2 b e13) rfl ?_
    obtain ⟨q16, e16, e⟩ := x_bnd e
    refine r_callV1 (As := [.int q13]) (S := []) DX8_chance_16 C_X8_277 (ci := 8) rfl rfl e_44 (by decide) (by decide) (Nat.le_of_ble_eq_true rfl) (t_X8_chanceOf N q13 b e16) rfl ?_
    refine r_goto DX8_chance_19 (tgt := 25) (by decide) ?_
    obtain rfl := Option.some.inj e
    exact r_lret DX8_chance_25 rfl rfl

set_option maxRecDepth 100000 in
set_option maxHeartbeats 4000000 in
theorem t_X8_clear {l : Launch} {g : xG} {a : xT} (v1 : Int32) (b : xT)  {r : (Int32 × xT)} (e : f_X8_clear v1 b = some r) : Ev l g 2 yX8_clear M_X8_clear [.ref (xa g 44), .int v1] (a, b) (some (.int r.1), (a, r.2)) := by
  unfold f_X8_clear at e
  refine Ev.of 1 (L0 := [some (.ref (xa g 44)), some (.int v1), none]) (by decide) rfl (Nat.le_of_ble_eq_true rfl) rfl ?_
  refine r_iload_n DX8_clear_0 (i := 1) rfl rfl ?_
  obtain ⟨q1, e1, e⟩ := x_bnd e
  refine r_callS1 (As := [.int v1]) (S := []) DX8_clear_1 C_X8_76 (by decide) (by decide) (Nat.le_of_ble_eq_true rfl) (t_X8_isList v1 e1) rfl ?_
  refine r_if_ne DX8_clear_4 (tgt := 11) (by decide) (fun c4 => ?_) (fun c4 => ?_)
  · replace e := x_iff c4 e
    refine r_aload_n DX8_clear_11 (i := 0) rfl rfl ?_
    refine r_get (v := .ref (xa g 45)) DX8_clear_12 F_X8_16 e_44 rfl ?_
    refine r_iload_n DX8_clear_15 (i := 1) rfl rfl ?_
    obtain ⟨c16, e⟩ := x_grd e
    refine r_iald (f := (gA b 45)) DX8_clear_16 e_45 rfl c16 ?_
    refine r_istore_n (L' := [some (.ref (xa g 44)), some (.int v1), some (.int ((gA b 45) (Int32.toNatClampNeg v1)))]) DX8_clear_17 (i := 2) rfl (by decide) rfl rfl ?_
    refine r_aload_n DX8_clear_18 (i := 0) rfl rfl ?_
    refine r_get (v := .ref (xa g 45)) DX8_clear_19 F_X8_16 e_44 rfl ?_
    refine r_iload_n DX8_clear_22 (i := 1) rfl rfl ?_
    refine r_iconst DX8_clear_23 (v := 0) (by decide) ?_
    obtain ⟨c24, e⟩ := x_grd e
    refine r_iast (f := (gA b 45)) DX8_clear_24 e_45 rfl c24 p_45 ?_
    refine r_iload_n DX8_clear_25 (i := 2) rfl rfl ?_
    obtain rfl := Option.some.inj e
    exact r_iret DX8_clear_26 rfl rfl
  · replace e := x_ift c4 e
    refine r_sipush DX8_clear_7 (v := (-1001)) (by decide) ?_
    obtain rfl := Option.some.inj e
    exact r_iret DX8_clear_10 rfl rfl

set_option maxRecDepth 100000 in
set_option maxHeartbeats 4000000 in
theorem t_X8_code {l : Launch} {g : xG} {s : xS} (v0 : Int32) (v1 : Int32) (v2 : Int32) (v3 : Int32) (v4 : Int32)  {r : Int64} (e : f_X8_code v0 v1 v2 v3 v4 = some r) : Ev l g 0 yX8_code M_X8_code [.int v0, .int v1, .int v2, .int v3, .int v4] s (some (.long r), s) := by
  unfold f_X8_code at e
  refine Ev.of 2 (L0 := [some (.int v0), some (.int v1), some (.int v2), some (.int v3), some (.int v4), none, none]) (by decide) rfl (Nat.le_of_ble_eq_true rfl) rfl ?_
  refine r_ldc2 DX8_code_0 K_X8_208 ?_
  refine r_iload_n DX8_code_3 (i := 0) rfl rfl ?_
  refine r_i2l DX8_code_4 ?_
  refine r_ldc2 DX8_code_5 K_X8_210 ?_
  refine r_lsub DX8_code_8 ?_
  refine r_lmul DX8_code_9 ?_
  refine r_iload_n DX8_code_10 (i := 1) rfl rfl ?_
  refine r_i2l DX8_code_11 ?_
  refine r_ladd DX8_code_12 ?_
  refine r_ldc2 DX8_code_13 K_X8_210 ?_
  refine r_lsub DX8_code_16 ?_
  obtain ⟨w17, e17, e⟩ := x_bnd e
  refine r_lstoreB (L' := [some (.int v0), some (.int v1), some (.int v2), some (.int v3), some (.int v4), some (.long w17), none]) (w := w17) DX8_code_17 (Option.some.inj e17) (by decide) rfl rfl ?_
  refine r_iload_n DX8_code_19 (i := 2) rfl rfl ?_
  refine r_if_ne DX8_code_20 (tgt := 28) (by decide) (fun c20 => ?_) (fun c20 => ?_)
  · replace e := x_iff c20 e
    refine r_ldc2 DX8_code_28 K_X8_208 ?_
    refine r_lload DX8_code_31 rfl ?_
    refine r_lmul DX8_code_33 ?_
    refine r_iload_n DX8_code_34 (i := 2) rfl rfl ?_
    refine r_i2l DX8_code_35 ?_
    refine r_ladd DX8_code_36 ?_
    refine r_ldc2 DX8_code_37 K_X8_210 ?_
    refine r_lsub DX8_code_40 ?_
    refine r_lstore (L' := [some (.int v0), some (.int v1), some (.int v2), some (.int v3), some (.int v4), some (.long (((27 * w17) + (Int32.toInt64 v2)) - 96)), none]) DX8_code_41 (by decide) rfl rfl ?_
    refine r_iload_n DX8_code_43 (i := 3) rfl rfl ?_
    refine r_if_ne DX8_code_44 (tgt := 52) (by decide) (fun c44 => ?_) (fun c44 => ?_)
    · replace e := x_iff c44 e
      refine r_ldc2 DX8_code_52 K_X8_208 ?_
      refine r_lload DX8_code_55 rfl ?_
      refine r_lmul DX8_code_57 ?_
      refine r_iload_n DX8_code_58 (i := 3) rfl rfl ?_
      refine r_i2l DX8_code_59 ?_
      refine r_ladd DX8_code_60 ?_
      refine r_ldc2 DX8_code_61 K_X8_210 ?_
      refine r_lsub DX8_code_64 ?_
      obtain ⟨w65, e65, e⟩ := x_bnd e
      refine r_lstoreB (L' := [some (.int v0), some (.int v1), some (.int v2), some (.int v3), some (.int v4), some (.long w65), none]) (w := w65) DX8_code_65 (Option.some.inj e65) (by decide) rfl rfl ?_
      refine r_iload DX8_code_67 rfl ?_
      refine r_if_ne DX8_code_69 (tgt := 77) (by decide) (fun c69 => ?_) (fun c69 => ?_)
      · replace e := x_iff c69 e
        refine r_ldc2 DX8_code_77 K_X8_208 ?_
        refine r_lload DX8_code_80 rfl ?_
        refine r_lmul DX8_code_82 ?_
        refine r_iload DX8_code_83 rfl ?_
        refine r_i2l DX8_code_85 ?_
        refine r_ladd DX8_code_86 ?_
        refine r_ldc2 DX8_code_87 K_X8_210 ?_
        refine r_lsub DX8_code_90 ?_
        obtain rfl := Option.some.inj e
        exact r_lret DX8_code_91 rfl rfl
      · replace e := x_ift c69 e
        refine r_lload DX8_code_72 rfl ?_
        refine r_goto DX8_code_74 (tgt := 91) (by decide) ?_
        obtain rfl := Option.some.inj e
        exact r_lret DX8_code_91 rfl rfl
    · replace e := x_ift c44 e
      refine r_lload DX8_code_47 rfl ?_
      refine r_goto DX8_code_49 (tgt := 65) (by decide) ?_
      refine r_lstore (L' := [some (.int v0), some (.int v1), some (.int v2), some (.int v3), some (.int v4), some (.long (((27 * w17) + (Int32.toInt64 v2)) - 96)), none]) DX8_code_65 (by decide) rfl rfl ?_
      refine r_iload DX8_code_67 rfl ?_
      refine r_if_ne DX8_code_69 (tgt := 77) (by decide) (fun c69 => ?_) (fun c69 => ?_)
      · replace e := x_iff c69 e
        refine r_ldc2 DX8_code_77 K_X8_208 ?_
        refine r_lload DX8_code_80 rfl ?_
        refine r_lmul DX8_code_82 ?_
        refine r_iload DX8_code_83 rfl ?_
        refine r_i2l DX8_code_85 ?_
        refine r_ladd DX8_code_86 ?_
        refine r_ldc2 DX8_code_87 K_X8_210 ?_
        refine r_lsub DX8_code_90 ?_
        obtain rfl := Option.some.inj e
        exact r_lret DX8_code_91 rfl rfl
      · replace e := x_ift c69 e
        refine r_lload DX8_code_72 rfl ?_
        refine r_goto DX8_code_74 (tgt := 91) (by decide) ?_
        obtain rfl := Option.some.inj e
        exact r_lret DX8_code_91 rfl rfl
  · replace e := x_ift c20 e
    refine r_lload DX8_code_23 rfl ?_
    refine r_goto DX8_code_25 (tgt := 41) (by decide) ?_
    refine r_lstore (L' := [some (.int v0), some (.int v1), some (.int v2), some (.int v3), some (.int v4), some (.long w17), none]) DX8_code_41 (by decide) rfl rfl ?_
    refine r_iload_n DX8_code_43 (i := 3) rfl rfl ?_
    refine r_if_ne DX8_code_44 (tgt := 52) (by decide) (fun c44 => ?_) (fun c44 => ?_)
    · replace e := x_iff c44 e
      refine r_ldc2 DX8_code_52 K_X8_208 ?_
      refine r_lload DX8_code_55 rfl ?_
      refine r_lmul DX8_code_57 ?_
      refine r_iload_n DX8_code_58 (i := 3) rfl rfl ?_
      refine r_i2l DX8_code_59 ?_
      refine r_ladd DX8_code_60 ?_
      refine r_ldc2 DX8_code_61 K_X8_210 ?_
      refine r_lsub DX8_code_64 ?_
      refine r_lstore (L' := [some (.int v0), some (.int v1), some (.int v2), some (.int v3), some (.int v4), some (.long (((27 * w17) + (Int32.toInt64 v3)) - 96)), none]) DX8_code_65 (by decide) rfl rfl ?_
      refine r_iload DX8_code_67 rfl ?_
      refine r_if_ne DX8_code_69 (tgt := 77) (by decide) (fun c69 => ?_) (fun c69 => ?_)
      · replace e := x_iff c69 e
        refine r_ldc2 DX8_code_77 K_X8_208 ?_
        refine r_lload DX8_code_80 rfl ?_
        refine r_lmul DX8_code_82 ?_
        refine r_iload DX8_code_83 rfl ?_
        refine r_i2l DX8_code_85 ?_
        refine r_ladd DX8_code_86 ?_
        refine r_ldc2 DX8_code_87 K_X8_210 ?_
        refine r_lsub DX8_code_90 ?_
        obtain rfl := Option.some.inj e
        exact r_lret DX8_code_91 rfl rfl
      · replace e := x_ift c69 e
        refine r_lload DX8_code_72 rfl ?_
        refine r_goto DX8_code_74 (tgt := 91) (by decide) ?_
        obtain rfl := Option.some.inj e
        exact r_lret DX8_code_91 rfl rfl
    · replace e := x_ift c44 e
      refine r_lload DX8_code_47 rfl ?_
      refine r_goto DX8_code_49 (tgt := 65) (by decide) ?_
      refine r_lstore (L' := [some (.int v0), some (.int v1), some (.int v2), some (.int v3), some (.int v4), some (.long w17), none]) DX8_code_65 (by decide) rfl rfl ?_
      refine r_iload DX8_code_67 rfl ?_
      refine r_if_ne DX8_code_69 (tgt := 77) (by decide) (fun c69 => ?_) (fun c69 => ?_)
      · replace e := x_iff c69 e
        refine r_ldc2 DX8_code_77 K_X8_208 ?_
        refine r_lload DX8_code_80 rfl ?_
        refine r_lmul DX8_code_82 ?_
        refine r_iload DX8_code_83 rfl ?_
        refine r_i2l DX8_code_85 ?_
        refine r_ladd DX8_code_86 ?_
        refine r_ldc2 DX8_code_87 K_X8_210 ?_
        refine r_lsub DX8_code_90 ?_
        obtain rfl := Option.some.inj e
        exact r_lret DX8_code_91 rfl rfl
      · replace e := x_ift c69 e
        refine r_lload DX8_code_72 rfl ?_
        refine r_goto DX8_code_74 (tgt := 91) (by decide) ?_
        obtain rfl := Option.some.inj e
        exact r_lret DX8_code_91 rfl rfl

set_option maxRecDepth 100000 in
set_option maxHeartbeats 4000000 in
theorem lp_X8_come_L2 {l : Launch} {g : xG} {a : xT} {R : Option Value × xS} (v1 : Int32) (b : xT) : ∀ (n : Nat) (v2 : Int32) (r : ((Unit) ⊕ (Unit))), f_X8_come_L2 v1 b n v2 = some r → (∀ z, r = (.inl z) → Rx l g 0 M_X8_come 27 [some (.ref (xa g 44)), some (.int v1), none] [] (a, b) R) → (∀ z, r = (.inr (z)) → Rx l g 0 M_X8_come 20 [none, none, none] [] (a, b) R) → Rx l g 0 M_X8_come 2 [some (.ref (xa g 44)), some (.int v1), some (.int v2)] [] (a, b) R := by
  intro n
  induction n with
  | zero => intro v2_ r_ e; cases e
  | succ n ih =>
    intro v2 r e K0 K1
    rw [f_X8_come_L2] at e
    refine r_iload_n DX8_come_2 (i := 2) rfl rfl ?_
    refine r_aload_n DX8_come_3 (i := 0) rfl rfl ?_
    refine r_get (v := .int (gI b 11)) DX8_come_4 F_X8_170 e_44 rfl ?_
    refine r_icmp_ge DX8_come_7 (tgt := 27) (by decide) (fun c7 => ?_) (fun c7 => ?_)
    · replace e := x_ift c7 e
      obtain rfl := Option.some.inj e
      refine r_mask (L' := [some (.ref (xa g 44)), some (.int v1), none]) [true, true, false] rfl ?_
      exact K0 _ rfl
    · replace e := x_iff c7 e
      refine r_aload_n DX8_come_10 (i := 0) rfl rfl ?_
      refine r_get (v := .ref (xa g 51)) DX8_come_11 F_X8_35 e_44 rfl ?_
      refine r_iload_n DX8_come_14 (i := 2) rfl rfl ?_
      obtain ⟨c15, e⟩ := x_grd e
      refine r_iald (f := (gA b 51)) DX8_come_15 e_51 rfl c15 ?_
      refine r_iload_n DX8_come_16 (i := 1) rfl rfl ?_
      refine r_icmp_ne DX8_come_17 (tgt := 21) (by decide) (fun c17 => ?_) (fun c17 => ?_)
      · replace e := x_iff c17 e
        refine r_iinc (L' := [some (.ref (xa g 44)), some (.int v1), some (.int (v2 + 1))]) DX8_come_21 (x := v2) (v := (v2 + 1)) rfl rfl (by decide) rfl rfl ?_
        refine r_goto DX8_come_24 (tgt := 2) (by decide) ?_
        exact ih _ _ e K0 K1
      · replace e := x_ift c17 e
        obtain rfl := Option.some.inj e
        refine r_mask (L' := [none, none, none]) [false, false, false] rfl ?_
        exact K1 _ rfl

set_option maxRecDepth 100000 in
set_option maxHeartbeats 4000000 in
theorem t_X8_come {l : Launch} {g : xG} {a : xT} (N : Nat) (v1 : Int32) (b : xT)  {r : xT} (e : f_X8_come N v1 b = some r) : Ev l g 0 yX8_come M_X8_come [.ref (xa g 44), .int v1] (a, b) (none, (a, r)) := by
  unfold f_X8_come at e
  refine Ev.of 1 (L0 := [some (.ref (xa g 44)), some (.int v1), none]) (by decide) rfl (Nat.le_of_ble_eq_true rfl) rfl ?_
  refine r_iconst DX8_come_0 (v := 0) (by decide) ?_
  refine r_istore_n (L' := [some (.ref (xa g 44)), some (.int v1), some (.int 0)]) DX8_come_1 (i := 2) rfl (by decide) rfl rfl ?_
  obtain ⟨q2, e2, e⟩ := x_bnd e
  refine lp_X8_come_L2 v1 b N 0 q2 e2 (fun z2_27 w2 => ?_) (fun z2_20 w2 => ?_)
  · subst w2
    dsimp only [Sum.elim] at e
    refine r_aload_n DX8_come_27 (i := 0) rfl rfl ?_
    refine r_get (v := .ref (xa g 51)) DX8_come_28 F_X8_35 e_44 rfl ?_
    refine r_aload_n DX8_come_31 (i := 0) rfl rfl ?_
    refine r_get (v := .int (gI b 11)) DX8_come_32 F_X8_170 e_44 rfl ?_
    refine r_iload_n DX8_come_35 (i := 1) rfl rfl ?_
    obtain ⟨c36, e⟩ := x_grd e
    refine r_iast (f := (gA b 51)) DX8_come_36 e_51 rfl c36 p_51 ?_
    refine r_aload_n DX8_come_37 (i := 0) rfl rfl ?_
    refine r_dup DX8_come_38 rfl ?_
    refine r_get (v := .int (gI b 11)) DX8_come_39 F_X8_170 e_44 rfl ?_
    refine r_iconst DX8_come_42 (v := 1) (by decide) ?_
    refine r_iadd DX8_come_43 ?_
    refine r_put (ty := .int) DX8_come_44 F_X8_170 Fp_8_11 e_44 rfl rfl (Nat.le_of_ble_eq_true rfl) p_44_11 ?_
    obtain rfl := Option.some.inj e
    exact r_vret DX8_come_47 rfl rfl
  · subst w2
    dsimp only [Sum.elim] at e
    obtain rfl := Option.some.inj e
    exact r_vret DX8_come_20 rfl rfl

set_option maxRecDepth 100000 in
set_option maxHeartbeats 4000000 in
theorem lp_X8_common_L4 {l : Launch} {g : xG} {a : xT} {R : Option Value × xS} (v1 : Int32) (b : xT) : ∀ (n : Nat) (v2 : Int32) (v3 : Int32) (r : (Int32)), f_X8_common_L4 v1 b n v2 v3 = some r → Rx l g 1 M_X8_common 32 [none, none, some (.int r), none] [] (a, b) R → Rx l g 1 M_X8_common 4 [some (.ref (xa g 44)), some (.int v1), some (.int v2), some (.int v3)] [] (a, b) R := by
  intro n
  induction n with
  | zero => intro v2_ v3_ r_ e; cases e
  | succ n ih =>
    intro v2 v3 r e K0
    rw [f_X8_common_L4] at e
    refine r_iload_n DX8_common_4 (i := 3) rfl rfl ?_
    refine r_aload_n DX8_common_5 (i := 0) rfl rfl ?_
    refine r_get (v := .int (gI b 31)) DX8_common_6 F_X8_283 e_44 rfl ?_
    refine r_icmp_ge DX8_common_9 (tgt := 32) (by decide) (fun c9 => ?_) (fun c9 => ?_)
    · replace e := x_ift c9 e
      obtain rfl := Option.some.inj e
      refine r_mask (L' := [none, none, some (.int v2), none]) [false, false, true, false] rfl ?_
      exact K0
    · replace e := x_iff c9 e
      refine r_iload_n DX8_common_12 (i := 2) rfl rfl ?_
      refine r_aload_n DX8_common_13 (i := 0) rfl rfl ?_
      refine r_iload_n DX8_common_14 (i := 1) rfl rfl ?_
      refine r_aload_n DX8_common_15 (i := 0) rfl rfl ?_
      refine r_get (v := .ref (xa g 59)) DX8_common_16 F_X8_64 e_44 rfl ?_
      refine r_iload_n DX8_common_19 (i := 3) rfl rfl ?_
      obtain ⟨c20, e⟩ := x_grd e
      refine r_iald (f := (gA b 59)) DX8_common_20 e_59 rfl c20 ?_
      obtain ⟨q21, e21, e⟩ := x_bnd e
      refine r_callV1 (As := [.int v1, .int ((gA b 59) (Int32.toNatClampNeg v3))]) (S := [.int v2]) DX8_common_21 C_X8_138 (ci := 8) rfl rfl e_44 (by decide) (by decide) (Nat.le_of_ble_eq_true rfl) (t_X8_at v1 ((gA b 59) (Int32.toNatClampNeg v3)) b e21) rfl ?_
      refine r_iand DX8_common_24 ?_
      refine r_istore_n (L' := [some (.ref (xa g 44)), some (.int v1), some (.int (v2 &&& q21)), some (.int v3)]) DX8_common_25 (i := 2) rfl (by decide) rfl rfl ?_
      refine r_iinc (L' := [some (.ref (xa g 44)), some (.int v1), some (.int (v2 &&& q21)), some (.int (v3 + 1))]) DX8_common_26 (x := v3) (v := (v3 + 1)) rfl rfl (by decide) rfl rfl ?_
      refine r_goto DX8_common_29 (tgt := 4) (by decide) ?_
      exact ih _ _ _ e K0

set_option maxRecDepth 100000 in
set_option maxHeartbeats 4000000 in
theorem t_X8_common {l : Launch} {g : xG} {a : xT} (N : Nat) (v1 : Int32) (b : xT)  {r : Int32} (e : f_X8_common N v1 b = some r) : Ev l g 1 yX8_common M_X8_common [.ref (xa g 44), .int v1] (a, b) (some (.int r), (a, b)) := by
  unfold f_X8_common at e
  refine Ev.of 2 (L0 := [some (.ref (xa g 44)), some (.int v1), none, none]) (by decide) rfl (Nat.le_of_ble_eq_true rfl) rfl ?_
  refine r_iconst DX8_common_0 (v := (-1)) (by decide) ?_
  refine r_istore_n (L' := [some (.ref (xa g 44)), some (.int v1), some (.int (-1)), none]) DX8_common_1 (i := 2) rfl (by decide) rfl rfl ?_
  refine r_iconst DX8_common_2 (v := 0) (by decide) ?_
  refine r_istore_n (L' := [some (.ref (xa g 44)), some (.int v1), some (.int (-1)), some (.int 0)]) DX8_common_3 (i := 3) rfl (by decide) rfl rfl ?_
  obtain ⟨q4, e4, e⟩ := x_bnd e
  refine lp_X8_common_L4 v1 b N (-1) 0 q4 e4 ?_
  refine r_iload_n DX8_common_32 (i := 2) rfl rfl ?_
  obtain rfl := Option.some.inj e
  exact r_iret DX8_common_33 rfl rfl

set_option maxRecDepth 100000 in
set_option maxHeartbeats 4000000 in
theorem lp_X8_count_L4 {l : Launch} {g : xG} {a : xT} {R : Option Value × xS} (v1 : Int32) (b : xT) : ∀ (n : Nat) (v2 : Int32) (v3 : Int32) (r : (Int32)), f_X8_count_L4 v1 b n v2 v3 = some r → Rx l g 0 M_X8_count 25 [some (.ref (xa g 44)), some (.int v1), some (.int r), none, none] [] (a, b) R → Rx l g 0 M_X8_count 4 [some (.ref (xa g 44)), some (.int v1), some (.int v2), some (.int v3), none] [] (a, b) R := by
  intro n
  induction n with
  | zero => intro v2_ v3_ r_ e; cases e
  | succ n ih =>
    intro v2 v3 r e K0
    rw [f_X8_count_L4] at e
    refine r_iload_n DX8_count_4 (i := 3) rfl rfl ?_
    refine r_bipush DX8_count_5 (v := 6) (by decide) ?_
    refine r_icmp_ge DX8_count_7 (tgt := 25) (by decide) (fun c7 => ?_) (fun c7 => ?_)
    · replace e := x_ift c7 e
      obtain rfl := Option.some.inj e
      refine r_mask (L' := [some (.ref (xa g 44)), some (.int v1), some (.int v2), none, none]) [true, true, true, false, false] rfl ?_
      exact K0
    · replace e := x_iff c7 e
      refine r_iload_n DX8_count_10 (i := 2) rfl rfl ?_
      refine r_aload_n DX8_count_11 (i := 0) rfl rfl ?_
      refine r_get (v := .ref (xa g 45)) DX8_count_12 F_X8_16 e_44 rfl ?_
      refine r_iload_n DX8_count_15 (i := 3) rfl rfl ?_
      obtain ⟨c16, e⟩ := x_grd e
      refine r_iald (f := (gA b 45)) DX8_count_16 e_45 rfl c16 ?_
      refine r_iadd DX8_count_17 ?_
      refine r_istore_n (L' := [some (.ref (xa g 44)), some (.int v1), some (.int (v2 + ((gA b 45) (Int32.toNatClampNeg v3)))), some (.int v3), none]) DX8_count_18 (i := 2) rfl (by decide) rfl rfl ?_
      refine r_iinc (L' := [some (.ref (xa g 44)), some (.int v1), some (.int (v2 + ((gA b 45) (Int32.toNatClampNeg v3)))), some (.int (v3 + 1)), none]) DX8_count_19 (x := v3) (v := (v3 + 1)) rfl rfl (by decide) rfl rfl ?_
      refine r_goto DX8_count_22 (tgt := 4) (by decide) ?_
      exact ih _ _ _ e K0

set_option maxRecDepth 100000 in
set_option maxHeartbeats 4000000 in
theorem lp_X8_count_L30 {l : Launch} {g : xG} {a : xT} {R : Option Value × xS} (v1 : Int32) (v2 : Int32) (b : xT) : ∀ (n : Nat) (v3 : Int32) (v4 : Int32) (r : (Int32)), f_X8_count_L30 v1 v2 b n v3 v4 = some r → Rx l g 0 M_X8_count 61 [some (.ref (xa g 44)), some (.int v1), some (.int v2), some (.int r), none] [] (a, b) R → Rx l g 0 M_X8_count 30 [some (.ref (xa g 44)), some (.int v1), some (.int v2), some (.int v3), some (.int v4)] [] (a, b) R := by
  intro n
  induction n with
  | zero => intro v3_ v4_ r_ e; cases e
  | succ n ih =>
    intro v3 v4 r e K0
    rw [f_X8_count_L30] at e
    refine r_iload DX8_count_30 rfl ?_
    refine r_bipush DX8_count_32 (v := 12) (by decide) ?_
    refine r_icmp_ge DX8_count_34 (tgt := 61) (by decide) (fun c34 => ?_) (fun c34 => ?_)
    · replace e := x_ift c34 e
      obtain rfl := Option.some.inj e
      refine r_mask (L' := [some (.ref (xa g 44)), some (.int v1), some (.int v2), some (.int v3), none]) [true, true, true, true, false] rfl ?_
      exact K0
    · replace e := x_iff c34 e
      refine r_iload_n DX8_count_37 (i := 3) rfl rfl ?_
      refine r_aload_n DX8_count_38 (i := 0) rfl rfl ?_
      refine r_get (v := .ref (xa g 57)) DX8_count_39 F_X8_57 e_44 rfl ?_
      refine r_iload DX8_count_42 rfl ?_
      obtain ⟨c44, e⟩ := x_grd e
      refine r_iald (f := (gA b 57)) DX8_count_44 e_57 rfl c44 ?_
      refine r_if_lt DX8_count_45 (tgt := 52) (by decide) (fun c45 => ?_) (fun c45 => ?_)
      · replace e := x_ift c45 e
        refine r_iconst DX8_count_52 (v := 0) (by decide) ?_
        refine r_iadd DX8_count_53 ?_
        refine r_istore_n (L' := [some (.ref (xa g 44)), some (.int v1), some (.int v2), some (.int (v3 + 0)), some (.int v4)]) DX8_count_54 (i := 3) rfl (by decide) rfl rfl ?_
        refine r_iinc (L' := [some (.ref (xa g 44)), some (.int v1), some (.int v2), some (.int (v3 + 0)), some (.int (v4 + 1))]) DX8_count_55 (x := v4) (v := (v4 + 1)) rfl rfl (by decide) rfl rfl ?_
        refine r_goto DX8_count_58 (tgt := 30) (by decide) ?_
        exact ih _ _ _ e K0
      · replace e := x_iff c45 e
        refine r_iconst DX8_count_48 (v := 1) (by decide) ?_
        refine r_goto DX8_count_49 (tgt := 53) (by decide) ?_
        refine r_iadd DX8_count_53 ?_
        refine r_istore_n (L' := [some (.ref (xa g 44)), some (.int v1), some (.int v2), some (.int (v3 + 1)), some (.int v4)]) DX8_count_54 (i := 3) rfl (by decide) rfl rfl ?_
        refine r_iinc (L' := [some (.ref (xa g 44)), some (.int v1), some (.int v2), some (.int (v3 + 1)), some (.int (v4 + 1))]) DX8_count_55 (x := v4) (v := (v4 + 1)) rfl rfl (by decide) rfl rfl ?_
        refine r_goto DX8_count_58 (tgt := 30) (by decide) ?_
        exact ih _ _ _ e K0

set_option maxRecDepth 100000 in
set_option maxHeartbeats 4000000 in
theorem t_X8_count {l : Launch} {g : xG} {a : xT} (N : Nat) (v1 : Int32) (b : xT)  {r : Int32} (e : f_X8_count N v1 b = some r) : Ev l g 0 yX8_count M_X8_count [.ref (xa g 44), .int v1] (a, b) (some (.int r), (a, b)) := by
  unfold f_X8_count at e
  refine Ev.of 3 (L0 := [some (.ref (xa g 44)), some (.int v1), none, none, none]) (by decide) rfl (Nat.le_of_ble_eq_true rfl) rfl ?_
  refine r_iconst DX8_count_0 (v := 0) (by decide) ?_
  refine r_istore_n (L' := [some (.ref (xa g 44)), some (.int v1), some (.int 0), none, none]) DX8_count_1 (i := 2) rfl (by decide) rfl rfl ?_
  refine r_iconst DX8_count_2 (v := 0) (by decide) ?_
  refine r_istore_n (L' := [some (.ref (xa g 44)), some (.int v1), some (.int 0), some (.int 0), none]) DX8_count_3 (i := 3) rfl (by decide) rfl rfl ?_
  obtain ⟨q4, e4, e⟩ := x_bnd e
  refine lp_X8_count_L4 v1 b N 0 0 q4 e4 ?_
  refine r_iconst DX8_count_25 (v := 0) (by decide) ?_
  refine r_istore_n (L' := [some (.ref (xa g 44)), some (.int v1), some (.int q4), some (.int 0), none]) DX8_count_26 (i := 3) rfl (by decide) rfl rfl ?_
  refine r_iconst DX8_count_27 (v := 0) (by decide) ?_
  refine r_istore (L' := [some (.ref (xa g 44)), some (.int v1), some (.int q4), some (.int 0), some (.int 0)]) DX8_count_28 (by decide) rfl rfl ?_
  obtain ⟨q30, e30, e⟩ := x_bnd e
  refine lp_X8_count_L30 v1 q4 b N 0 0 q30 e30 ?_
  refine r_iload_n DX8_count_61 (i := 1) rfl rfl ?_
  by_cases c62_0 : v1 = 0
  · replace e := x_ift c62_0 e
    refine r_tsIn DX8_count_62 (tgt := 88) (by rw [c62_0]; decide) (by rw [c62_0]; decide) (by rw [c62_0]; rfl) (by decide) ?_
    refine r_iload_n DX8_count_88 (i := 2) rfl rfl ?_
    obtain rfl := Option.some.inj e
    exact r_iret DX8_count_89 rfl rfl
  replace e := x_iff c62_0 e
  by_cases c62_1 : v1 = 1
  · replace e := x_ift c62_1 e
    refine r_tsIn DX8_count_62 (tgt := 90) (by rw [c62_1]; decide) (by rw [c62_1]; decide) (by rw [c62_1]; rfl) (by decide) ?_
    refine r_aload_n DX8_count_90 (i := 0) rfl rfl ?_
    refine r_get (v := .int (gI b 14)) DX8_count_91 F_X8_181 e_44 rfl ?_
    obtain rfl := Option.some.inj e
    exact r_iret DX8_count_94 rfl rfl
  replace e := x_iff c62_1 e
  by_cases c62_2 : v1 = 2
  · replace e := x_ift c62_2 e
    refine r_tsIn DX8_count_62 (tgt := 95) (by rw [c62_2]; decide) (by rw [c62_2]; decide) (by rw [c62_2]; rfl) (by decide) ?_
    refine r_iload_n DX8_count_95 (i := 3) rfl rfl ?_
    obtain rfl := Option.some.inj e
    exact r_iret DX8_count_96 rfl rfl
  replace e := x_iff c62_2 e
  refine r_tsOut DX8_count_62 (tgt := 97) (x_out0_2 (x_ne c62_0) (x_ne c62_1) (x_ne c62_2)) (by decide) ?_
  refine r_sipush DX8_count_97 (v := (-1002)) (by decide) ?_
  obtain rfl := Option.some.inj e
  exact r_iret DX8_count_100 rfl rfl

set_option maxRecDepth 100000 in
set_option maxHeartbeats 4000000 in
theorem lp_X8_drop_L25 {l : Launch} {g : xG} {a : xT} {R : Option Value × xS} (v1 : Int32) : ∀ (n : Nat) (v3 : Int32) (b : xT) (r : (xT)), f_X8_drop_L25 v1 n v3 b = some r → Rx l g 3 M_X8_drop 65 [some (.ref (xa g 44)), some (.int v1), none, none] [] (a, r) R → Rx l g 3 M_X8_drop 25 [some (.ref (xa g 44)), some (.int v1), none, some (.int v3)] [] (a, b) R := by
  intro n
  induction n with
  | zero => intro v3_ s_ r_ e; cases e
  | succ n ih =>
    intro v3 b r e K0
    rw [f_X8_drop_L25] at e
    refine r_iload_n DX8_drop_25 (i := 3) rfl rfl ?_
    refine r_aload_n DX8_drop_26 (i := 0) rfl rfl ?_
    refine r_get (v := .ref (xa g 45)) DX8_drop_27 F_X8_16 e_44 rfl ?_
    refine r_iload_n DX8_drop_30 (i := 1) rfl rfl ?_
    obtain ⟨c31, e⟩ := x_grd e
    refine r_iald (f := (gA b 45)) DX8_drop_31 e_45 rfl c31 ?_
    refine r_icmp_ge DX8_drop_32 (tgt := 65) (by decide) (fun c32 => ?_) (fun c32 => ?_)
    · replace e := x_ift c32 e
      obtain rfl := Option.some.inj e
      refine r_mask (L' := [some (.ref (xa g 44)), some (.int v1), none, none]) [true, true, false, false] rfl ?_
      exact K0
    · replace e := x_iff c32 e
      refine r_aload_n DX8_drop_35 (i := 0) rfl rfl ?_
      refine r_get (v := .ref (xa g 46)) DX8_drop_36 F_X8_20 e_44 rfl ?_
      refine r_bipush DX8_drop_39 (v := 64) (by decide) ?_
      refine r_iload_n DX8_drop_41 (i := 1) rfl rfl ?_
      refine r_imul DX8_drop_42 ?_
      refine r_iload_n DX8_drop_43 (i := 3) rfl rfl ?_
      refine r_iadd DX8_drop_44 ?_
      refine r_aload_n DX8_drop_45 (i := 0) rfl rfl ?_
      refine r_get (v := .ref (xa g 46)) DX8_drop_46 F_X8_20 e_44 rfl ?_
      refine r_bipush DX8_drop_49 (v := 64) (by decide) ?_
      refine r_iload_n DX8_drop_51 (i := 1) rfl rfl ?_
      refine r_imul DX8_drop_52 ?_
      refine r_iload_n DX8_drop_53 (i := 3) rfl rfl ?_
      refine r_iadd DX8_drop_54 ?_
      refine r_iconst DX8_drop_55 (v := 1) (by decide) ?_
      refine r_iadd DX8_drop_56 ?_
      obtain ⟨c57, e⟩ := x_grd e
      refine r_iald (f := (gA b 46)) DX8_drop_57 e_46 rfl c57 ?_
      obtain ⟨c58, e⟩ := x_grd e
      refine r_iast (f := (gA b 46)) DX8_drop_58 e_46 rfl c58 p_46 ?_
      refine r_iinc (L' := [some (.ref (xa g 44)), some (.int v1), none, some (.int (v3 + 1))]) DX8_drop_59 (x := v3) (v := (v3 + 1)) rfl rfl (by decide) rfl rfl ?_
      refine r_goto DX8_drop_62 (tgt := 25) (by decide) ?_
      exact ih _ _ _ e K0

set_option maxRecDepth 100000 in
set_option maxHeartbeats 4000000 in
theorem t_X8_drop {l : Launch} {g : xG} {a : xT} (N : Nat) (v1 : Int32) (v2 : Int32) (b : xT)  {r : (Int32 × xT)} (e : f_X8_drop N v1 v2 b = some r) : Ev l g 3 yX8_drop M_X8_drop [.ref (xa g 44), .int v1, .int v2] (a, b) (some (.int r.1), (a, r.2)) := by
  unfold f_X8_drop at e
  refine Ev.of 1 (L0 := [some (.ref (xa g 44)), some (.int v1), some (.int v2), none]) (by decide) rfl (Nat.le_of_ble_eq_true rfl) rfl ?_
  refine r_aload_n DX8_drop_0 (i := 0) rfl rfl ?_
  refine r_iload_n DX8_drop_1 (i := 1) rfl rfl ?_
  refine r_iload_n DX8_drop_2 (i := 2) rfl rfl ?_
  obtain ⟨q3, e3, e⟩ := x_bnd e
  refine r_callV1 (As := [.int v1, .int v2]) (S := []) DX8_drop_3 C_X8_148 (ci := 8) rfl rfl e_44 (by decide) (by decide) (Nat.le_of_ble_eq_true rfl) (t_X8_isOf v1 v2 b e3) rfl ?_
  refine r_if_ne DX8_drop_6 (tgt := 13) (by decide) (fun c6 => ?_) (fun c6 => ?_)
  · replace e := x_iff c6 e
    refine r_aload_n DX8_drop_13 (i := 0) rfl rfl ?_
    refine r_get (v := .ref (xa g 45)) DX8_drop_14 F_X8_16 e_44 rfl ?_
    refine r_iload_n DX8_drop_17 (i := 1) rfl rfl ?_
    refine r_dup2 DX8_drop_18 rfl rfl ?_
    obtain ⟨c19, e⟩ := x_grd e
    refine r_iald (f := (gA b 45)) DX8_drop_19 e_45 rfl c19 ?_
    refine r_iconst DX8_drop_20 (v := 1) (by decide) ?_
    refine r_isub DX8_drop_21 ?_
    obtain ⟨c22, e⟩ := x_grd e
    refine r_iast (f := (gA b 45)) DX8_drop_22 e_45 rfl c22 p_45 ?_
    refine r_iload_n DX8_drop_23 (i := 2) rfl rfl ?_
    refine r_istore_n (L' := [some (.ref (xa g 44)), some (.int v1), some (.int v2), some (.int v2)]) DX8_drop_24 (i := 3) rfl (by decide) rfl rfl ?_
    obtain ⟨q25, e25, e⟩ := x_bnd e
    refine r_mask (L' := [some (.ref (xa g 44)), some (.int v1), none, some (.int v2)]) [true, true, false, true] rfl ?_
    refine lp_X8_drop_L25 v1 N v2 (sA b 45 (upd (gA b 45) (Int32.toNatClampNeg v1) (((gA b 45) (Int32.toNatClampNeg v1)) - 1))) q25 e25 ?_
    refine r_aload_n DX8_drop_65 (i := 0) rfl rfl ?_
    refine r_get (v := .ref (xa g 45)) DX8_drop_66 F_X8_16 e_44 rfl ?_
    refine r_iload_n DX8_drop_69 (i := 1) rfl rfl ?_
    obtain ⟨c70, e⟩ := x_grd e
    refine r_iald (f := (gA q25 45)) DX8_drop_70 e_45 rfl c70 ?_
    obtain rfl := Option.some.inj e
    exact r_iret DX8_drop_71 rfl rfl
  · replace e := x_ift c6 e
    refine r_sipush DX8_drop_9 (v := (-1001)) (by decide) ?_
    obtain rfl := Option.some.inj e
    exact r_iret DX8_drop_12 rfl rfl

set_option maxRecDepth 100000 in
set_option maxHeartbeats 4000000 in
theorem lp_X8_keep_L22 {l : Launch} {g : xG} {a : xT} {R : Option Value × xS} (v1 : Int32) : ∀ (n : Nat) (v2 : Int32) (b : xT) (r : (xT)), f_X8_keep_L22 v1 n v2 b = some r → Rx l g 1 M_X8_keep 47 [some (.ref (xa g 44)), none, none] [] (a, r) R → Rx l g 1 M_X8_keep 22 [some (.ref (xa g 44)), some (.int v1), some (.int v2)] [] (a, b) R := by
  intro n
  induction n with
  | zero => intro v2_ s_ r_ e; cases e
  | succ n ih =>
    intro v2 b r e K0
    rw [f_X8_keep_L22] at e
    refine r_iload_n DX8_keep_22 (i := 2) rfl rfl ?_
    refine r_aload_n DX8_keep_23 (i := 0) rfl rfl ?_
    refine r_get (v := .int (gI b 11)) DX8_keep_24 F_X8_170 e_44 rfl ?_
    refine r_icmp_ge DX8_keep_27 (tgt := 47) (by decide) (fun c27 => ?_) (fun c27 => ?_)
    · replace e := x_ift c27 e
      obtain rfl := Option.some.inj e
      refine r_mask (L' := [some (.ref (xa g 44)), none, none]) [true, false, false] rfl ?_
      exact K0
    · replace e := x_iff c27 e
      refine r_aload_n DX8_keep_30 (i := 0) rfl rfl ?_
      refine r_iload_n DX8_keep_31 (i := 1) rfl rfl ?_
      refine r_aload_n DX8_keep_32 (i := 0) rfl rfl ?_
      refine r_get (v := .ref (xa g 51)) DX8_keep_33 F_X8_35 e_44 rfl ?_
      refine r_iload_n DX8_keep_36 (i := 2) rfl rfl ?_
      obtain ⟨c37, e⟩ := x_grd e
      refine r_iald (f := (gA b 51)) DX8_keep_37 e_51 rfl c37 ?_
      obtain ⟨q38, e38, e⟩ := x_bnd e
      refine r_callV0 (As := [.int v1, .int ((gA b 51) (Int32.toNatClampNeg v2))]) (S := []) DX8_keep_38 C_X8_144 (ci := 8) rfl rfl e_44 (by decide) (by decide) (Nat.le_of_ble_eq_true rfl) (t_X8_put v1 ((gA b 51) (Int32.toNatClampNeg v2)) b e38) rfl ?_
      refine r_iinc (L' := [some (.ref (xa g 44)), some (.int v1), some (.int (v2 + 1))]) DX8_keep_41 (x := v2) (v := (v2 + 1)) rfl rfl (by decide) rfl rfl ?_
      refine r_goto DX8_keep_44 (tgt := 22) (by decide) ?_
      exact ih _ _ _ e K0

set_option maxRecDepth 100000 in
set_option maxHeartbeats 4000000 in
theorem t_X8_keep {l : Launch} {g : xG} {a : xT} (N : Nat) (v1 : Int32) (b : xT)  {r : (Int32 × xT)} (e : f_X8_keep N v1 b = some r) : Ev l g 1 yX8_keep M_X8_keep [.ref (xa g 44), .int v1] (a, b) (some (.int r.1), (a, r.2)) := by
  unfold f_X8_keep at e
  refine Ev.of 1 (L0 := [some (.ref (xa g 44)), some (.int v1), none]) (by decide) rfl (Nat.le_of_ble_eq_true rfl) rfl ?_
  refine r_aload_n DX8_keep_0 (i := 0) rfl rfl ?_
  refine r_get (v := .int (gI b 11)) DX8_keep_1 F_X8_170 e_44 rfl ?_
  refine r_bipush DX8_keep_4 (v := 64) (by decide) ?_
  refine r_icmp_le DX8_keep_6 (tgt := 13) (by decide) (fun c6 => ?_) (fun c6 => ?_)
  · replace e := x_ift c6 e
    refine r_aload_n DX8_keep_13 (i := 0) rfl rfl ?_
    refine r_get (v := .ref (xa g 45)) DX8_keep_14 F_X8_16 e_44 rfl ?_
    refine r_iload_n DX8_keep_17 (i := 1) rfl rfl ?_
    refine r_iconst DX8_keep_18 (v := 0) (by decide) ?_
    obtain ⟨c19, e⟩ := x_grd e
    refine r_iast (f := (gA b 45)) DX8_keep_19 e_45 rfl c19 p_45 ?_
    refine r_iconst DX8_keep_20 (v := 0) (by decide) ?_
    refine r_istore_n (L' := [some (.ref (xa g 44)), some (.int v1), some (.int 0)]) DX8_keep_21 (i := 2) rfl (by decide) rfl rfl ?_
    obtain ⟨q22, e22, e⟩ := x_bnd e
    refine lp_X8_keep_L22 v1 N 0 (sA b 45 (upd (gA b 45) (Int32.toNatClampNeg v1) 0)) q22 e22 ?_
    refine r_aload_n DX8_keep_47 (i := 0) rfl rfl ?_
    refine r_get (v := .int (gI q22 11)) DX8_keep_48 F_X8_170 e_44 rfl ?_
    obtain rfl := Option.some.inj e
    exact r_iret DX8_keep_51 rfl rfl
  · replace e := x_iff c6 e
    refine r_sipush DX8_keep_9 (v := (-1004)) (by decide) ?_
    obtain rfl := Option.some.inj e
    exact r_iret DX8_keep_12 rfl rfl

set_option maxRecDepth 100000 in
set_option maxHeartbeats 4000000 in
theorem lp_X8_even_L46 {l : Launch} {g : xG} {a : xT} {R : Option Value × xS} (N : Nat) (v1 : Int32) (v2 : Int32) (v3 : Int32) : ∀ (n : Nat) (v4 : Int32) (b : xT) (r : (xT)), f_X8_even_L46 N v1 v2 v3 n v4 b = some r → Rx l g 2 M_X8_even 104 [some (.ref (xa g 44)), some (.int v1), none, none, none, none] [] (a, r) R → Rx l g 2 M_X8_even 46 [some (.ref (xa g 44)), some (.int v1), some (.int v2), some (.int v3), some (.int v4), none] [] (a, b) R := by
  intro n
  induction n with
  | zero => intro v4_ s_ r_ e; cases e
  | succ n ih =>
    intro v4 b r e K0
    rw [f_X8_even_L46] at e
    refine r_iload DX8_even_46 rfl ?_
    refine r_aload_n DX8_even_48 (i := 0) rfl rfl ?_
    refine r_get (v := .ref (xa g 45)) DX8_even_49 F_X8_16 e_44 rfl ?_
    refine r_iload_n DX8_even_52 (i := 2) rfl rfl ?_
    obtain ⟨c53, e⟩ := x_grd e
    refine r_iald (f := (gA b 45)) DX8_even_53 e_45 rfl c53 ?_
    refine r_icmp_ge DX8_even_54 (tgt := 104) (by decide) (fun c54 => ?_) (fun c54 => ?_)
    · replace e := x_ift c54 e
      obtain rfl := Option.some.inj e
      refine r_mask (L' := [some (.ref (xa g 44)), some (.int v1), none, none, none, none]) [true, true, false, false, false, false] rfl ?_
      exact K0
    · replace e := x_iff c54 e
      refine r_aload_n DX8_even_57 (i := 0) rfl rfl ?_
      refine r_iload_n DX8_even_58 (i := 2) rfl rfl ?_
      refine r_iload DX8_even_59 rfl ?_
      obtain ⟨q61, e61, e⟩ := x_bnd e
      refine r_callV1 (As := [.int v2, .int v4]) (S := []) DX8_even_61 C_X8_138 (ci := 8) rfl rfl e_44 (by decide) (by decide) (Nat.le_of_ble_eq_true rfl) (t_X8_at v2 v4 b e61) rfl ?_
      refine r_iconst DX8_even_64 (v := 1) (by decide) ?_
      refine r_iload_n DX8_even_65 (i := 3) rfl rfl ?_
      refine r_ishl DX8_even_66 ?_
      refine r_iconst DX8_even_67 (v := (-1)) (by decide) ?_
      refine r_ixor DX8_even_68 ?_
      refine r_iand DX8_even_69 ?_
      obtain ⟨w70, e70, e⟩ := x_bnd e
      refine r_istoreB (L' := [some (.ref (xa g 44)), some (.int v1), some (.int v2), some (.int v3), some (.int v4), some (.int w70)]) (w := w70) DX8_even_70 (Option.some.inj e70) (by decide) rfl rfl ?_
      refine r_aload_n DX8_even_72 (i := 0) rfl rfl ?_
      refine r_iload DX8_even_73 rfl ?_
      obtain ⟨q75, e75, e⟩ := x_bnd e
      refine r_callS1 (As := [.int w70]) (S := [.ref (xa g 44)]) DX8_even_75 C_X8_101 (by decide) (by decide) (Nat.le_of_ble_eq_true rfl) (t_X8_bits N w70 e75) rfl ?_
      refine r_iconst DX8_even_78 (v := 2) (by decide) ?_
      refine r_irem DX8_even_79 (by decide) ?_
      refine r_iconst DX8_even_80 (v := 1) (by decide) ?_
      refine r_icmp_ne DX8_even_81 (tgt := 93) (by decide) (fun c81 => ?_) (fun c81 => ?_)
      · replace e := x_iff c81 e
        refine r_iload DX8_even_93 rfl ?_
        obtain ⟨q95, e95, e⟩ := x_bnd e
        refine r_callV0 (As := [.int w70]) (S := []) DX8_even_95 C_X8_173 (ci := 8) rfl rfl e_44 (by decide) (by decide) (Nat.le_of_ble_eq_true rfl) (t_X8_come N w70 b e95) rfl ?_
        refine r_iinc (L' := [some (.ref (xa g 44)), some (.int v1), some (.int v2), some (.int v3), some (.int (v4 + 1)), some (.int w70)]) DX8_even_98 (x := v4) (v := (v4 + 1)) rfl rfl (by decide) rfl rfl ?_
        refine r_goto DX8_even_101 (tgt := 46) (by decide) ?_
        refine r_mask (L' := [some (.ref (xa g 44)), some (.int v1), some (.int v2), some (.int v3), some (.int (v4 + 1)), none]) [true, true, true, true, true, false] rfl ?_
        exact ih _ _ _ e K0
      · replace e := x_ift c81 e
        refine r_iload DX8_even_84 rfl ?_
        refine r_iconst DX8_even_86 (v := 1) (by decide) ?_
        refine r_iload_n DX8_even_87 (i := 3) rfl rfl ?_
        refine r_ishl DX8_even_88 ?_
        refine r_ior DX8_even_89 ?_
        refine r_goto DX8_even_90 (tgt := 95) (by decide) ?_
        obtain ⟨q95, e95, e⟩ := x_bnd e
        refine r_callV0 (As := [.int (w70 ||| ((1 : Int32) <<< (v3 &&& 31)))]) (S := []) DX8_even_95 C_X8_173 (ci := 8) rfl rfl e_44 (by decide) (by decide) (Nat.le_of_ble_eq_true rfl) (t_X8_come N (w70 ||| ((1 : Int32) <<< (v3 &&& 31))) b e95) rfl ?_
        refine r_iinc (L' := [some (.ref (xa g 44)), some (.int v1), some (.int v2), some (.int v3), some (.int (v4 + 1)), some (.int w70)]) DX8_even_98 (x := v4) (v := (v4 + 1)) rfl rfl (by decide) rfl rfl ?_
        refine r_goto DX8_even_101 (tgt := 46) (by decide) ?_
        refine r_mask (L' := [some (.ref (xa g 44)), some (.int v1), some (.int v2), some (.int v3), some (.int (v4 + 1)), none]) [true, true, true, true, true, false] rfl ?_
        exact ih _ _ _ e K0

set_option maxRecDepth 100000 in
set_option maxHeartbeats 4000000 in
theorem t_X8_even {l : Launch} {g : xG} {a : xT} (N : Nat) (v1 : Int32) (v2 : Int32) (v3 : Int32) (b : xT)  {r : (Int32 × xT)} (e : f_X8_even N v1 v2 v3 b = some r) : Ev l g 2 yX8_even M_X8_even [.ref (xa g 44), .int v1, .int v2, .int v3] (a, b) (some (.int r.1), (a, r.2)) := by
  unfold f_X8_even at e
  refine Ev.of 2 (L0 := [some (.ref (xa g 44)), some (.int v1), some (.int v2), some (.int v3), none, none]) (by decide) rfl (Nat.le_of_ble_eq_true rfl) rfl ?_
  refine r_iload_n DX8_even_0 (i := 1) rfl rfl ?_
  obtain ⟨q1, e1, e⟩ := x_bnd e
  refine r_callS1 (As := [.int v1]) (S := []) DX8_even_1 C_X8_76 (by decide) (by decide) (Nat.le_of_ble_eq_true rfl) (t_X8_isList v1 e1) rfl ?_
  refine r_if_eq DX8_even_4 (tgt := 14) (by decide) (fun c4 => ?_) (fun c4 => ?_)
  · replace e := x_ift c4 e
    refine r_sipush DX8_even_14 (v := (-1001)) (by decide) ?_
    obtain rfl := Option.some.inj e
    exact r_iret DX8_even_17 rfl rfl
  · replace e := x_iff c4 e
    refine r_iload_n DX8_even_7 (i := 2) rfl rfl ?_
    obtain ⟨q8, e8, e⟩ := x_bnd e
    refine r_callS1 (As := [.int v2]) (S := []) DX8_even_8 C_X8_76 (by decide) (by decide) (Nat.le_of_ble_eq_true rfl) (t_X8_isList v2 e8) rfl ?_
    refine r_if_ne DX8_even_11 (tgt := 18) (by decide) (fun c11 => ?_) (fun c11 => ?_)
    · replace e := x_iff c11 e
      refine r_iload_n DX8_even_18 (i := 3) rfl rfl ?_
      refine r_i2l DX8_even_19 ?_
      refine r_lconst DX8_even_20 (v := 0) (by decide) ?_
      refine r_aload_n DX8_even_21 (i := 0) rfl rfl ?_
      refine r_get (v := .int (gI b 0)) DX8_even_22 F_X8_7 e_44 rfl ?_
      refine r_iconst DX8_even_25 (v := 1) (by decide) ?_
      refine r_isub DX8_even_26 ?_
      refine r_i2l DX8_even_27 ?_
      obtain ⟨q28, e28, e⟩ := x_bnd e
      refine r_callS1 (As := [.long (Int32.toInt64 v3), .long 0, .long (Int32.toInt64 ((gI b 0) - 1))]) (S := []) DX8_even_28 C_X8_70 (by decide) (by decide) (Nat.le_of_ble_eq_true rfl) (t_X8_in (Int32.toInt64 v3) 0 (Int32.toInt64 ((gI b 0) - 1)) e28) rfl ?_
      refine r_if_ne DX8_even_31 (tgt := 38) (by decide) (fun c31 => ?_) (fun c31 => ?_)
      · replace e := x_iff c31 e
        refine r_aload_n DX8_even_38 (i := 0) rfl rfl ?_
        refine r_iconst DX8_even_39 (v := 0) (by decide) ?_
        refine r_put (ty := .int) DX8_even_40 F_X8_170 Fp_8_11 e_44 rfl rfl (Nat.le_of_ble_eq_true rfl) p_44_11 ?_
        refine r_iconst DX8_even_43 (v := 0) (by decide) ?_
        refine r_istore (L' := [some (.ref (xa g 44)), some (.int v1), some (.int v2), some (.int v3), some (.int 0), none]) DX8_even_44 (by decide) rfl rfl ?_
        obtain ⟨q46, e46, e⟩ := x_bnd e
        refine lp_X8_even_L46 N v1 v2 v3 N 0 (sI b 11 0) q46 e46 ?_
        refine r_aload_n DX8_even_104 (i := 0) rfl rfl ?_
        refine r_iload_n DX8_even_105 (i := 1) rfl rfl ?_
        obtain ⟨q106, e106, e⟩ := x_bnd e
        refine r_callV1 (As := [.int v1]) (S := []) DX8_even_106 C_X8_176 (ci := 8) rfl rfl e_44 (by decide) (by decide) (Nat.le_of_ble_eq_true rfl) (t_X8_keep N v1 q46 e106) rfl ?_
        obtain rfl := Option.some.inj e
        exact r_iret DX8_even_109 rfl rfl
      · replace e := x_ift c31 e
        refine r_sipush DX8_even_34 (v := (-1002)) (by decide) ?_
        obtain rfl := Option.some.inj e
        exact r_iret DX8_even_37 rfl rfl
    · replace e := x_ift c11 e
      refine r_sipush DX8_even_14 (v := (-1001)) (by decide) ?_
      obtain rfl := Option.some.inj e
      exact r_iret DX8_even_17 rfl rfl

set_option maxRecDepth 100000 in
set_option maxHeartbeats 4000000 in
theorem t_X8_fails {l : Launch} {g : xG} {a : xT} (v1 : Int32) (v2 : Int32) (b : xT)  {r : (Int32 × xT)} (e : f_X8_fails v1 v2 b = some r) : Ev l g 0 yX8_fails M_X8_fails [.ref (xa g 44), .int v1, .int v2] (a, b) (some (.int r.1), (a, r.2)) := by
  unfold f_X8_fails at e
  refine Ev.of 0 (L0 := [some (.ref (xa g 44)), some (.int v1), some (.int v2)]) (by decide) rfl (Nat.le_of_ble_eq_true rfl) rfl ?_
  refine r_aload_n DX8_fails_0 (i := 0) rfl rfl ?_
  refine r_iload_n DX8_fails_1 (i := 2) rfl rfl ?_
  refine r_put (ty := .int) DX8_fails_2 F_X8_41 Fp_8_15 e_44 rfl rfl (Nat.le_of_ble_eq_true rfl) p_44_15 ?_
  refine r_iload_n DX8_fails_5 (i := 1) rfl rfl ?_
  obtain rfl := Option.some.inj e
  exact r_iret DX8_fails_6 rfl rfl

set_option maxRecDepth 100000 in
set_option maxHeartbeats 4000000 in
theorem t_X8_fault {l : Launch} {g : xG} {a : xT} (b : xT)  {r : Int32} (e : f_X8_fault b = some r) : Ev l g 0 yX8_fault M_X8_fault [.ref (xa g 44)] (a, b) (some (.int r), (a, b)) := by
  unfold f_X8_fault at e
  refine Ev.of 0 (L0 := [some (.ref (xa g 44))]) (by decide) rfl (Nat.le_of_ble_eq_true rfl) rfl ?_
  refine r_aload_n DX8_fault_0 (i := 0) rfl rfl ?_
  refine r_get (v := .int (gI b 15)) DX8_fault_1 F_X8_41 e_44 rfl ?_
  obtain rfl := Option.some.inj e
  exact r_iret DX8_fault_4 rfl rfl

set_option maxRecDepth 100000 in
set_option maxHeartbeats 4000000 in
theorem lp_X8_feed_L36 {l : Launch} {g : xG} {a : xT} {R : Option Value × xS} (v2 : Int64) : ∀ (n : Nat) (v4 : Int32) (b : xT) (r : (xT)), f_X8_feed_L36 v2 n v4 b = some r → Rx l g 1 M_X8_feed 78 [some (.ref (xa g 44)), none, none, none, none] [] (a, r) R → Rx l g 1 M_X8_feed 36 [some (.ref (xa g 44)), none, some (.long v2), none, some (.int v4)] [] (a, b) R := by
  intro n
  induction n with
  | zero => intro v4_ s_ r_ e; cases e
  | succ n ih =>
    intro v4 b r e K0
    rw [f_X8_feed_L36] at e
    refine r_iload DX8_feed_36 rfl ?_
    refine r_if_lt DX8_feed_38 (tgt := 78) (by decide) (fun c38 => ?_) (fun c38 => ?_)
    · replace e := x_ift c38 e
      obtain rfl := Option.some.inj e
      refine r_mask (L' := [some (.ref (xa g 44)), none, none, none, none]) [true, false, false, false, false] rfl ?_
      exact K0
    · replace e := x_iff c38 e
      refine r_aload_n DX8_feed_41 (i := 0) rfl rfl ?_
      refine r_get (v := .ref (xa g 52)) DX8_feed_42 F_X8_38 e_44 rfl ?_
      refine r_aload_n DX8_feed_45 (i := 0) rfl rfl ?_
      refine r_get (v := .int (gI b 14)) DX8_feed_46 F_X8_181 e_44 rfl ?_
      refine r_lload_n DX8_feed_49 (i := 2) rfl rfl ?_
      refine r_bipush DX8_feed_50 (v := 8) (by decide) ?_
      refine r_iload DX8_feed_52 rfl ?_
      refine r_imul DX8_feed_54 ?_
      refine r_lshr DX8_feed_55 ?_
      refine r_ldc2 DX8_feed_56 K_X8_184 ?_
      refine r_land DX8_feed_59 ?_
      refine r_l2i DX8_feed_60 ?_
      obtain ⟨c61, e⟩ := x_grd e
      refine r_iast (f := (gA b 52)) DX8_feed_61 e_52 rfl c61 p_52 ?_
      refine r_aload_n DX8_feed_62 (i := 0) rfl rfl ?_
      refine r_dup DX8_feed_63 rfl ?_
      refine r_get (v := .int (gI b 14)) DX8_feed_64 F_X8_181 e_44 rfl ?_
      refine r_iconst DX8_feed_67 (v := 1) (by decide) ?_
      refine r_iadd DX8_feed_68 ?_
      refine r_put (ty := .int) DX8_feed_69 F_X8_181 Fp_8_14 e_44 rfl rfl (Nat.le_of_ble_eq_true rfl) p_44_14 ?_
      refine r_iinc (L' := [some (.ref (xa g 44)), none, some (.long v2), none, some (.int (v4 + (-1)))]) DX8_feed_72 (x := v4) (v := (v4 + (-1))) rfl rfl (by decide) rfl rfl ?_
      refine r_goto DX8_feed_75 (tgt := 36) (by decide) ?_
      exact ih _ _ _ e K0

set_option maxRecDepth 100000 in
set_option maxHeartbeats 4000000 in
theorem t_X8_feed {l : Launch} {g : xG} {a : xT} (N : Nat) (v1 : Int32) (v2 : Int64) (b : xT)  {r : (Int32 × xT)} (e : f_X8_feed N v1 v2 b = some r) : Ev l g 1 yX8_feed M_X8_feed [.ref (xa g 44), .int v1, .long v2] (a, b) (some (.int r.1), (a, r.2)) := by
  unfold f_X8_feed at e
  refine Ev.of 1 (L0 := [some (.ref (xa g 44)), some (.int v1), some (.long v2), none, none]) (by decide) rfl (Nat.le_of_ble_eq_true rfl) rfl ?_
  refine r_iload_n DX8_feed_0 (i := 1) rfl rfl ?_
  refine r_i2l DX8_feed_1 ?_
  refine r_lconst DX8_feed_2 (v := 1) (by decide) ?_
  refine r_ldc2 DX8_feed_3 K_X8_179 ?_
  obtain ⟨q6, e6, e⟩ := x_bnd e
  refine r_callS1 (As := [.long (Int32.toInt64 v1), .long 1, .long 8]) (S := []) DX8_feed_6 C_X8_70 (by decide) (by decide) (Nat.le_of_ble_eq_true rfl) (t_X8_in (Int32.toInt64 v1) 1 8 e6) rfl ?_
  refine r_if_ne DX8_feed_9 (tgt := 16) (by decide) (fun c9 => ?_) (fun c9 => ?_)
  · replace e := x_iff c9 e
    refine r_aload_n DX8_feed_16 (i := 0) rfl rfl ?_
    refine r_get (v := .int (gI b 14)) DX8_feed_17 F_X8_181 e_44 rfl ?_
    refine r_iload_n DX8_feed_20 (i := 1) rfl rfl ?_
    refine r_iadd DX8_feed_21 ?_
    refine r_bipush DX8_feed_22 (v := 120) (by decide) ?_
    refine r_icmp_le DX8_feed_24 (tgt := 31) (by decide) (fun c24 => ?_) (fun c24 => ?_)
    · replace e := x_ift c24 e
      refine r_iload_n DX8_feed_31 (i := 1) rfl rfl ?_
      refine r_iconst DX8_feed_32 (v := 1) (by decide) ?_
      refine r_isub DX8_feed_33 ?_
      refine r_istore (L' := [some (.ref (xa g 44)), some (.int v1), some (.long v2), none, some (.int (v1 - 1))]) DX8_feed_34 (by decide) rfl rfl ?_
      obtain ⟨q36, e36, e⟩ := x_bnd e
      refine r_mask (L' := [some (.ref (xa g 44)), none, some (.long v2), none, some (.int (v1 - 1))]) [true, false, true, false, true] rfl ?_
      refine lp_X8_feed_L36 v2 N (v1 - 1) b q36 e36 ?_
      refine r_aload_n DX8_feed_78 (i := 0) rfl rfl ?_
      refine r_get (v := .int (gI q36 14)) DX8_feed_79 F_X8_181 e_44 rfl ?_
      obtain rfl := Option.some.inj e
      exact r_iret DX8_feed_82 rfl rfl
    · replace e := x_iff c24 e
      refine r_sipush DX8_feed_27 (v := (-1004)) (by decide) ?_
      obtain rfl := Option.some.inj e
      exact r_iret DX8_feed_30 rfl rfl
  · replace e := x_ift c9 e
    refine r_sipush DX8_feed_12 (v := (-1002)) (by decide) ?_
    obtain rfl := Option.some.inj e
    exact r_iret DX8_feed_15 rfl rfl

set_option maxRecDepth 100000 in
set_option maxHeartbeats 4000000 in
theorem t_X8_fills {l : Launch} {g : xG} {a : xT} (N : Nat) (v1 : Int32) (b : xT)  {r : Int32} (e : f_X8_fills N v1 b = some r) : Ev l g 4 yX8_fills M_X8_fills [.ref (xa g 44), .int v1] (a, b) (some (.int r), (a, b)) := by
  unfold f_X8_fills at e
  refine Ev.of 0 (L0 := [some (.ref (xa g 44)), some (.int v1)]) (by decide) rfl (Nat.le_of_ble_eq_true rfl) rfl ?_
  refine r_aload_n DX8_fills_0 (i := 0) rfl rfl ?_
  refine r_iload_n DX8_fills_1 (i := 1) rfl rfl ?_
  obtain ⟨q2, e2, e⟩ := x_bnd e
  refine r_callV1 (As := [.int v1]) (S := []) DX8_fills_2 C_X8_94 (ci := 8) rfl rfl e_44 (by decide) (by decide) (Nat.le_of_ble_eq_true rfl) (t_X8_isMark v1 b e2) rfl ?_
  refine r_if_eq DX8_fills_5 (tgt := 16) (by decide) (fun c5 => ?_) (fun c5 => ?_)
  · replace e := x_ift c5 e
    refine r_sipush DX8_fills_16 (v := (-1002)) (by decide) ?_
    obtain rfl := Option.some.inj e
    exact r_iret DX8_fills_19 rfl rfl
  · replace e := x_iff c5 e
    refine r_aload_n DX8_fills_8 (i := 0) rfl rfl ?_
    refine r_iload_n DX8_fills_9 (i := 1) rfl rfl ?_
    obtain ⟨q10, e10, e⟩ := x_bnd e
    refine r_callV1 (As := [.int v1]) (S := []) DX8_fills_10 C_X8_135 (ci := 8) rfl rfl e_44 (by decide) (by decide) (Nat.le_of_ble_eq_true rfl) (t_X8_filledBy N v1 b e10) rfl ?_
    refine r_goto DX8_fills_13 (tgt := 19) (by decide) ?_
    obtain rfl := Option.some.inj e
    exact r_iret DX8_fills_19 rfl rfl

set_option maxRecDepth 100000 in
set_option maxHeartbeats 4000000 in
theorem lp_X8_findMost_L54 {l : Launch} {g : xG} {a : xT} {R : Option Value × xS} (N : Nat) (v1 : Int32) (v2 : Int32) (v3 : Int32) (v4 : Int32) : ∀ (n : Nat) (v5 : Int32) (b : xT) (r : (xT)), f_X8_findMost_L54 N v1 v2 v3 v4 n v5 b = some r → Rx l g 3 M_X8_findMost 95 [some (.ref (xa g 44)), some (.int v1), some (.int v2), some (.int v3), some (.int v4), none] [] (a, r) R → Rx l g 3 M_X8_findMost 54 [some (.ref (xa g 44)), some (.int v1), some (.int v2), some (.int v3), some (.int v4), some (.int v5)] [] (a, b) R := by
  intro n
  induction n with
  | zero => intro v5_ s_ r_ e; cases e
  | succ n ih =>
    intro v5 b r e K0
    rw [f_X8_findMost_L54] at e
    refine r_iload DX8_findMost_54 rfl ?_
    refine r_iload_n DX8_findMost_56 (i := 2) rfl rfl ?_
    refine r_icmp_ge DX8_findMost_57 (tgt := 95) (by decide) (fun c57 => ?_) (fun c57 => ?_)
    · replace e := x_ift c57 e
      obtain rfl := Option.some.inj e
      refine r_mask (L' := [some (.ref (xa g 44)), some (.int v1), some (.int v2), some (.int v3), some (.int v4), none]) [true, true, true, true, true, false] rfl ?_
      exact K0
    · replace e := x_iff c57 e
      refine r_aload_n DX8_findMost_60 (i := 0) rfl rfl ?_
      refine r_get (v := .ref (xa g 50)) DX8_findMost_61 F_X8_32 e_44 rfl ?_
      refine r_iload DX8_findMost_64 rfl ?_
      refine r_dup2 DX8_findMost_66 rfl rfl ?_
      obtain ⟨c67, e⟩ := x_grd e
      refine r_iald (f := (gA b 50)) DX8_findMost_67 e_50 rfl c67 ?_
      refine r_aload_n DX8_findMost_68 (i := 0) rfl rfl ?_
      refine r_iload DX8_findMost_69 rfl ?_
      refine r_iload DX8_findMost_71 rfl ?_
      obtain ⟨q73, e73, e⟩ := x_bnd e
      refine r_callV1 (As := [.int v4, .int v5]) (S := [.int ((gA b 50) (Int32.toNatClampNeg v4)), .int v4, .ref (xa g 50)]) DX8_findMost_73 C_X8_118 (ci := 8) rfl rfl e_44 (by decide) (by decide) (Nat.le_of_ble_eq_true rfl) (t_X8_areAlike N v4 v5 b e73) rfl ?_
      refine r_if_eq DX8_findMost_76 (tgt := 86) (by decide) (fun c76 => ?_) (fun c76 => ?_)
      · replace e := x_ift c76 e
        refine r_iconst DX8_findMost_86 (v := 0) (by decide) ?_
        refine r_ior DX8_findMost_87 ?_
        obtain ⟨c88, e⟩ := x_grd e
        refine r_iast (f := (gA b 50)) DX8_findMost_88 e_50 rfl c88 p_50 ?_
        refine r_iinc (L' := [some (.ref (xa g 44)), some (.int v1), some (.int v2), some (.int v3), some (.int v4), some (.int (v5 + 1))]) DX8_findMost_89 (x := v5) (v := (v5 + 1)) rfl rfl (by decide) rfl rfl ?_
        refine r_goto DX8_findMost_92 (tgt := 54) (by decide) ?_
        exact ih _ _ _ e K0
      · replace e := x_iff c76 e
        refine r_iconst DX8_findMost_79 (v := 1) (by decide) ?_
        refine r_iload DX8_findMost_80 rfl ?_
        refine r_ishl DX8_findMost_82 ?_
        refine r_goto DX8_findMost_83 (tgt := 87) (by decide) ?_
        refine r_ior DX8_findMost_87 ?_
        obtain ⟨c88, e⟩ := x_grd e
        refine r_iast (f := (gA b 50)) DX8_findMost_88 e_50 rfl c88 p_50 ?_
        refine r_iinc (L' := [some (.ref (xa g 44)), some (.int v1), some (.int v2), some (.int v3), some (.int v4), some (.int (v5 + 1))]) DX8_findMost_89 (x := v5) (v := (v5 + 1)) rfl rfl (by decide) rfl rfl ?_
        refine r_goto DX8_findMost_92 (tgt := 54) (by decide) ?_
        exact ih _ _ _ e K0

set_option maxRecDepth 100000 in
set_option maxHeartbeats 4000000 in
theorem lp_X8_findMost_L12 {l : Launch} {g : xG} {a : xT} {R : Option Value × xS} (N : Nat) (v1 : Int32) (v2 : Int32) : ∀ (n : Nat) (v3 : Int32) (v4 : Int32) (b : xT) (r : (Int32 × xT)), f_X8_findMost_L12 N v1 v2 n v3 v4 b = some r → Rx l g 3 M_X8_findMost 101 [some (.ref (xa g 44)), none, none, some (.int (r.1)), none, none] [] (a, (r.2)) R → Rx l g 3 M_X8_findMost 12 [some (.ref (xa g 44)), some (.int v1), some (.int v2), some (.int v3), some (.int v4), none] [] (a, b) R := by
  intro n
  induction n with
  | zero => intro v3_ v4_ s_ r_ e; cases e
  | succ n ih =>
    intro v3 v4 b r e K0
    rw [f_X8_findMost_L12] at e
    refine r_iload DX8_findMost_12 rfl ?_
    refine r_iload_n DX8_findMost_14 (i := 2) rfl rfl ?_
    refine r_icmp_ge DX8_findMost_15 (tgt := 101) (by decide) (fun c15 => ?_) (fun c15 => ?_)
    · replace e := x_ift c15 e
      obtain rfl := Option.some.inj e
      refine r_mask (L' := [some (.ref (xa g 44)), none, none, some (.int v3), none, none]) [true, false, false, true, false, false] rfl ?_
      exact K0
    · replace e := x_iff c15 e
      refine r_iload_n DX8_findMost_18 (i := 3) rfl rfl ?_
      refine r_iload_n DX8_findMost_19 (i := 1) rfl rfl ?_
      refine r_iconst DX8_findMost_20 (v := (-1)) (by decide) ?_
      refine r_icmp_eq DX8_findMost_21 (tgt := 33) (by decide) (fun c21 => ?_) (fun c21 => ?_)
      · replace e := x_ift c21 e
        refine r_iconst DX8_findMost_33 (v := 1) (by decide) ?_
        refine r_iload DX8_findMost_34 rfl ?_
        refine r_ishl DX8_findMost_36 ?_
        refine r_goto DX8_findMost_37 (tgt := 41) (by decide) ?_
        refine r_ior DX8_findMost_41 ?_
        refine r_istore_n (L' := [some (.ref (xa g 44)), some (.int v1), some (.int v2), some (.int (v3 ||| ((1 : Int32) <<< (v4 &&& 31)))), some (.int v4), none]) DX8_findMost_42 (i := 3) rfl (by decide) rfl rfl ?_
        refine r_aload_n DX8_findMost_43 (i := 0) rfl rfl ?_
        refine r_get (v := .ref (xa g 50)) DX8_findMost_44 F_X8_32 e_44 rfl ?_
        refine r_iload DX8_findMost_47 rfl ?_
        refine r_iconst DX8_findMost_49 (v := 0) (by decide) ?_
        obtain ⟨c50, e⟩ := x_grd e
        refine r_iast (f := (gA b 50)) DX8_findMost_50 e_50 rfl c50 p_50 ?_
        refine r_iconst DX8_findMost_51 (v := 0) (by decide) ?_
        refine r_istore (L' := [some (.ref (xa g 44)), some (.int v1), some (.int v2), some (.int (v3 ||| ((1 : Int32) <<< (v4 &&& 31)))), some (.int v4), some (.int 0)]) DX8_findMost_52 (by decide) rfl rfl ?_
        obtain ⟨q54, e54, e⟩ := x_bnd e
        refine lp_X8_findMost_L54 N v1 v2 (v3 ||| ((1 : Int32) <<< (v4 &&& 31))) v4 N 0 (sA b 50 (upd (gA b 50) (Int32.toNatClampNeg v4) 0)) q54 e54 ?_
        refine r_iinc (L' := [some (.ref (xa g 44)), some (.int v1), some (.int v2), some (.int (v3 ||| ((1 : Int32) <<< (v4 &&& 31)))), some (.int (v4 + 1)), none]) DX8_findMost_95 (x := v4) (v := (v4 + 1)) rfl rfl (by decide) rfl rfl ?_
        refine r_goto DX8_findMost_98 (tgt := 12) (by decide) ?_
        exact ih _ _ _ _ e K0
      · replace e := x_iff c21 e
        refine r_iload DX8_findMost_24 rfl ?_
        obtain ⟨q26, e26, e⟩ := x_bnd e
        refine r_callS1 (As := [.int v4]) (S := [.int v3]) DX8_findMost_26 C_X8_101 (by decide) (by decide) (Nat.le_of_ble_eq_true rfl) (t_X8_bits N v4 e26) rfl ?_
        refine r_iload_n DX8_findMost_29 (i := 1) rfl rfl ?_
        refine r_icmp_ne DX8_findMost_30 (tgt := 40) (by decide) (fun c30 => ?_) (fun c30 => ?_)
        · replace e := x_iff c30 e
          refine r_iconst DX8_findMost_40 (v := 0) (by decide) ?_
          refine r_ior DX8_findMost_41 ?_
          refine r_istore_n (L' := [some (.ref (xa g 44)), some (.int v1), some (.int v2), some (.int (v3 ||| 0)), some (.int v4), none]) DX8_findMost_42 (i := 3) rfl (by decide) rfl rfl ?_
          refine r_aload_n DX8_findMost_43 (i := 0) rfl rfl ?_
          refine r_get (v := .ref (xa g 50)) DX8_findMost_44 F_X8_32 e_44 rfl ?_
          refine r_iload DX8_findMost_47 rfl ?_
          refine r_iconst DX8_findMost_49 (v := 0) (by decide) ?_
          obtain ⟨c50, e⟩ := x_grd e
          refine r_iast (f := (gA b 50)) DX8_findMost_50 e_50 rfl c50 p_50 ?_
          refine r_iconst DX8_findMost_51 (v := 0) (by decide) ?_
          refine r_istore (L' := [some (.ref (xa g 44)), some (.int v1), some (.int v2), some (.int (v3 ||| 0)), some (.int v4), some (.int 0)]) DX8_findMost_52 (by decide) rfl rfl ?_
          obtain ⟨q54, e54, e⟩ := x_bnd e
          refine lp_X8_findMost_L54 N v1 v2 (v3 ||| 0) v4 N 0 (sA b 50 (upd (gA b 50) (Int32.toNatClampNeg v4) 0)) q54 e54 ?_
          refine r_iinc (L' := [some (.ref (xa g 44)), some (.int v1), some (.int v2), some (.int (v3 ||| 0)), some (.int (v4 + 1)), none]) DX8_findMost_95 (x := v4) (v := (v4 + 1)) rfl rfl (by decide) rfl rfl ?_
          refine r_goto DX8_findMost_98 (tgt := 12) (by decide) ?_
          exact ih _ _ _ _ e K0
        · replace e := x_ift c30 e
          refine r_iconst DX8_findMost_33 (v := 1) (by decide) ?_
          refine r_iload DX8_findMost_34 rfl ?_
          refine r_ishl DX8_findMost_36 ?_
          refine r_goto DX8_findMost_37 (tgt := 41) (by decide) ?_
          refine r_ior DX8_findMost_41 ?_
          refine r_istore_n (L' := [some (.ref (xa g 44)), some (.int v1), some (.int v2), some (.int (v3 ||| ((1 : Int32) <<< (v4 &&& 31)))), some (.int v4), none]) DX8_findMost_42 (i := 3) rfl (by decide) rfl rfl ?_
          refine r_aload_n DX8_findMost_43 (i := 0) rfl rfl ?_
          refine r_get (v := .ref (xa g 50)) DX8_findMost_44 F_X8_32 e_44 rfl ?_
          refine r_iload DX8_findMost_47 rfl ?_
          refine r_iconst DX8_findMost_49 (v := 0) (by decide) ?_
          obtain ⟨c50, e⟩ := x_grd e
          refine r_iast (f := (gA b 50)) DX8_findMost_50 e_50 rfl c50 p_50 ?_
          refine r_iconst DX8_findMost_51 (v := 0) (by decide) ?_
          refine r_istore (L' := [some (.ref (xa g 44)), some (.int v1), some (.int v2), some (.int (v3 ||| ((1 : Int32) <<< (v4 &&& 31)))), some (.int v4), some (.int 0)]) DX8_findMost_52 (by decide) rfl rfl ?_
          obtain ⟨q54, e54, e⟩ := x_bnd e
          refine lp_X8_findMost_L54 N v1 v2 (v3 ||| ((1 : Int32) <<< (v4 &&& 31))) v4 N 0 (sA b 50 (upd (gA b 50) (Int32.toNatClampNeg v4) 0)) q54 e54 ?_
          refine r_iinc (L' := [some (.ref (xa g 44)), some (.int v1), some (.int v2), some (.int (v3 ||| ((1 : Int32) <<< (v4 &&& 31)))), some (.int (v4 + 1)), none]) DX8_findMost_95 (x := v4) (v := (v4 + 1)) rfl rfl (by decide) rfl rfl ?_
          refine r_goto DX8_findMost_98 (tgt := 12) (by decide) ?_
          exact ih _ _ _ _ e K0

set_option maxRecDepth 100000 in
set_option maxHeartbeats 4000000 in
theorem lp_X8_findMost_L205 {l : Launch} {g : xG} {a : xT} {R : Option Value × xS} (v4 : Int32) (b : xT) : ∀ (n : Nat) (v5 : Int32) (r : (Int32)), f_X8_findMost_L205 v4 b n v5 = some r → Rx l g 3 M_X8_findMost 226 [some (.ref (xa g 44)), none, none, none, some (.int v4), some (.int r)] [] (a, b) R → Rx l g 3 M_X8_findMost 205 [some (.ref (xa g 44)), none, none, none, some (.int v4), some (.int v5)] [] (a, b) R := by
  intro n
  induction n with
  | zero => intro v5_ r_ e; cases e
  | succ n ih =>
    intro v5 r e K0
    rw [f_X8_findMost_L205] at e
    refine r_aload_n DX8_findMost_205 (i := 0) rfl rfl ?_
    refine r_get (v := .ref (xa g 48)) DX8_findMost_206 F_X8_26 e_44 rfl ?_
    refine r_iload DX8_findMost_209 rfl ?_
    obtain ⟨c211, e⟩ := x_grd e
    refine r_iald (f := (gA b 48)) DX8_findMost_211 e_48 rfl c211 ?_
    refine r_iload DX8_findMost_212 rfl ?_
    refine r_iushr DX8_findMost_214 ?_
    refine r_iconst DX8_findMost_215 (v := 1) (by decide) ?_
    refine r_iand DX8_findMost_216 ?_
    refine r_if_ne DX8_findMost_217 (tgt := 226) (by decide) (fun c217 => ?_) (fun c217 => ?_)
    · replace e := x_iff c217 e
      obtain rfl := Option.some.inj e
      exact K0
    · replace e := x_ift c217 e
      refine r_iinc (L' := [some (.ref (xa g 44)), none, none, none, some (.int v4), some (.int (v5 + 1))]) DX8_findMost_220 (x := v5) (v := (v5 + 1)) rfl rfl (by decide) rfl rfl ?_
      refine r_goto DX8_findMost_223 (tgt := 205) (by decide) ?_
      exact ih _ _ e K0

set_option maxRecDepth 100000 in
set_option maxHeartbeats 4000000 in
theorem lp_X8_findMost_L139 {l : Launch} {g : xG} {a : xT} {R : Option Value × xS} (v4 : Int32) : ∀ (n : Nat) (v5 : Int32) (b : xT) (r : (xT)), f_X8_findMost_L139 v4 n v5 b = some r → Rx l g 3 M_X8_findMost 166 [some (.ref (xa g 44)), none, none, none, some (.int v4), none] [] (a, r) R → Rx l g 3 M_X8_findMost 139 [some (.ref (xa g 44)), none, none, none, some (.int v4), some (.int v5)] [] (a, b) R := by
  intro n
  induction n with
  | zero => intro v5_ s_ r_ e; cases e
  | succ n ih =>
    intro v5 b r e K0
    rw [f_X8_findMost_L139] at e
    refine r_iload DX8_findMost_139 rfl ?_
    refine r_iload DX8_findMost_141 rfl ?_
    refine r_icmp_ge DX8_findMost_143 (tgt := 166) (by decide) (fun c143 => ?_) (fun c143 => ?_)
    · replace e := x_ift c143 e
      obtain rfl := Option.some.inj e
      refine r_mask (L' := [some (.ref (xa g 44)), none, none, none, some (.int v4), none]) [true, false, false, false, true, false] rfl ?_
      exact K0
    · replace e := x_iff c143 e
      refine r_aload_n DX8_findMost_146 (i := 0) rfl rfl ?_
      refine r_get (v := .ref (xa g 49)) DX8_findMost_147 F_X8_29 e_44 rfl ?_
      refine r_iload DX8_findMost_150 rfl ?_
      refine r_aload_n DX8_findMost_152 (i := 0) rfl rfl ?_
      refine r_get (v := .ref (xa g 47)) DX8_findMost_153 F_X8_23 e_44 rfl ?_
      refine r_iload DX8_findMost_156 rfl ?_
      obtain ⟨c158, e⟩ := x_grd e
      refine r_iald (f := (gA b 47)) DX8_findMost_158 e_47 rfl c158 ?_
      obtain ⟨c159, e⟩ := x_grd e
      refine r_iast (f := (gA b 49)) DX8_findMost_159 e_49 rfl c159 p_49 ?_
      refine r_iinc (L' := [some (.ref (xa g 44)), none, none, none, some (.int v4), some (.int (v5 + 1))]) DX8_findMost_160 (x := v5) (v := (v5 + 1)) rfl rfl (by decide) rfl rfl ?_
      refine r_goto DX8_findMost_163 (tgt := 139) (by decide) ?_
      exact ih _ _ _ e K0

set_option maxRecDepth 100000 in
set_option maxHeartbeats 4000000 in
theorem lp_X8_findMost_L116 {l : Launch} {g : xG} {a : xT} {R : Option Value × xS} (N : Nat) : ∀ (n : Nat) (v4 : Int32) (b : xT) (r : (xT)), f_X8_findMost_L116 N n v4 b = some r → Rx l g 3 M_X8_findMost 283 [none, none, none, none, none, none] [] (a, r) R → Rx l g 3 M_X8_findMost 116 [some (.ref (xa g 44)), none, none, none, some (.int v4), none] [] (a, b) R := by
  intro n
  induction n with
  | zero => intro v4_ s_ r_ e; cases e
  | succ n ih =>
    intro v4 b r e K0
    rw [f_X8_findMost_L116] at e
    refine r_iload DX8_findMost_116 rfl ?_
    refine r_if_lt DX8_findMost_118 (tgt := 283) (by decide) (fun c118 => ?_) (fun c118 => ?_)
    · replace e := x_ift c118 e
      obtain rfl := Option.some.inj e
      refine r_mask (L' := [none, none, none, none, none, none]) [false, false, false, false, false, false] rfl ?_
      exact K0
    · replace e := x_iff c118 e
      refine r_iload DX8_findMost_121 rfl ?_
      refine r_aload_n DX8_findMost_123 (i := 0) rfl rfl ?_
      refine r_get (v := .int (gI b 9)) DX8_findMost_124 F_X8_158 e_44 rfl ?_
      refine r_icmp_le DX8_findMost_127 (tgt := 166) (by decide) (fun c127 => ?_) (fun c127 => ?_)
      · replace e := x_ift c127 e
        refine r_aload_n DX8_findMost_166 (i := 0) rfl rfl ?_
        refine r_get (v := .ref (xa g 48)) DX8_findMost_167 F_X8_26 e_44 rfl ?_
        refine r_iload DX8_findMost_170 rfl ?_
        obtain ⟨c172, e⟩ := x_grd e
        refine r_iald (f := (gA b 48)) DX8_findMost_172 e_48 rfl c172 ?_
        refine r_if_eq DX8_findMost_173 (tgt := 196) (by decide) (fun c173 => ?_) (fun c173 => ?_)
        · replace e := x_ift c173 e
          refine r_iinc (L' := [some (.ref (xa g 44)), none, none, none, some (.int (v4 + (-1))), none]) DX8_findMost_196 (x := v4) (v := (v4 + (-1))) rfl rfl (by decide) rfl rfl ?_
          refine r_goto DX8_findMost_199 (tgt := 116) (by decide) ?_
          exact ih _ _ _ e K0
        · replace e := x_iff c173 e
          refine r_iload DX8_findMost_176 rfl ?_
          refine r_aload_n DX8_findMost_178 (i := 0) rfl rfl ?_
          refine r_get (v := .ref (xa g 48)) DX8_findMost_179 F_X8_26 e_44 rfl ?_
          refine r_iload DX8_findMost_182 rfl ?_
          obtain ⟨c184, e⟩ := x_grd e
          refine r_iald (f := (gA b 48)) DX8_findMost_184 e_48 rfl c184 ?_
          obtain ⟨q185, e185, e⟩ := x_bnd e
          refine r_callS1 (As := [.int ((gA b 48) (Int32.toNatClampNeg v4))]) (S := [.int v4]) DX8_findMost_185 C_X8_161 (by decide) (by decide) (Nat.le_of_ble_eq_true rfl) (t_X8_bits32 N ((gA b 48) (Int32.toNatClampNeg v4)) e185) rfl ?_
          refine r_iadd DX8_findMost_188 ?_
          refine r_aload_n DX8_findMost_189 (i := 0) rfl rfl ?_
          refine r_get (v := .int (gI b 9)) DX8_findMost_190 F_X8_158 e_44 rfl ?_
          refine r_icmp_gt DX8_findMost_193 (tgt := 202) (by decide) (fun c193 => ?_) (fun c193 => ?_)
          · replace e := x_ift c193 e
            refine r_iconst DX8_findMost_202 (v := 0) (by decide) ?_
            refine r_istore (L' := [some (.ref (xa g 44)), none, none, none, some (.int v4), some (.int 0)]) DX8_findMost_203 (by decide) rfl rfl ?_
            obtain ⟨q205, e205, e⟩ := x_bnd e
            refine lp_X8_findMost_L205 v4 b N 0 q205 e205 ?_
            refine r_aload_n DX8_findMost_226 (i := 0) rfl rfl ?_
            refine r_get (v := .ref (xa g 48)) DX8_findMost_227 F_X8_26 e_44 rfl ?_
            refine r_iload DX8_findMost_230 rfl ?_
            refine r_dup2 DX8_findMost_232 rfl rfl ?_
            obtain ⟨c233, e⟩ := x_grd e
            refine r_iald (f := (gA b 48)) DX8_findMost_233 e_48 rfl c233 ?_
            refine r_iconst DX8_findMost_234 (v := 1) (by decide) ?_
            refine r_iload DX8_findMost_235 rfl ?_
            refine r_ishl DX8_findMost_237 ?_
            refine r_iconst DX8_findMost_238 (v := (-1)) (by decide) ?_
            refine r_ixor DX8_findMost_239 ?_
            refine r_iand DX8_findMost_240 ?_
            obtain ⟨c241, e⟩ := x_grd e
            refine r_iast (f := (gA b 48)) DX8_findMost_241 e_48 rfl c241 p_48 ?_
            refine r_aload_n DX8_findMost_242 (i := 0) rfl rfl ?_
            refine r_get (v := .ref (xa g 47)) DX8_findMost_243 F_X8_23 e_44 rfl ?_
            refine r_iload DX8_findMost_246 rfl ?_
            refine r_iload DX8_findMost_248 rfl ?_
            obtain ⟨c250, e⟩ := x_grd e
            refine r_iast (f := (gA b 47)) DX8_findMost_250 e_47 rfl c250 p_47 ?_
            refine r_aload_n DX8_findMost_251 (i := 0) rfl rfl ?_
            refine r_get (v := .ref (xa g 48)) DX8_findMost_252 F_X8_26 e_44 rfl ?_
            refine r_iload DX8_findMost_255 rfl ?_
            refine r_iconst DX8_findMost_257 (v := 1) (by decide) ?_
            refine r_iadd DX8_findMost_258 ?_
            refine r_aload_n DX8_findMost_259 (i := 0) rfl rfl ?_
            refine r_get (v := .ref (xa g 48)) DX8_findMost_260 F_X8_26 e_44 rfl ?_
            refine r_iload DX8_findMost_263 rfl ?_
            obtain ⟨c265, e⟩ := x_grd e
            refine r_iald (f := (upd (gA b 48) (Int32.toNatClampNeg v4) (((gA b 48) (Int32.toNatClampNeg v4)) &&& (((1 : Int32) <<< (q205 &&& 31)) ^^^ (-1))))) DX8_findMost_265 e_48 rfl c265 ?_
            refine r_aload_n DX8_findMost_266 (i := 0) rfl rfl ?_
            refine r_get (v := .ref (xa g 50)) DX8_findMost_267 F_X8_32 e_44 rfl ?_
            refine r_iload DX8_findMost_270 rfl ?_
            obtain ⟨c272, e⟩ := x_grd e
            refine r_iald (f := (gA b 50)) DX8_findMost_272 e_50 rfl c272 ?_
            refine r_iconst DX8_findMost_273 (v := (-1)) (by decide) ?_
            refine r_ixor DX8_findMost_274 ?_
            refine r_iand DX8_findMost_275 ?_
            obtain ⟨c276, e⟩ := x_grd e
            refine r_iast (f := (upd (gA b 48) (Int32.toNatClampNeg v4) (((gA b 48) (Int32.toNatClampNeg v4)) &&& (((1 : Int32) <<< (q205 &&& 31)) ^^^ (-1))))) DX8_findMost_276 e_48 rfl c276 p_48 ?_
            refine r_iinc (L' := [some (.ref (xa g 44)), none, none, none, some (.int (v4 + 1)), some (.int q205)]) DX8_findMost_277 (x := v4) (v := (v4 + 1)) rfl rfl (by decide) rfl rfl ?_
            refine r_goto DX8_findMost_280 (tgt := 116) (by decide) ?_
            refine r_mask (L' := [some (.ref (xa g 44)), none, none, none, some (.int (v4 + 1)), none]) [true, false, false, false, true, false] rfl ?_
            exact ih _ _ _ e K0
          · replace e := x_iff c193 e
            refine r_iinc (L' := [some (.ref (xa g 44)), none, none, none, some (.int (v4 + (-1))), none]) DX8_findMost_196 (x := v4) (v := (v4 + (-1))) rfl rfl (by decide) rfl rfl ?_
            refine r_goto DX8_findMost_199 (tgt := 116) (by decide) ?_
            exact ih _ _ _ e K0
      · replace e := x_iff c127 e
        refine r_aload_n DX8_findMost_130 (i := 0) rfl rfl ?_
        refine r_iload DX8_findMost_131 rfl ?_
        refine r_put (ty := .int) DX8_findMost_133 F_X8_158 Fp_8_9 e_44 rfl rfl (Nat.le_of_ble_eq_true rfl) p_44_9 ?_
        refine r_iconst DX8_findMost_136 (v := 0) (by decide) ?_
        refine r_istore (L' := [some (.ref (xa g 44)), none, none, none, some (.int v4), some (.int 0)]) DX8_findMost_137 (by decide) rfl rfl ?_
        obtain ⟨q139, e139, e⟩ := x_bnd e
        refine lp_X8_findMost_L139 v4 N 0 (sI b 9 v4) q139 e139 ?_
        refine r_aload_n DX8_findMost_166 (i := 0) rfl rfl ?_
        refine r_get (v := .ref (xa g 48)) DX8_findMost_167 F_X8_26 e_44 rfl ?_
        refine r_iload DX8_findMost_170 rfl ?_
        obtain ⟨c172, e⟩ := x_grd e
        refine r_iald (f := (gA q139 48)) DX8_findMost_172 e_48 rfl c172 ?_
        refine r_if_eq DX8_findMost_173 (tgt := 196) (by decide) (fun c173 => ?_) (fun c173 => ?_)
        · replace e := x_ift c173 e
          refine r_iinc (L' := [some (.ref (xa g 44)), none, none, none, some (.int (v4 + (-1))), none]) DX8_findMost_196 (x := v4) (v := (v4 + (-1))) rfl rfl (by decide) rfl rfl ?_
          refine r_goto DX8_findMost_199 (tgt := 116) (by decide) ?_
          exact ih _ _ _ e K0
        · replace e := x_iff c173 e
          refine r_iload DX8_findMost_176 rfl ?_
          refine r_aload_n DX8_findMost_178 (i := 0) rfl rfl ?_
          refine r_get (v := .ref (xa g 48)) DX8_findMost_179 F_X8_26 e_44 rfl ?_
          refine r_iload DX8_findMost_182 rfl ?_
          obtain ⟨c184, e⟩ := x_grd e
          refine r_iald (f := (gA q139 48)) DX8_findMost_184 e_48 rfl c184 ?_
          obtain ⟨q185, e185, e⟩ := x_bnd e
          refine r_callS1 (As := [.int ((gA q139 48) (Int32.toNatClampNeg v4))]) (S := [.int v4]) DX8_findMost_185 C_X8_161 (by decide) (by decide) (Nat.le_of_ble_eq_true rfl) (t_X8_bits32 N ((gA q139 48) (Int32.toNatClampNeg v4)) e185) rfl ?_
          refine r_iadd DX8_findMost_188 ?_
          refine r_aload_n DX8_findMost_189 (i := 0) rfl rfl ?_
          refine r_get (v := .int (gI q139 9)) DX8_findMost_190 F_X8_158 e_44 rfl ?_
          refine r_icmp_gt DX8_findMost_193 (tgt := 202) (by decide) (fun c193 => ?_) (fun c193 => ?_)
          · replace e := x_ift c193 e
            refine r_iconst DX8_findMost_202 (v := 0) (by decide) ?_
            refine r_istore (L' := [some (.ref (xa g 44)), none, none, none, some (.int v4), some (.int 0)]) DX8_findMost_203 (by decide) rfl rfl ?_
            obtain ⟨q205, e205, e⟩ := x_bnd e
            refine lp_X8_findMost_L205 v4 q139 N 0 q205 e205 ?_
            refine r_aload_n DX8_findMost_226 (i := 0) rfl rfl ?_
            refine r_get (v := .ref (xa g 48)) DX8_findMost_227 F_X8_26 e_44 rfl ?_
            refine r_iload DX8_findMost_230 rfl ?_
            refine r_dup2 DX8_findMost_232 rfl rfl ?_
            obtain ⟨c233, e⟩ := x_grd e
            refine r_iald (f := (gA q139 48)) DX8_findMost_233 e_48 rfl c233 ?_
            refine r_iconst DX8_findMost_234 (v := 1) (by decide) ?_
            refine r_iload DX8_findMost_235 rfl ?_
            refine r_ishl DX8_findMost_237 ?_
            refine r_iconst DX8_findMost_238 (v := (-1)) (by decide) ?_
            refine r_ixor DX8_findMost_239 ?_
            refine r_iand DX8_findMost_240 ?_
            obtain ⟨c241, e⟩ := x_grd e
            refine r_iast (f := (gA q139 48)) DX8_findMost_241 e_48 rfl c241 p_48 ?_
            refine r_aload_n DX8_findMost_242 (i := 0) rfl rfl ?_
            refine r_get (v := .ref (xa g 47)) DX8_findMost_243 F_X8_23 e_44 rfl ?_
            refine r_iload DX8_findMost_246 rfl ?_
            refine r_iload DX8_findMost_248 rfl ?_
            obtain ⟨c250, e⟩ := x_grd e
            refine r_iast (f := (gA q139 47)) DX8_findMost_250 e_47 rfl c250 p_47 ?_
            refine r_aload_n DX8_findMost_251 (i := 0) rfl rfl ?_
            refine r_get (v := .ref (xa g 48)) DX8_findMost_252 F_X8_26 e_44 rfl ?_
            refine r_iload DX8_findMost_255 rfl ?_
            refine r_iconst DX8_findMost_257 (v := 1) (by decide) ?_
            refine r_iadd DX8_findMost_258 ?_
            refine r_aload_n DX8_findMost_259 (i := 0) rfl rfl ?_
            refine r_get (v := .ref (xa g 48)) DX8_findMost_260 F_X8_26 e_44 rfl ?_
            refine r_iload DX8_findMost_263 rfl ?_
            obtain ⟨c265, e⟩ := x_grd e
            refine r_iald (f := (upd (gA q139 48) (Int32.toNatClampNeg v4) (((gA q139 48) (Int32.toNatClampNeg v4)) &&& (((1 : Int32) <<< (q205 &&& 31)) ^^^ (-1))))) DX8_findMost_265 e_48 rfl c265 ?_
            refine r_aload_n DX8_findMost_266 (i := 0) rfl rfl ?_
            refine r_get (v := .ref (xa g 50)) DX8_findMost_267 F_X8_32 e_44 rfl ?_
            refine r_iload DX8_findMost_270 rfl ?_
            obtain ⟨c272, e⟩ := x_grd e
            refine r_iald (f := (gA q139 50)) DX8_findMost_272 e_50 rfl c272 ?_
            refine r_iconst DX8_findMost_273 (v := (-1)) (by decide) ?_
            refine r_ixor DX8_findMost_274 ?_
            refine r_iand DX8_findMost_275 ?_
            obtain ⟨c276, e⟩ := x_grd e
            refine r_iast (f := (upd (gA q139 48) (Int32.toNatClampNeg v4) (((gA q139 48) (Int32.toNatClampNeg v4)) &&& (((1 : Int32) <<< (q205 &&& 31)) ^^^ (-1))))) DX8_findMost_276 e_48 rfl c276 p_48 ?_
            refine r_iinc (L' := [some (.ref (xa g 44)), none, none, none, some (.int (v4 + 1)), some (.int q205)]) DX8_findMost_277 (x := v4) (v := (v4 + 1)) rfl rfl (by decide) rfl rfl ?_
            refine r_goto DX8_findMost_280 (tgt := 116) (by decide) ?_
            refine r_mask (L' := [some (.ref (xa g 44)), none, none, none, some (.int (v4 + 1)), none]) [true, false, false, false, true, false] rfl ?_
            exact ih _ _ _ e K0
          · replace e := x_iff c193 e
            refine r_iinc (L' := [some (.ref (xa g 44)), none, none, none, some (.int (v4 + (-1))), none]) DX8_findMost_196 (x := v4) (v := (v4 + (-1))) rfl rfl (by decide) rfl rfl ?_
            refine r_goto DX8_findMost_199 (tgt := 116) (by decide) ?_
            exact ih _ _ _ e K0

set_option maxRecDepth 100000 in
set_option maxHeartbeats 4000000 in
theorem t_X8_findMost {l : Launch} {g : xG} {a : xT} (N : Nat) (v1 : Int32) (b : xT)  {r : xT} (e : f_X8_findMost N v1 b = some r) : Ev l g 3 yX8_findMost M_X8_findMost [.ref (xa g 44), .int v1] (a, b) (none, (a, r)) := by
  unfold f_X8_findMost at e
  refine Ev.of 4 (L0 := [some (.ref (xa g 44)), some (.int v1), none, none, none, none]) (by decide) rfl (Nat.le_of_ble_eq_true rfl) rfl ?_
  refine r_iconst DX8_findMost_0 (v := 1) (by decide) ?_
  refine r_aload_n DX8_findMost_1 (i := 0) rfl rfl ?_
  refine r_get (v := .int (gI b 0)) DX8_findMost_2 F_X8_7 e_44 rfl ?_
  refine r_ishl DX8_findMost_5 ?_
  refine r_istore_n (L' := [some (.ref (xa g 44)), some (.int v1), some (.int ((1 : Int32) <<< ((gI b 0) &&& 31))), none, none, none]) DX8_findMost_6 (i := 2) rfl (by decide) rfl rfl ?_
  refine r_iconst DX8_findMost_7 (v := 0) (by decide) ?_
  refine r_istore_n (L' := [some (.ref (xa g 44)), some (.int v1), some (.int ((1 : Int32) <<< ((gI b 0) &&& 31))), some (.int 0), none, none]) DX8_findMost_8 (i := 3) rfl (by decide) rfl rfl ?_
  refine r_iconst DX8_findMost_9 (v := 0) (by decide) ?_
  refine r_istore (L' := [some (.ref (xa g 44)), some (.int v1), some (.int ((1 : Int32) <<< ((gI b 0) &&& 31))), some (.int 0), some (.int 0), none]) DX8_findMost_10 (by decide) rfl rfl ?_
  obtain ⟨q12, e12, e⟩ := x_bnd e
  refine lp_X8_findMost_L12 N v1 ((1 : Int32) <<< ((gI b 0) &&& 31)) N 0 0 b q12 e12 ?_
  refine r_aload_n DX8_findMost_101 (i := 0) rfl rfl ?_
  refine r_iconst DX8_findMost_102 (v := 0) (by decide) ?_
  refine r_put (ty := .int) DX8_findMost_103 F_X8_158 Fp_8_9 e_44 rfl rfl (Nat.le_of_ble_eq_true rfl) p_44_9 ?_
  refine r_iconst DX8_findMost_106 (v := 0) (by decide) ?_
  refine r_istore (L' := [some (.ref (xa g 44)), none, none, some (.int (q12.1)), some (.int 0), none]) DX8_findMost_107 (by decide) rfl rfl ?_
  refine r_aload_n DX8_findMost_109 (i := 0) rfl rfl ?_
  refine r_get (v := .ref (xa g 48)) DX8_findMost_110 F_X8_26 e_44 rfl ?_
  refine r_iconst DX8_findMost_113 (v := 0) (by decide) ?_
  refine r_iload_n DX8_findMost_114 (i := 3) rfl rfl ?_
  obtain ⟨c115, e⟩ := x_grd e
  refine r_iast (f := (gA (q12.2) 48)) DX8_findMost_115 e_48 rfl c115 p_48 ?_
  obtain ⟨q116, e116, e⟩ := x_bnd e
  refine r_mask (L' := [some (.ref (xa g 44)), none, none, none, some (.int 0), none]) [true, false, false, false, true, false] rfl ?_
  refine lp_X8_findMost_L116 N N 0 (sA (sI (q12.2) 9 0) 48 (upd (gA (q12.2) 48) (Int32.toNatClampNeg 0) (q12.1))) q116 e116 ?_
  obtain rfl := Option.some.inj e
  exact r_vret DX8_findMost_283 rfl rfl

set_option maxRecDepth 100000 in
set_option maxHeartbeats 4000000 in
theorem lp_X8_goOn_L7 {l : Launch} {g : xG} {a : xT} {R : Option Value × xS} (v1 : Int32) (v2 : Int32) (b : xT) : ∀ (n : Nat) (v3 : Int32) (r : (Int32)), f_X8_goOn_L7 v1 v2 b n v3 = some r → Rx l g 0 M_X8_goOn 39 [some (.ref (xa g 44)), some (.int v1), some (.int v2), some (.int r), none] [] (a, b) R → Rx l g 0 M_X8_goOn 7 [some (.ref (xa g 44)), some (.int v1), some (.int v2), some (.int v3), none] [] (a, b) R := by
  intro n
  induction n with
  | zero => intro v3_ r_ e; cases e
  | succ n ih =>
    intro v3 r e K0
    rw [f_X8_goOn_L7] at e
    refine r_iload_n DX8_goOn_7 (i := 3) rfl rfl ?_
    refine r_if_lt DX8_goOn_8 (tgt := 39) (by decide) (fun c8 => ?_) (fun c8 => ?_)
    · replace e := x_ift c8 e
      obtain rfl := Option.some.inj e
      exact K0
    · replace e := x_iff c8 e
      refine r_aload_n DX8_goOn_11 (i := 0) rfl rfl ?_
      refine r_get (v := .ref (xa g 59)) DX8_goOn_12 F_X8_64 e_44 rfl ?_
      refine r_iload_n DX8_goOn_15 (i := 3) rfl rfl ?_
      obtain ⟨c16, e⟩ := x_grd e
      refine r_iald (f := (gA b 59)) DX8_goOn_16 e_59 rfl c16 ?_
      refine r_aload_n DX8_goOn_17 (i := 0) rfl rfl ?_
      refine r_get (v := .ref (xa g 45)) DX8_goOn_18 F_X8_16 e_44 rfl ?_
      refine r_iload_n DX8_goOn_21 (i := 1) rfl rfl ?_
      obtain ⟨c22, e⟩ := x_grd e
      refine r_iald (f := (gA b 45)) DX8_goOn_22 e_45 rfl c22 ?_
      refine r_aload_n DX8_goOn_23 (i := 0) rfl rfl ?_
      refine r_get (v := .int (gI b 31)) DX8_goOn_24 F_X8_283 e_44 rfl ?_
      refine r_isub DX8_goOn_27 ?_
      refine r_iload_n DX8_goOn_28 (i := 3) rfl rfl ?_
      refine r_iadd DX8_goOn_29 ?_
      refine r_icmp_lt DX8_goOn_30 (tgt := 39) (by decide) (fun c30 => ?_) (fun c30 => ?_)
      · replace e := x_ift c30 e
        obtain rfl := Option.some.inj e
        exact K0
      · replace e := x_iff c30 e
        refine r_iinc (L' := [some (.ref (xa g 44)), some (.int v1), some (.int v2), some (.int (v3 + (-1))), none]) DX8_goOn_33 (x := v3) (v := (v3 + (-1))) rfl rfl (by decide) rfl rfl ?_
        refine r_goto DX8_goOn_36 (tgt := 7) (by decide) ?_
        exact ih _ _ e K0

set_option maxRecDepth 100000 in
set_option maxHeartbeats 4000000 in
theorem lp_X8_goOn_L112 {l : Launch} {g : xG} {a : xT} {R : Option Value × xS} (v1 : Int32) (v2 : Int32) : ∀ (n : Nat) (v4 : Int32) (b : xT) (r : (xT)), f_X8_goOn_L112 v1 v2 n v4 b = some r → Rx l g 0 M_X8_goOn 153 [some (.ref (xa g 44)), some (.int v1), some (.int v2), none, none] [] (a, r) R → Rx l g 0 M_X8_goOn 112 [some (.ref (xa g 44)), some (.int v1), some (.int v2), none, some (.int v4)] [] (a, b) R := by
  intro n
  induction n with
  | zero => intro v4_ s_ r_ e; cases e
  | succ n ih =>
    intro v4 b r e K0
    rw [f_X8_goOn_L112] at e
    refine r_iload DX8_goOn_112 rfl ?_
    refine r_aload_n DX8_goOn_114 (i := 0) rfl rfl ?_
    refine r_get (v := .int (gI b 31)) DX8_goOn_115 F_X8_283 e_44 rfl ?_
    refine r_icmp_ge DX8_goOn_118 (tgt := 153) (by decide) (fun c118 => ?_) (fun c118 => ?_)
    · replace e := x_ift c118 e
      obtain rfl := Option.some.inj e
      refine r_mask (L' := [some (.ref (xa g 44)), some (.int v1), some (.int v2), none, none]) [true, true, true, false, false] rfl ?_
      exact K0
    · replace e := x_iff c118 e
      refine r_aload_n DX8_goOn_121 (i := 0) rfl rfl ?_
      refine r_get (v := .int (gI b 31)) DX8_goOn_122 F_X8_283 e_44 rfl ?_
      refine r_iconst DX8_goOn_125 (v := 4) (by decide) ?_
      refine r_icmp_ge DX8_goOn_126 (tgt := 153) (by decide) (fun c126 => ?_) (fun c126 => ?_)
      · replace e := x_ift c126 e
        obtain rfl := Option.some.inj e
        refine r_mask (L' := [some (.ref (xa g 44)), some (.int v1), some (.int v2), none, none]) [true, true, true, false, false] rfl ?_
        exact K0
      · replace e := x_iff c126 e
        refine r_aload_n DX8_goOn_129 (i := 0) rfl rfl ?_
        refine r_get (v := .ref (xa g 59)) DX8_goOn_130 F_X8_64 e_44 rfl ?_
        refine r_iload DX8_goOn_133 rfl ?_
        refine r_aload_n DX8_goOn_135 (i := 0) rfl rfl ?_
        refine r_get (v := .ref (xa g 59)) DX8_goOn_136 F_X8_64 e_44 rfl ?_
        refine r_iload DX8_goOn_139 rfl ?_
        refine r_iconst DX8_goOn_141 (v := 1) (by decide) ?_
        refine r_isub DX8_goOn_142 ?_
        obtain ⟨c143, e⟩ := x_grd e
        refine r_iald (f := (gA b 59)) DX8_goOn_143 e_59 rfl c143 ?_
        refine r_iconst DX8_goOn_144 (v := 1) (by decide) ?_
        refine r_iadd DX8_goOn_145 ?_
        obtain ⟨c146, e⟩ := x_grd e
        refine r_iast (f := (gA b 59)) DX8_goOn_146 e_59 rfl c146 p_59 ?_
        refine r_iinc (L' := [some (.ref (xa g 44)), some (.int v1), some (.int v2), none, some (.int (v4 + 1))]) DX8_goOn_147 (x := v4) (v := (v4 + 1)) rfl rfl (by decide) rfl rfl ?_
        refine r_goto DX8_goOn_150 (tgt := 112) (by decide) ?_
        exact ih _ _ _ e K0

set_option maxRecDepth 100000 in
set_option maxHeartbeats 4000000 in
theorem t_X8_goOn {l : Launch} {g : xG} {a : xT} (N : Nat) (v1 : Int32) (v2 : Int32) (b : xT)  {r : (Int32 × xT)} (e : f_X8_goOn N v1 v2 b = some r) : Ev l g 0 yX8_goOn M_X8_goOn [.ref (xa g 44), .int v1, .int v2] (a, b) (some (.int r.1), (a, r.2)) := by
  unfold f_X8_goOn at e
  refine Ev.of 2 (L0 := [some (.ref (xa g 44)), some (.int v1), some (.int v2), none, none]) (by decide) rfl (Nat.le_of_ble_eq_true rfl) rfl ?_
  refine r_aload_n DX8_goOn_0 (i := 0) rfl rfl ?_
  refine r_get (v := .int (gI b 31)) DX8_goOn_1 F_X8_283 e_44 rfl ?_
  refine r_iconst DX8_goOn_4 (v := 1) (by decide) ?_
  refine r_isub DX8_goOn_5 ?_
  refine r_istore_n (L' := [some (.ref (xa g 44)), some (.int v1), some (.int v2), some (.int ((gI b 31) - 1)), none]) DX8_goOn_6 (i := 3) rfl (by decide) rfl rfl ?_
  obtain ⟨q7, e7, e⟩ := x_bnd e
  refine lp_X8_goOn_L7 v1 v2 b N ((gI b 31) - 1) q7 e7 ?_
  refine r_aload_n DX8_goOn_39 (i := 0) rfl rfl ?_
  refine r_get (v := .ref (xa g 59)) DX8_goOn_40 F_X8_64 e_44 rfl ?_
  refine r_iconst DX8_goOn_43 (v := 0) (by decide) ?_
  obtain ⟨c44, e⟩ := x_grd e
  refine r_iald (f := (gA b 59)) DX8_goOn_44 e_59 rfl c44 ?_
  refine r_iconst DX8_goOn_45 (v := (-1)) (by decide) ?_
  refine r_icmp_ne DX8_goOn_46 (tgt := 71) (by decide) (fun c46 => ?_) (fun c46 => ?_)
  · replace e := x_iff c46 e
    refine r_iload_n DX8_goOn_71 (i := 3) rfl rfl ?_
    refine r_if_lt DX8_goOn_72 (tgt := 88) (by decide) (fun c72 => ?_) (fun c72 => ?_)
    · replace e := x_ift c72 e
      refine r_aload_n DX8_goOn_88 (i := 0) rfl rfl ?_
      refine r_dup DX8_goOn_89 rfl ?_
      refine r_get (v := .int (gI b 31)) DX8_goOn_90 F_X8_283 e_44 rfl ?_
      refine r_iconst DX8_goOn_93 (v := 1) (by decide) ?_
      refine r_iadd DX8_goOn_94 ?_
      refine r_put (ty := .int) DX8_goOn_95 F_X8_283 Fp_8_31 e_44 rfl rfl (Nat.le_of_ble_eq_true rfl) p_44_31 ?_
      refine r_aload_n DX8_goOn_98 (i := 0) rfl rfl ?_
      refine r_get (v := .ref (xa g 59)) DX8_goOn_99 F_X8_64 e_44 rfl ?_
      refine r_iconst DX8_goOn_102 (v := 0) (by decide) ?_
      refine r_iconst DX8_goOn_103 (v := 0) (by decide) ?_
      obtain ⟨c104, e⟩ := x_grd e
      refine r_iast (f := (gA b 59)) DX8_goOn_104 e_59 rfl c104 p_59 ?_
      refine r_iconst DX8_goOn_105 (v := 0) (by decide) ?_
      refine r_istore_n (L' := [some (.ref (xa g 44)), some (.int v1), some (.int v2), some (.int 0), none]) DX8_goOn_106 (i := 3) rfl (by decide) rfl rfl ?_
      refine r_iload_n DX8_goOn_107 (i := 3) rfl rfl ?_
      refine r_iconst DX8_goOn_108 (v := 1) (by decide) ?_
      refine r_iadd DX8_goOn_109 ?_
      refine r_istore (L' := [some (.ref (xa g 44)), some (.int v1), some (.int v2), some (.int 0), some (.int (0 + 1))]) DX8_goOn_110 (by decide) rfl rfl ?_
      obtain ⟨q112, e112, e⟩ := x_bnd e
      refine r_mask (L' := [some (.ref (xa g 44)), some (.int v1), some (.int v2), none, some (.int (0 + 1))]) [true, true, true, false, true] rfl ?_
      refine lp_X8_goOn_L112 v1 v2 N (0 + 1) (sA (sI b 31 ((gI b 31) + 1)) 59 (upd (gA b 59) (Int32.toNatClampNeg 0) 0)) q112 e112 ?_
      refine r_aload_n DX8_goOn_153 (i := 0) rfl rfl ?_
      refine r_get (v := .int (gI q112 31)) DX8_goOn_154 F_X8_283 e_44 rfl ?_
      refine r_iload_n DX8_goOn_157 (i := 2) rfl rfl ?_
      refine r_icmp_gt DX8_goOn_158 (tgt := 178) (by decide) (fun c158 => ?_) (fun c158 => ?_)
      · replace e := x_ift c158 e
        refine r_iconst DX8_goOn_178 (v := 0) (by decide) ?_
        obtain rfl := Option.some.inj e
        exact r_zret DX8_goOn_179 rfl (by decide) rfl
      · replace e := x_iff c158 e
        refine r_aload_n DX8_goOn_161 (i := 0) rfl rfl ?_
        refine r_get (v := .int (gI q112 31)) DX8_goOn_162 F_X8_283 e_44 rfl ?_
        refine r_aload_n DX8_goOn_165 (i := 0) rfl rfl ?_
        refine r_get (v := .ref (xa g 45)) DX8_goOn_166 F_X8_16 e_44 rfl ?_
        refine r_iload_n DX8_goOn_169 (i := 1) rfl rfl ?_
        obtain ⟨c170, e⟩ := x_grd e
        refine r_iald (f := (gA q112 45)) DX8_goOn_170 e_45 rfl c170 ?_
        refine r_icmp_gt DX8_goOn_171 (tgt := 178) (by decide) (fun c171 => ?_) (fun c171 => ?_)
        · replace e := x_ift c171 e
          refine r_iconst DX8_goOn_178 (v := 0) (by decide) ?_
          obtain rfl := Option.some.inj e
          exact r_zret DX8_goOn_179 rfl (by decide) rfl
        · replace e := x_iff c171 e
          refine r_iconst DX8_goOn_174 (v := 1) (by decide) ?_
          refine r_goto DX8_goOn_175 (tgt := 179) (by decide) ?_
          obtain rfl := Option.some.inj e
          exact r_zret DX8_goOn_179 rfl (by decide) rfl
    · replace e := x_iff c72 e
      refine r_aload_n DX8_goOn_75 (i := 0) rfl rfl ?_
      refine r_get (v := .ref (xa g 59)) DX8_goOn_76 F_X8_64 e_44 rfl ?_
      refine r_iload_n DX8_goOn_79 (i := 3) rfl rfl ?_
      refine r_dup2 DX8_goOn_80 rfl rfl ?_
      obtain ⟨c81, e⟩ := x_grd e
      refine r_iald (f := (gA b 59)) DX8_goOn_81 e_59 rfl c81 ?_
      refine r_iconst DX8_goOn_82 (v := 1) (by decide) ?_
      refine r_iadd DX8_goOn_83 ?_
      obtain ⟨c84, e⟩ := x_grd e
      refine r_iast (f := (gA b 59)) DX8_goOn_84 e_59 rfl c84 p_59 ?_
      refine r_goto DX8_goOn_85 (tgt := 107) (by decide) ?_
      refine r_iload_n DX8_goOn_107 (i := 3) rfl rfl ?_
      refine r_iconst DX8_goOn_108 (v := 1) (by decide) ?_
      refine r_iadd DX8_goOn_109 ?_
      refine r_istore (L' := [some (.ref (xa g 44)), some (.int v1), some (.int v2), some (.int q7), some (.int (q7 + 1))]) DX8_goOn_110 (by decide) rfl rfl ?_
      obtain ⟨q112, e112, e⟩ := x_bnd e
      refine r_mask (L' := [some (.ref (xa g 44)), some (.int v1), some (.int v2), none, some (.int (q7 + 1))]) [true, true, true, false, true] rfl ?_
      refine lp_X8_goOn_L112 v1 v2 N (q7 + 1) (sA b 59 (upd (gA b 59) (Int32.toNatClampNeg q7) (((gA b 59) (Int32.toNatClampNeg q7)) + 1))) q112 e112 ?_
      refine r_aload_n DX8_goOn_153 (i := 0) rfl rfl ?_
      refine r_get (v := .int (gI q112 31)) DX8_goOn_154 F_X8_283 e_44 rfl ?_
      refine r_iload_n DX8_goOn_157 (i := 2) rfl rfl ?_
      refine r_icmp_gt DX8_goOn_158 (tgt := 178) (by decide) (fun c158 => ?_) (fun c158 => ?_)
      · replace e := x_ift c158 e
        refine r_iconst DX8_goOn_178 (v := 0) (by decide) ?_
        obtain rfl := Option.some.inj e
        exact r_zret DX8_goOn_179 rfl (by decide) rfl
      · replace e := x_iff c158 e
        refine r_aload_n DX8_goOn_161 (i := 0) rfl rfl ?_
        refine r_get (v := .int (gI q112 31)) DX8_goOn_162 F_X8_283 e_44 rfl ?_
        refine r_aload_n DX8_goOn_165 (i := 0) rfl rfl ?_
        refine r_get (v := .ref (xa g 45)) DX8_goOn_166 F_X8_16 e_44 rfl ?_
        refine r_iload_n DX8_goOn_169 (i := 1) rfl rfl ?_
        obtain ⟨c170, e⟩ := x_grd e
        refine r_iald (f := (gA q112 45)) DX8_goOn_170 e_45 rfl c170 ?_
        refine r_icmp_gt DX8_goOn_171 (tgt := 178) (by decide) (fun c171 => ?_) (fun c171 => ?_)
        · replace e := x_ift c171 e
          refine r_iconst DX8_goOn_178 (v := 0) (by decide) ?_
          obtain rfl := Option.some.inj e
          exact r_zret DX8_goOn_179 rfl (by decide) rfl
        · replace e := x_iff c171 e
          refine r_iconst DX8_goOn_174 (v := 1) (by decide) ?_
          refine r_goto DX8_goOn_175 (tgt := 179) (by decide) ?_
          obtain rfl := Option.some.inj e
          exact r_zret DX8_goOn_179 rfl (by decide) rfl
  · replace e := x_ift c46 e
    refine r_aload_n DX8_goOn_49 (i := 0) rfl rfl ?_
    refine r_get (v := .ref (xa g 59)) DX8_goOn_50 F_X8_64 e_44 rfl ?_
    refine r_iconst DX8_goOn_53 (v := 0) (by decide) ?_
    refine r_iconst DX8_goOn_54 (v := 0) (by decide) ?_
    obtain ⟨c55, e⟩ := x_grd e
    refine r_iast (f := (gA b 59)) DX8_goOn_55 e_59 rfl c55 p_59 ?_
    refine r_aload_n DX8_goOn_56 (i := 0) rfl rfl ?_
    refine r_get (v := .ref (xa g 45)) DX8_goOn_57 F_X8_16 e_44 rfl ?_
    refine r_iload_n DX8_goOn_60 (i := 1) rfl rfl ?_
    obtain ⟨c61, e⟩ := x_grd e
    refine r_iald (f := (gA b 45)) DX8_goOn_61 e_45 rfl c61 ?_
    refine r_if_le DX8_goOn_62 (tgt := 69) (by decide) (fun c62 => ?_) (fun c62 => ?_)
    · replace e := x_ift c62 e
      refine r_iconst DX8_goOn_69 (v := 0) (by decide) ?_
      obtain rfl := Option.some.inj e
      exact r_zret DX8_goOn_70 rfl (by decide) rfl
    · replace e := x_iff c62 e
      refine r_iconst DX8_goOn_65 (v := 1) (by decide) ?_
      refine r_goto DX8_goOn_66 (tgt := 70) (by decide) ?_
      obtain rfl := Option.some.inj e
      exact r_zret DX8_goOn_70 rfl (by decide) rfl

set_option maxRecDepth 100000 in
set_option maxHeartbeats 4000000 in
theorem lp_X8_findRings_L53 {l : Launch} {g : xG} {a : xT} {R : Option Value × xS} (v1 : Int32) (v2 : Int32) (v3 : Int32) (b : xT) : ∀ (n : Nat) (v4 : Int64) (v6 : Int32) (r : (Int64)), f_X8_findRings_L53 v1 v2 v3 b n v4 v6 = some r → Rx l g 2 M_X8_findRings 82 [some (.ref (xa g 44)), some (.int v1), some (.int v2), some (.int v3), some (.long r), none, none] [] (a, b) R → Rx l g 2 M_X8_findRings 53 [some (.ref (xa g 44)), some (.int v1), some (.int v2), some (.int v3), some (.long v4), none, some (.int v6)] [] (a, b) R := by
  intro n
  induction n with
  | zero => intro v4_ v6_ r_ e; cases e
  | succ n ih =>
    intro v4 v6 r e K0
    rw [f_X8_findRings_L53] at e
    refine r_iload DX8_findRings_53 rfl ?_
    refine r_aload_n DX8_findRings_55 (i := 0) rfl rfl ?_
    refine r_get (v := .int (gI b 31)) DX8_findRings_56 F_X8_283 e_44 rfl ?_
    refine r_icmp_ge DX8_findRings_59 (tgt := 82) (by decide) (fun c59 => ?_) (fun c59 => ?_)
    · replace e := x_ift c59 e
      obtain rfl := Option.some.inj e
      refine r_mask (L' := [some (.ref (xa g 44)), some (.int v1), some (.int v2), some (.int v3), some (.long v4), none, none]) [true, true, true, true, true, false, false] rfl ?_
      exact K0
    · replace e := x_iff c59 e
      refine r_lload DX8_findRings_62 rfl ?_
      refine r_lconst DX8_findRings_64 (v := 1) (by decide) ?_
      refine r_aload_n DX8_findRings_65 (i := 0) rfl rfl ?_
      refine r_get (v := .ref (xa g 59)) DX8_findRings_66 F_X8_64 e_44 rfl ?_
      refine r_iload DX8_findRings_69 rfl ?_
      obtain ⟨c71, e⟩ := x_grd e
      refine r_iald (f := (gA b 59)) DX8_findRings_71 e_59 rfl c71 ?_
      refine r_lshl DX8_findRings_72 ?_
      refine r_lor DX8_findRings_73 ?_
      obtain ⟨w74, e74, e⟩ := x_bnd e
      refine r_lstoreB (L' := [some (.ref (xa g 44)), some (.int v1), some (.int v2), some (.int v3), some (.long w74), none, some (.int v6)]) (w := w74) DX8_findRings_74 (Option.some.inj e74) (by decide) rfl rfl ?_
      refine r_iinc (L' := [some (.ref (xa g 44)), some (.int v1), some (.int v2), some (.int v3), some (.long w74), none, some (.int (v6 + 1))]) DX8_findRings_76 (x := v6) (v := (v6 + 1)) rfl rfl (by decide) rfl rfl ?_
      refine r_goto DX8_findRings_79 (tgt := 53) (by decide) ?_
      exact ih _ _ _ e K0

set_option maxRecDepth 100000 in
set_option maxHeartbeats 4000000 in
theorem lp_X8_findRings_L21 {l : Launch} {g : xG} {a : xT} {R : Option Value × xS} (N : Nat) (v1 : Int32) (v2 : Int32) (v3 : Int32) : ∀ (n : Nat) (b : xT) (r : (xT)), f_X8_findRings_L21 N v1 v2 v3 n b = some r → Rx l g 2 M_X8_findRings 128 [some (.ref (xa g 44)), none, none, none, none, none, none] [] (a, r) R → Rx l g 2 M_X8_findRings 21 [some (.ref (xa g 44)), some (.int v1), some (.int v2), some (.int v3), none, none, none] [] (a, b) R := by
  intro n
  induction n with
  | zero => intro s_ r_ e; cases e
  | succ n ih =>
    intro b r e K0
    rw [f_X8_findRings_L21] at e
    refine r_aload_n DX8_findRings_21 (i := 0) rfl rfl ?_
    refine r_iload_n DX8_findRings_22 (i := 1) rfl rfl ?_
    refine r_iload_n DX8_findRings_23 (i := 3) rfl rfl ?_
    obtain ⟨q24, e24, e⟩ := x_bnd e
    refine r_callV1 (As := [.int v1, .int v3]) (S := []) DX8_findRings_24 C_X8_292 (ci := 8) rfl rfl e_44 (by decide) (by decide) (Nat.le_of_ble_eq_true rfl) (t_X8_goOn N v1 v3 b e24) rfl ?_
    refine r_if_eq DX8_findRings_27 (tgt := 128) (by decide) (fun c27 => ?_) (fun c27 => ?_)
    · replace e := x_ift c27 e
      obtain rfl := Option.some.inj e
      refine r_mask (L' := [some (.ref (xa g 44)), none, none, none, none, none, none]) [true, false, false, false, false, false, false] rfl ?_
      exact K0
    · replace e := x_iff c27 e
      refine r_aload_n DX8_findRings_30 (i := 0) rfl rfl ?_
      refine r_iload_n DX8_findRings_31 (i := 1) rfl rfl ?_
      obtain ⟨q32, e32, e⟩ := x_bnd e
      refine r_callV1 (As := [.int v1]) (S := []) DX8_findRings_32 C_X8_310 (ci := 8) rfl rfl e_44 (by decide) (by decide) (Nat.le_of_ble_eq_true rfl) (t_X8_common N v1 q24.2 e32) rfl ?_
      refine r_aload_n DX8_findRings_35 (i := 0) rfl rfl ?_
      refine r_iload_n DX8_findRings_36 (i := 1) rfl rfl ?_
      obtain ⟨q37, e37, e⟩ := x_bnd e
      refine r_callV1 (As := [.int v1]) (S := [.int q32]) DX8_findRings_37 C_X8_295 (ci := 8) rfl rfl e_44 (by decide) (by decide) (Nat.le_of_ble_eq_true rfl) (t_X8_all N v1 q24.2 e37) rfl ?_
      refine r_iload_n DX8_findRings_40 (i := 2) rfl rfl ?_
      obtain ⟨q41, e41, e⟩ := x_bnd e
      refine r_callS1 (As := [.int q32, .int q37, .int v2]) (S := []) DX8_findRings_41 C_X8_298 (by decide) (by decide) (Nat.le_of_ble_eq_true rfl) (t_X8_canMake q32 q37 v2 e41) rfl ?_
      refine r_if_eq DX8_findRings_44 (tgt := 21) (by decide) (fun c44 => ?_) (fun c44 => ?_)
      · replace e := x_ift c44 e
        exact ih _ _ e K0
      · replace e := x_iff c44 e
        refine r_lconst DX8_findRings_47 (v := 0) (by decide) ?_
        refine r_lstore (L' := [some (.ref (xa g 44)), some (.int v1), some (.int v2), some (.int v3), some (.long 0), none, none]) DX8_findRings_48 (by decide) rfl rfl ?_
        refine r_iconst DX8_findRings_50 (v := 0) (by decide) ?_
        refine r_istore (L' := [some (.ref (xa g 44)), some (.int v1), some (.int v2), some (.int v3), some (.long 0), none, some (.int 0)]) DX8_findRings_51 (by decide) rfl rfl ?_
        obtain ⟨q53, e53, e⟩ := x_bnd e
        refine lp_X8_findRings_L53 v1 v2 v3 q24.2 N 0 0 q53 e53 ?_
        refine r_aload_n DX8_findRings_82 (i := 0) rfl rfl ?_
        refine r_dup DX8_findRings_83 rfl ?_
        refine r_get (v := .long (gJ q24.2 34)) DX8_findRings_84 F_X8_307 e_44 rfl ?_
        refine r_lload DX8_findRings_87 rfl ?_
        refine r_land DX8_findRings_89 ?_
        refine r_put (ty := .long) DX8_findRings_90 F_X8_307 Fp_8_34 e_44 rfl rfl (Nat.le_of_ble_eq_true rfl) p_44_34 ?_
        refine r_aload_n DX8_findRings_93 (i := 0) rfl rfl ?_
        refine r_aload_n DX8_findRings_94 (i := 0) rfl rfl ?_
        refine r_get (v := .int (gI q24.2 32)) DX8_findRings_95 F_X8_301 e_44 rfl ?_
        refine r_if_ne DX8_findRings_98 (tgt := 108) (by decide) (fun c98 => ?_) (fun c98 => ?_)
        · replace e := x_iff c98 e
          refine r_aload_n DX8_findRings_108 (i := 0) rfl rfl ?_
          refine r_get (v := .int (gI q24.2 33)) DX8_findRings_109 F_X8_304 e_44 rfl ?_
          refine r_put (ty := .int) DX8_findRings_112 F_X8_304 Fp_8_33 e_44 rfl rfl (Nat.le_of_ble_eq_true rfl) p_44_33 ?_
          refine r_aload_n DX8_findRings_115 (i := 0) rfl rfl ?_
          refine r_dup DX8_findRings_116 rfl ?_
          refine r_get (v := .int (gI q24.2 32)) DX8_findRings_117 F_X8_301 e_44 rfl ?_
          refine r_iconst DX8_findRings_120 (v := 1) (by decide) ?_
          refine r_iadd DX8_findRings_121 ?_
          refine r_put (ty := .int) DX8_findRings_122 F_X8_301 Fp_8_32 e_44 rfl rfl (Nat.le_of_ble_eq_true rfl) p_44_32 ?_
          refine r_goto DX8_findRings_125 (tgt := 21) (by decide) ?_
          refine r_mask (L' := [some (.ref (xa g 44)), some (.int v1), some (.int v2), some (.int v3), none, none, none]) [true, true, true, true, false, false, false] rfl ?_
          exact ih _ _ e K0
        · replace e := x_ift c98 e
          refine r_aload_n DX8_findRings_101 (i := 0) rfl rfl ?_
          refine r_get (v := .int (gI q24.2 31)) DX8_findRings_102 F_X8_283 e_44 rfl ?_
          refine r_goto DX8_findRings_105 (tgt := 112) (by decide) ?_
          refine r_put (ty := .int) DX8_findRings_112 F_X8_304 Fp_8_33 e_44 rfl rfl (Nat.le_of_ble_eq_true rfl) p_44_33 ?_
          refine r_aload_n DX8_findRings_115 (i := 0) rfl rfl ?_
          refine r_dup DX8_findRings_116 rfl ?_
          refine r_get (v := .int (gI q24.2 32)) DX8_findRings_117 F_X8_301 e_44 rfl ?_
          refine r_iconst DX8_findRings_120 (v := 1) (by decide) ?_
          refine r_iadd DX8_findRings_121 ?_
          refine r_put (ty := .int) DX8_findRings_122 F_X8_301 Fp_8_32 e_44 rfl rfl (Nat.le_of_ble_eq_true rfl) p_44_32 ?_
          refine r_goto DX8_findRings_125 (tgt := 21) (by decide) ?_
          refine r_mask (L' := [some (.ref (xa g 44)), some (.int v1), some (.int v2), some (.int v3), none, none, none]) [true, true, true, true, false, false, false] rfl ?_
          exact ih _ _ e K0

set_option maxRecDepth 100000 in
set_option maxHeartbeats 4000000 in
theorem t_X8_findRings {l : Launch} {g : xG} {a : xT} (N : Nat) (v1 : Int32) (v2 : Int32) (v3 : Int32) (b : xT)  {r : xT} (e : f_X8_findRings N v1 v2 v3 b = some r) : Ev l g 2 yX8_findRings M_X8_findRings [.ref (xa g 44), .int v1, .int v2, .int v3] (a, b) (none, (a, r)) := by
  unfold f_X8_findRings at e
  refine Ev.of 3 (L0 := [some (.ref (xa g 44)), some (.int v1), some (.int v2), some (.int v3), none, none, none]) (by decide) rfl (Nat.le_of_ble_eq_true rfl) rfl ?_
  refine r_aload_n DX8_findRings_0 (i := 0) rfl rfl ?_
  refine r_iconst DX8_findRings_1 (v := 0) (by decide) ?_
  refine r_put (ty := .int) DX8_findRings_2 F_X8_301 Fp_8_32 e_44 rfl rfl (Nat.le_of_ble_eq_true rfl) p_44_32 ?_
  refine r_aload_n DX8_findRings_5 (i := 0) rfl rfl ?_
  refine r_iconst DX8_findRings_6 (v := (-1)) (by decide) ?_
  refine r_put (ty := .int) DX8_findRings_7 F_X8_304 Fp_8_33 e_44 rfl rfl (Nat.le_of_ble_eq_true rfl) p_44_33 ?_
  refine r_aload_n DX8_findRings_10 (i := 0) rfl rfl ?_
  refine r_ldc2 DX8_findRings_11 K_X8_164 ?_
  refine r_put (ty := .long) DX8_findRings_14 F_X8_307 Fp_8_34 e_44 rfl rfl (Nat.le_of_ble_eq_true rfl) p_44_34 ?_
  refine r_aload_n DX8_findRings_17 (i := 0) rfl rfl ?_
  obtain ⟨q18, e18, e⟩ := x_bnd e
  refine r_callV0 (As := []) (S := []) DX8_findRings_18 C_X8_289 (ci := 8) rfl rfl e_44 (by decide) (by decide) (Nat.le_of_ble_eq_true rfl) (t_X8_begin (sJ (sI (sI b 32 0) 33 (-1)) 34 (-1)) e18) rfl ?_
  obtain ⟨q21, e21, e⟩ := x_bnd e
  refine lp_X8_findRings_L21 N v1 v2 v3 N q18 q21 e21 ?_
  refine r_aload_n DX8_findRings_128 (i := 0) rfl rfl ?_
  refine r_aload_n DX8_findRings_129 (i := 0) rfl rfl ?_
  refine r_get (v := .int (gI q21 32)) DX8_findRings_130 F_X8_301 e_44 rfl ?_
  refine r_if_ne DX8_findRings_133 (tgt := 140) (by decide) (fun c133 => ?_) (fun c133 => ?_)
  · replace e := x_iff c133 e
    refine r_aload_n DX8_findRings_140 (i := 0) rfl rfl ?_
    refine r_get (v := .long (gJ q21 34)) DX8_findRings_141 F_X8_307 e_44 rfl ?_
    refine r_put (ty := .long) DX8_findRings_144 F_X8_307 Fp_8_34 e_44 rfl rfl (Nat.le_of_ble_eq_true rfl) p_44_34 ?_
    obtain rfl := Option.some.inj e
    exact r_vret DX8_findRings_147 rfl rfl
  · replace e := x_ift c133 e
    refine r_lconst DX8_findRings_136 (v := 0) (by decide) ?_
    refine r_goto DX8_findRings_137 (tgt := 144) (by decide) ?_
    refine r_put (ty := .long) DX8_findRings_144 F_X8_307 Fp_8_34 e_44 rfl rfl (Nat.le_of_ble_eq_true rfl) p_44_34 ?_
    obtain rfl := Option.some.inj e
    exact r_vret DX8_findRings_147 rfl rfl

set_option maxRecDepth 100000 in
set_option maxHeartbeats 4000000 in
theorem lp_X8_isPicked_L4 {l : Launch} {g : xG} {a : xT} {R : Option Value × xS} (v1 : Int32) (b : xT) : ∀ (n : Nat) (v2 : Int32) (v3 : Int32) (r : (Int32)), f_X8_isPicked_L4 v1 b n v2 v3 = some r → Rx l g 0 M_X8_isPicked 38 [none, none, some (.int r), none] [] (a, b) R → Rx l g 0 M_X8_isPicked 4 [some (.ref (xa g 44)), some (.int v1), some (.int v2), some (.int v3)] [] (a, b) R := by
  intro n
  induction n with
  | zero => intro v2_ v3_ r_ e; cases e
  | succ n ih =>
    intro v2 v3 r e K0
    rw [f_X8_isPicked_L4] at e
    refine r_iload_n DX8_isPicked_4 (i := 3) rfl rfl ?_
    refine r_aload_n DX8_isPicked_5 (i := 0) rfl rfl ?_
    refine r_get (v := .int (gI b 31)) DX8_isPicked_6 F_X8_283 e_44 rfl ?_
    refine r_icmp_ge DX8_isPicked_9 (tgt := 38) (by decide) (fun c9 => ?_) (fun c9 => ?_)
    · replace e := x_ift c9 e
      obtain rfl := Option.some.inj e
      refine r_mask (L' := [none, none, some (.int v2), none]) [false, false, true, false] rfl ?_
      exact K0
    · replace e := x_iff c9 e
      refine r_iload_n DX8_isPicked_12 (i := 2) rfl rfl ?_
      refine r_if_ne DX8_isPicked_13 (tgt := 26) (by decide) (fun c13 => ?_) (fun c13 => ?_)
      · replace e := x_iff c13 e
        refine r_iconst DX8_isPicked_26 (v := 1) (by decide) ?_
        refine r_goto DX8_isPicked_27 (tgt := 31) (by decide) ?_
        refine r_istore_n (L' := [some (.ref (xa g 44)), some (.int v1), some (.int 1), some (.int v3)]) DX8_isPicked_31 (i := 2) rfl (by decide) rfl rfl ?_
        refine r_iinc (L' := [some (.ref (xa g 44)), some (.int v1), some (.int 1), some (.int (v3 + 1))]) DX8_isPicked_32 (x := v3) (v := (v3 + 1)) rfl rfl (by decide) rfl rfl ?_
        refine r_goto DX8_isPicked_35 (tgt := 4) (by decide) ?_
        exact ih _ _ _ e K0
      · replace e := x_ift c13 e
        refine r_aload_n DX8_isPicked_16 (i := 0) rfl rfl ?_
        refine r_get (v := .ref (xa g 59)) DX8_isPicked_17 F_X8_64 e_44 rfl ?_
        refine r_iload_n DX8_isPicked_20 (i := 3) rfl rfl ?_
        obtain ⟨c21, e⟩ := x_grd e
        refine r_iald (f := (gA b 59)) DX8_isPicked_21 e_59 rfl c21 ?_
        refine r_iload_n DX8_isPicked_22 (i := 1) rfl rfl ?_
        refine r_icmp_ne DX8_isPicked_23 (tgt := 30) (by decide) (fun c23 => ?_) (fun c23 => ?_)
        · replace e := x_iff c23 e
          refine r_iconst DX8_isPicked_30 (v := 0) (by decide) ?_
          refine r_istore_n (L' := [some (.ref (xa g 44)), some (.int v1), some (.int 0), some (.int v3)]) DX8_isPicked_31 (i := 2) rfl (by decide) rfl rfl ?_
          refine r_iinc (L' := [some (.ref (xa g 44)), some (.int v1), some (.int 0), some (.int (v3 + 1))]) DX8_isPicked_32 (x := v3) (v := (v3 + 1)) rfl rfl (by decide) rfl rfl ?_
          refine r_goto DX8_isPicked_35 (tgt := 4) (by decide) ?_
          exact ih _ _ _ e K0
        · replace e := x_ift c23 e
          refine r_iconst DX8_isPicked_26 (v := 1) (by decide) ?_
          refine r_goto DX8_isPicked_27 (tgt := 31) (by decide) ?_
          refine r_istore_n (L' := [some (.ref (xa g 44)), some (.int v1), some (.int 1), some (.int v3)]) DX8_isPicked_31 (i := 2) rfl (by decide) rfl rfl ?_
          refine r_iinc (L' := [some (.ref (xa g 44)), some (.int v1), some (.int 1), some (.int (v3 + 1))]) DX8_isPicked_32 (x := v3) (v := (v3 + 1)) rfl rfl (by decide) rfl rfl ?_
          refine r_goto DX8_isPicked_35 (tgt := 4) (by decide) ?_
          exact ih _ _ _ e K0

set_option maxRecDepth 100000 in
set_option maxHeartbeats 4000000 in
theorem t_X8_isPicked {l : Launch} {g : xG} {a : xT} (N : Nat) (v1 : Int32) (b : xT)  {r : Int32} (e : f_X8_isPicked N v1 b = some r) : Ev l g 0 yX8_isPicked M_X8_isPicked [.ref (xa g 44), .int v1] (a, b) (some (.int r), (a, b)) := by
  unfold f_X8_isPicked at e
  refine Ev.of 2 (L0 := [some (.ref (xa g 44)), some (.int v1), none, none]) (by decide) rfl (Nat.le_of_ble_eq_true rfl) rfl ?_
  refine r_iconst DX8_isPicked_0 (v := 0) (by decide) ?_
  refine r_istore_n (L' := [some (.ref (xa g 44)), some (.int v1), some (.int 0), none]) DX8_isPicked_1 (i := 2) rfl (by decide) rfl rfl ?_
  refine r_iconst DX8_isPicked_2 (v := 0) (by decide) ?_
  refine r_istore_n (L' := [some (.ref (xa g 44)), some (.int v1), some (.int 0), some (.int 0)]) DX8_isPicked_3 (i := 3) rfl (by decide) rfl rfl ?_
  obtain ⟨q4, e4, e⟩ := x_bnd e
  refine lp_X8_isPicked_L4 v1 b N 0 0 q4 e4 ?_
  refine r_iload_n DX8_isPicked_38 (i := 2) rfl rfl ?_
  obtain ⟨c39, e⟩ := x_grd e
  obtain rfl := Option.some.inj e
  exact r_zret DX8_isPicked_39 rfl (congrArg Value.int c39) rfl

set_option maxRecDepth 100000 in
set_option maxHeartbeats 4000000 in
theorem lp_X8_framed_L59 {l : Launch} {g : xG} {a : xT} {R : Option Value × xS} (N : Nat) (v1 : Int32) (v2 : Int32) (v5 : Int32) (v6 : Int32) (b : xT) : ∀ (n : Nat) (v3 : Int64) (v7 : Int32) (r : (Int64)), f_X8_framed_L59 N v1 v2 v5 v6 b n v3 v7 = some r → Rx l g 2 M_X8_framed 136 [some (.ref (xa g 44)), some (.int v1), some (.int v2), some (.long r), none, none, none, none, none] [] (a, b) R → Rx l g 2 M_X8_framed 59 [some (.ref (xa g 44)), some (.int v1), some (.int v2), some (.long v3), none, some (.int v5), some (.int v6), some (.int v7), none] [] (a, b) R := by
  intro n
  induction n with
  | zero => intro v3_ v7_ r_ e; cases e
  | succ n ih =>
    intro v3 v7 r e K0
    rw [f_X8_framed_L59] at e
    refine r_iload DX8_framed_59 rfl ?_
    refine r_aload_n DX8_framed_61 (i := 0) rfl rfl ?_
    refine r_get (v := .ref (xa g 45)) DX8_framed_62 F_X8_16 e_44 rfl ?_
    refine r_iload_n DX8_framed_65 (i := 1) rfl rfl ?_
    obtain ⟨c66, e⟩ := x_grd e
    refine r_iald (f := (gA b 45)) DX8_framed_66 e_45 rfl c66 ?_
    refine r_icmp_ge DX8_framed_67 (tgt := 136) (by decide) (fun c67 => ?_) (fun c67 => ?_)
    · replace e := x_ift c67 e
      obtain rfl := Option.some.inj e
      refine r_mask (L' := [some (.ref (xa g 44)), some (.int v1), some (.int v2), some (.long v3), none, none, none, none, none]) [true, true, true, true, false, false, false, false, false] rfl ?_
      exact K0
    · replace e := x_iff c67 e
      refine r_lload_n DX8_framed_70 (i := 3) rfl rfl ?_
      refine r_iload DX8_framed_71 rfl ?_
      refine r_lshr DX8_framed_73 ?_
      refine r_lconst DX8_framed_74 (v := 1) (by decide) ?_
      refine r_land DX8_framed_75 ?_
      refine r_lconst DX8_framed_76 (v := 0) (by decide) ?_
      refine r_lcmp_ne DX8_framed_77 DX8_framed_78 (tgt := 102) (by decide) (fun c77 => ?_) (fun c77 => ?_)
      · replace e := x_iff c77 e
        refine r_iconst DX8_framed_102 (v := 0) (by decide) ?_
        refine r_istore (L' := [some (.ref (xa g 44)), some (.int v1), some (.int v2), some (.long v3), none, some (.int v5), some (.int v6), some (.int v7), some (.int 0)]) DX8_framed_103 (by decide) rfl rfl ?_
        refine r_lload_n DX8_framed_105 (i := 3) rfl rfl ?_
        refine r_iload DX8_framed_106 rfl ?_
        refine r_if_eq DX8_framed_108 (tgt := 127) (by decide) (fun _ => ?_) (fun c => absurd (by decide) c)
        refine r_lconst DX8_framed_127 (v := 0) (by decide) ?_
        refine r_lor DX8_framed_128 ?_
        refine r_lstore_n (L' := [some (.ref (xa g 44)), some (.int v1), some (.int v2), some (.long (v3 ||| 0)), none, some (.int v5), some (.int v6), some (.int v7), some (.int 0)]) DX8_framed_129 (i := 3) rfl (by decide) rfl rfl ?_
        refine r_iinc (L' := [some (.ref (xa g 44)), some (.int v1), some (.int v2), some (.long (v3 ||| 0)), none, some (.int v5), some (.int v6), some (.int (v7 + 1)), some (.int 0)]) DX8_framed_130 (x := v7) (v := (v7 + 1)) rfl rfl (by decide) rfl rfl ?_
        refine r_goto DX8_framed_133 (tgt := 59) (by decide) ?_
        refine r_mask (L' := [some (.ref (xa g 44)), some (.int v1), some (.int v2), some (.long (v3 ||| 0)), none, some (.int v5), some (.int v6), some (.int (v7 + 1)), none]) [true, true, true, true, false, true, true, true, false] rfl ?_
        exact ih _ _ _ e K0
      · replace e := x_ift c77 e
        refine r_iload DX8_framed_81 rfl ?_
        refine r_iload DX8_framed_83 rfl ?_
        refine r_aload_n DX8_framed_85 (i := 0) rfl rfl ?_
        refine r_iload_n DX8_framed_86 (i := 1) rfl rfl ?_
        refine r_iload DX8_framed_87 rfl ?_
        obtain ⟨q89, e89, e⟩ := x_bnd e
        refine r_callV1 (As := [.int v1, .int v7]) (S := [.int v6, .int v5]) DX8_framed_89 C_X8_138 (ci := 8) rfl rfl e_44 (by decide) (by decide) (Nat.le_of_ble_eq_true rfl) (t_X8_at v1 v7 b e89) rfl ?_
        obtain ⟨q92, e92, e⟩ := x_bnd e
        refine r_callS1 (As := [.int v5, .int v6, .int q89]) (S := []) DX8_framed_92 C_X8_298 (by decide) (by decide) (Nat.le_of_ble_eq_true rfl) (t_X8_canMake v5 v6 q89 e92) rfl ?_
        refine r_if_eq DX8_framed_95 (tgt := 102) (by decide) (fun c95 => ?_) (fun c95 => ?_)
        · replace e := x_ift c95 e
          refine r_iconst DX8_framed_102 (v := 0) (by decide) ?_
          refine r_istore (L' := [some (.ref (xa g 44)), some (.int v1), some (.int v2), some (.long v3), none, some (.int v5), some (.int v6), some (.int v7), some (.int 0)]) DX8_framed_103 (by decide) rfl rfl ?_
          refine r_lload_n DX8_framed_105 (i := 3) rfl rfl ?_
          refine r_iload DX8_framed_106 rfl ?_
          refine r_if_eq DX8_framed_108 (tgt := 127) (by decide) (fun _ => ?_) (fun c => absurd (by decide) c)
          refine r_lconst DX8_framed_127 (v := 0) (by decide) ?_
          refine r_lor DX8_framed_128 ?_
          refine r_lstore_n (L' := [some (.ref (xa g 44)), some (.int v1), some (.int v2), some (.long (v3 ||| 0)), none, some (.int v5), some (.int v6), some (.int v7), some (.int 0)]) DX8_framed_129 (i := 3) rfl (by decide) rfl rfl ?_
          refine r_iinc (L' := [some (.ref (xa g 44)), some (.int v1), some (.int v2), some (.long (v3 ||| 0)), none, some (.int v5), some (.int v6), some (.int (v7 + 1)), some (.int 0)]) DX8_framed_130 (x := v7) (v := (v7 + 1)) rfl rfl (by decide) rfl rfl ?_
          refine r_goto DX8_framed_133 (tgt := 59) (by decide) ?_
          refine r_mask (L' := [some (.ref (xa g 44)), some (.int v1), some (.int v2), some (.long (v3 ||| 0)), none, some (.int v5), some (.int v6), some (.int (v7 + 1)), none]) [true, true, true, true, false, true, true, true, false] rfl ?_
          exact ih _ _ _ e K0
        · replace e := x_iff c95 e
          refine r_iconst DX8_framed_98 (v := 1) (by decide) ?_
          refine r_goto DX8_framed_99 (tgt := 103) (by decide) ?_
          refine r_istore (L' := [some (.ref (xa g 44)), some (.int v1), some (.int v2), some (.long v3), none, some (.int v5), some (.int v6), some (.int v7), some (.int 1)]) DX8_framed_103 (by decide) rfl rfl ?_
          refine r_lload_n DX8_framed_105 (i := 3) rfl rfl ?_
          refine r_iload DX8_framed_106 rfl ?_
          refine r_if_eq DX8_framed_108 (tgt := 127) (by decide) (fun c => absurd c (by decide)) (fun _ => ?_)
          refine r_aload_n DX8_framed_111 (i := 0) rfl rfl ?_
          refine r_iload DX8_framed_112 rfl ?_
          obtain ⟨q114, e114, e⟩ := x_bnd e
          refine r_callV1 (As := [.int v7]) (S := [.long v3]) DX8_framed_114 C_X8_317 (ci := 8) rfl rfl e_44 (by decide) (by decide) (Nat.le_of_ble_eq_true rfl) (t_X8_isPicked N v7 b e114) rfl ?_
          refine r_if_ne DX8_framed_117 (tgt := 127) (by decide) (fun c117 => ?_) (fun c117 => ?_)
          · replace e := x_iff c117 e
            refine r_lconst DX8_framed_127 (v := 0) (by decide) ?_
            refine r_lor DX8_framed_128 ?_
            refine r_lstore_n (L' := [some (.ref (xa g 44)), some (.int v1), some (.int v2), some (.long (v3 ||| 0)), none, some (.int v5), some (.int v6), some (.int v7), some (.int 1)]) DX8_framed_129 (i := 3) rfl (by decide) rfl rfl ?_
            refine r_iinc (L' := [some (.ref (xa g 44)), some (.int v1), some (.int v2), some (.long (v3 ||| 0)), none, some (.int v5), some (.int v6), some (.int (v7 + 1)), some (.int 1)]) DX8_framed_130 (x := v7) (v := (v7 + 1)) rfl rfl (by decide) rfl rfl ?_
            refine r_goto DX8_framed_133 (tgt := 59) (by decide) ?_
            refine r_mask (L' := [some (.ref (xa g 44)), some (.int v1), some (.int v2), some (.long (v3 ||| 0)), none, some (.int v5), some (.int v6), some (.int (v7 + 1)), none]) [true, true, true, true, false, true, true, true, false] rfl ?_
            exact ih _ _ _ e K0
          · replace e := x_ift c117 e
            refine r_lconst DX8_framed_120 (v := 1) (by decide) ?_
            refine r_iload DX8_framed_121 rfl ?_
            refine r_lshl DX8_framed_123 ?_
            refine r_goto DX8_framed_124 (tgt := 128) (by decide) ?_
            refine r_lor DX8_framed_128 ?_
            obtain ⟨w129, e129, e⟩ := x_bnd e
            refine r_lstore_nB (L' := [some (.ref (xa g 44)), some (.int v1), some (.int v2), some (.long w129), none, some (.int v5), some (.int v6), some (.int v7), some (.int 1)]) (w := w129) DX8_framed_129 (Option.some.inj e129) (i := 3) rfl (by decide) rfl rfl ?_
            refine r_iinc (L' := [some (.ref (xa g 44)), some (.int v1), some (.int v2), some (.long w129), none, some (.int v5), some (.int v6), some (.int (v7 + 1)), some (.int 1)]) DX8_framed_130 (x := v7) (v := (v7 + 1)) rfl rfl (by decide) rfl rfl ?_
            refine r_goto DX8_framed_133 (tgt := 59) (by decide) ?_
            refine r_mask (L' := [some (.ref (xa g 44)), some (.int v1), some (.int v2), some (.long w129), none, some (.int v5), some (.int v6), some (.int (v7 + 1)), none]) [true, true, true, true, false, true, true, true, false] rfl ?_
            exact ih _ _ _ e K0

set_option maxRecDepth 100000 in
set_option maxHeartbeats 4000000 in
theorem lp_X8_framed_L33 {l : Launch} {g : xG} {a : xT} {R : Option Value × xS} (N : Nat) (v1 : Int32) (v2 : Int32) : ∀ (n : Nat) (v3 : Int64) (b : xT) (r : (Int64 × xT)), f_X8_framed_L33 N v1 v2 n v3 b = some r → Rx l g 2 M_X8_framed 139 [none, none, none, some (.long (r.1)), none, none, none, none, none] [] (a, (r.2)) R → Rx l g 2 M_X8_framed 33 [some (.ref (xa g 44)), some (.int v1), some (.int v2), some (.long v3), none, none, none, none, none] [] (a, b) R := by
  intro n
  induction n with
  | zero => intro v3_ s_ r_ e; cases e
  | succ n ih =>
    intro v3 b r e K0
    rw [f_X8_framed_L33] at e
    refine r_aload_n DX8_framed_33 (i := 0) rfl rfl ?_
    refine r_iload_n DX8_framed_34 (i := 1) rfl rfl ?_
    refine r_iload_n DX8_framed_35 (i := 2) rfl rfl ?_
    obtain ⟨q36, e36, e⟩ := x_bnd e
    refine r_callV1 (As := [.int v1, .int v2]) (S := []) DX8_framed_36 C_X8_292 (ci := 8) rfl rfl e_44 (by decide) (by decide) (Nat.le_of_ble_eq_true rfl) (t_X8_goOn N v1 v2 b e36) rfl ?_
    refine r_if_eq DX8_framed_39 (tgt := 139) (by decide) (fun c39 => ?_) (fun c39 => ?_)
    · replace e := x_ift c39 e
      obtain rfl := Option.some.inj e
      refine r_mask (L' := [none, none, none, some (.long v3), none, none, none, none, none]) [false, false, false, true, false, false, false, false, false] rfl ?_
      exact K0
    · replace e := x_iff c39 e
      refine r_aload_n DX8_framed_42 (i := 0) rfl rfl ?_
      refine r_iload_n DX8_framed_43 (i := 1) rfl rfl ?_
      obtain ⟨q44, e44, e⟩ := x_bnd e
      refine r_callV1 (As := [.int v1]) (S := []) DX8_framed_44 C_X8_310 (ci := 8) rfl rfl e_44 (by decide) (by decide) (Nat.le_of_ble_eq_true rfl) (t_X8_common N v1 q36.2 e44) rfl ?_
      refine r_istore (L' := [some (.ref (xa g 44)), some (.int v1), some (.int v2), some (.long v3), none, some (.int q44), none, none, none]) DX8_framed_47 (by decide) rfl rfl ?_
      refine r_aload_n DX8_framed_49 (i := 0) rfl rfl ?_
      refine r_iload_n DX8_framed_50 (i := 1) rfl rfl ?_
      obtain ⟨q51, e51, e⟩ := x_bnd e
      refine r_callV1 (As := [.int v1]) (S := []) DX8_framed_51 C_X8_295 (ci := 8) rfl rfl e_44 (by decide) (by decide) (Nat.le_of_ble_eq_true rfl) (t_X8_all N v1 q36.2 e51) rfl ?_
      refine r_istore (L' := [some (.ref (xa g 44)), some (.int v1), some (.int v2), some (.long v3), none, some (.int q44), some (.int q51), none, none]) DX8_framed_54 (by decide) rfl rfl ?_
      refine r_iconst DX8_framed_56 (v := 0) (by decide) ?_
      refine r_istore (L' := [some (.ref (xa g 44)), some (.int v1), some (.int v2), some (.long v3), none, some (.int q44), some (.int q51), some (.int 0), none]) DX8_framed_57 (by decide) rfl rfl ?_
      obtain ⟨q59, e59, e⟩ := x_bnd e
      refine lp_X8_framed_L59 N v1 v2 q44 q51 q36.2 N v3 0 q59 e59 ?_
      refine r_goto DX8_framed_136 (tgt := 33) (by decide) ?_
      exact ih _ _ _ e K0

set_option maxRecDepth 100000 in
set_option maxHeartbeats 4000000 in
theorem lp_X8_framed_L145 {l : Launch} {g : xG} {a : xT} {R : Option Value × xS} (v3 : Int64) (b : xT) : ∀ (n : Nat) (v5 : Int32) (v6 : Int32) (r : (Int32)), f_X8_framed_L145 v3 b n v5 v6 = some r → Rx l g 2 M_X8_framed 170 [none, none, none, none, none, some (.int r), none, none, none] [] (a, b) R → Rx l g 2 M_X8_framed 145 [none, none, none, some (.long v3), none, some (.int v5), some (.int v6), none, none] [] (a, b) R := by
  intro n
  induction n with
  | zero => intro v5_ v6_ r_ e; cases e
  | succ n ih =>
    intro v5 v6 r e K0
    rw [f_X8_framed_L145] at e
    refine r_iload DX8_framed_145 rfl ?_
    refine r_bipush DX8_framed_147 (v := 64) (by decide) ?_
    refine r_icmp_ge DX8_framed_149 (tgt := 170) (by decide) (fun c149 => ?_) (fun c149 => ?_)
    · replace e := x_ift c149 e
      obtain rfl := Option.some.inj e
      refine r_mask (L' := [none, none, none, none, none, some (.int v5), none, none, none]) [false, false, false, false, false, true, false, false, false] rfl ?_
      exact K0
    · replace e := x_iff c149 e
      refine r_iload DX8_framed_152 rfl ?_
      refine r_lload_n DX8_framed_154 (i := 3) rfl rfl ?_
      refine r_iload DX8_framed_155 rfl ?_
      refine r_lshr DX8_framed_157 ?_
      refine r_lconst DX8_framed_158 (v := 1) (by decide) ?_
      refine r_land DX8_framed_159 ?_
      refine r_l2i DX8_framed_160 ?_
      refine r_iadd DX8_framed_161 ?_
      obtain ⟨w162, e162, e⟩ := x_bnd e
      refine r_istoreB (L' := [none, none, none, some (.long v3), none, some (.int w162), some (.int v6), none, none]) (w := w162) DX8_framed_162 (Option.some.inj e162) (by decide) rfl rfl ?_
      refine r_iinc (L' := [none, none, none, some (.long v3), none, some (.int w162), some (.int (v6 + 1)), none, none]) DX8_framed_164 (x := v6) (v := (v6 + 1)) rfl rfl (by decide) rfl rfl ?_
      refine r_goto DX8_framed_167 (tgt := 145) (by decide) ?_
      exact ih _ _ _ e K0

set_option maxRecDepth 100000 in
set_option maxHeartbeats 4000000 in
theorem t_X8_framed {l : Launch} {g : xG} {a : xT} (N : Nat) (v1 : Int32) (v2 : Int32) (b : xT)  {r : (Int32 × xT)} (e : f_X8_framed N v1 v2 b = some r) : Ev l g 2 yX8_framed M_X8_framed [.ref (xa g 44), .int v1, .int v2] (a, b) (some (.int r.1), (a, r.2)) := by
  unfold f_X8_framed at e
  refine Ev.of 6 (L0 := [some (.ref (xa g 44)), some (.int v1), some (.int v2), none, none, none, none, none, none]) (by decide) rfl (Nat.le_of_ble_eq_true rfl) rfl ?_
  refine r_iload_n DX8_framed_0 (i := 1) rfl rfl ?_
  obtain ⟨q1, e1, e⟩ := x_bnd e
  refine r_callS1 (As := [.int v1]) (S := []) DX8_framed_1 C_X8_76 (by decide) (by decide) (Nat.le_of_ble_eq_true rfl) (t_X8_isList v1 e1) rfl ?_
  refine r_if_ne DX8_framed_4 (tgt := 11) (by decide) (fun c4 => ?_) (fun c4 => ?_)
  · replace e := x_iff c4 e
    refine r_iload_n DX8_framed_11 (i := 2) rfl rfl ?_
    refine r_i2l DX8_framed_12 ?_
    refine r_lconst DX8_framed_13 (v := 1) (by decide) ?_
    refine r_ldc2 DX8_framed_14 K_X8_84 ?_
    obtain ⟨q17, e17, e⟩ := x_bnd e
    refine r_callS1 (As := [.long (Int32.toInt64 v2), .long 1, .long 3]) (S := []) DX8_framed_17 C_X8_70 (by decide) (by decide) (Nat.le_of_ble_eq_true rfl) (t_X8_in (Int32.toInt64 v2) 1 3 e17) rfl ?_
    refine r_if_ne DX8_framed_20 (tgt := 27) (by decide) (fun c20 => ?_) (fun c20 => ?_)
    · replace e := x_iff c20 e
      refine r_lconst DX8_framed_27 (v := 0) (by decide) ?_
      refine r_lstore_n (L' := [some (.ref (xa g 44)), some (.int v1), some (.int v2), some (.long 0), none, none, none, none, none]) DX8_framed_28 (i := 3) rfl (by decide) rfl rfl ?_
      refine r_aload_n DX8_framed_29 (i := 0) rfl rfl ?_
      obtain ⟨q30, e30, e⟩ := x_bnd e
      refine r_callV0 (As := []) (S := []) DX8_framed_30 C_X8_289 (ci := 8) rfl rfl e_44 (by decide) (by decide) (Nat.le_of_ble_eq_true rfl) (t_X8_begin b e30) rfl ?_
      obtain ⟨q33, e33, e⟩ := x_bnd e
      refine lp_X8_framed_L33 N v1 v2 N 0 q30 q33 e33 ?_
      refine r_iconst DX8_framed_139 (v := 0) (by decide) ?_
      refine r_istore (L' := [none, none, none, some (.long (q33.1)), none, some (.int 0), none, none, none]) DX8_framed_140 (by decide) rfl rfl ?_
      refine r_iconst DX8_framed_142 (v := 0) (by decide) ?_
      refine r_istore (L' := [none, none, none, some (.long (q33.1)), none, some (.int 0), some (.int 0), none, none]) DX8_framed_143 (by decide) rfl rfl ?_
      obtain ⟨q145, e145, e⟩ := x_bnd e
      refine lp_X8_framed_L145 (q33.1) (q33.2) N 0 0 q145 e145 ?_
      refine r_iload DX8_framed_170 rfl ?_
      obtain rfl := Option.some.inj e
      exact r_iret DX8_framed_172 rfl rfl
    · replace e := x_ift c20 e
      refine r_sipush DX8_framed_23 (v := (-1002)) (by decide) ?_
      obtain rfl := Option.some.inj e
      exact r_iret DX8_framed_26 rfl rfl
  · replace e := x_ift c4 e
    refine r_sipush DX8_framed_7 (v := (-1001)) (by decide) ?_
    obtain rfl := Option.some.inj e
    exact r_iret DX8_framed_10 rfl rfl

set_option maxRecDepth 100000 in
set_option maxHeartbeats 4000000 in
theorem lp_X8_good_L44 {l : Launch} {g : xG} {a : xT} {R : Option Value × xS} (N : Nat) (v1 : Int32) (v2 : Int32) (v3 : Int32) (b : xT) : ∀ (n : Nat) (v4 : Int32) (r : ((Unit) ⊕ (Int32))), f_X8_good_L44 N v1 v2 v3 b n v4 = some r → (∀ z, r = (.inl z) → Rx l g 4 M_X8_good 136 [some (.ref (xa g 44)), some (.int v1), some (.int v2), some (.int v3), none] [] (a, b) R) → (∀ z, r = (.inr (z)) → Rx l g 4 M_X8_good 75 [some (.ref (xa g 44)), some (.int v1), some (.int v2), some (.int v3), some (.int z)] [] (a, b) R) → Rx l g 4 M_X8_good 44 [some (.ref (xa g 44)), some (.int v1), some (.int v2), some (.int v3), some (.int v4)] [] (a, b) R := by
  intro n
  induction n with
  | zero => intro v4_ r_ e; cases e
  | succ n ih =>
    intro v4 r e K0 K1
    rw [f_X8_good_L44] at e
    refine r_iload DX8_good_44 rfl ?_
    refine r_aload_n DX8_good_46 (i := 0) rfl rfl ?_
    refine r_get (v := .ref (xa g 45)) DX8_good_47 F_X8_16 e_44 rfl ?_
    refine r_iload_n DX8_good_50 (i := 1) rfl rfl ?_
    obtain ⟨c51, e⟩ := x_grd e
    refine r_iald (f := (gA b 45)) DX8_good_51 e_45 rfl c51 ?_
    refine r_icmp_ge DX8_good_52 (tgt := 136) (by decide) (fun c52 => ?_) (fun c52 => ?_)
    · replace e := x_ift c52 e
      obtain rfl := Option.some.inj e
      refine r_mask (L' := [some (.ref (xa g 44)), some (.int v1), some (.int v2), some (.int v3), none]) [true, true, true, true, false] rfl ?_
      exact K0 _ rfl
    · replace e := x_iff c52 e
      refine r_aload_n DX8_good_55 (i := 0) rfl rfl ?_
      refine r_aload_n DX8_good_56 (i := 0) rfl rfl ?_
      refine r_iload_n DX8_good_57 (i := 1) rfl rfl ?_
      refine r_iload_n DX8_good_58 (i := 3) rfl rfl ?_
      obtain ⟨q59, e59, e⟩ := x_bnd e
      refine r_callV1 (As := [.int v1, .int v3]) (S := [.ref (xa g 44)]) DX8_good_59 C_X8_138 (ci := 8) rfl rfl e_44 (by decide) (by decide) (Nat.le_of_ble_eq_true rfl) (t_X8_at v1 v3 b e59) rfl ?_
      refine r_aload_n DX8_good_62 (i := 0) rfl rfl ?_
      refine r_iload_n DX8_good_63 (i := 1) rfl rfl ?_
      refine r_iload DX8_good_64 rfl ?_
      obtain ⟨q66, e66, e⟩ := x_bnd e
      refine r_callV1 (As := [.int v1, .int v4]) (S := [.int q59, .ref (xa g 44)]) DX8_good_66 C_X8_138 (ci := 8) rfl rfl e_44 (by decide) (by decide) (Nat.le_of_ble_eq_true rfl) (t_X8_at v1 v4 b e66) rfl ?_
      obtain ⟨q69, e69, e⟩ := x_bnd e
      refine r_callV1 (As := [.int q59, .int q66]) (S := []) DX8_good_69 C_X8_118 (ci := 8) rfl rfl e_44 (by decide) (by decide) (Nat.le_of_ble_eq_true rfl) (t_X8_areAlike N q59 q66 b e69) rfl ?_
      refine r_if_eq DX8_good_72 (tgt := 130) (by decide) (fun c72 => ?_) (fun c72 => ?_)
      · replace e := x_ift c72 e
        refine r_iinc (L' := [some (.ref (xa g 44)), some (.int v1), some (.int v2), some (.int v3), some (.int (v4 + 1))]) DX8_good_130 (x := v4) (v := (v4 + 1)) rfl rfl (by decide) rfl rfl ?_
        refine r_goto DX8_good_133 (tgt := 44) (by decide) ?_
        exact ih _ _ e K0 K1
      · replace e := x_iff c72 e
        obtain rfl := Option.some.inj e
        exact K1 _ rfl

set_option maxRecDepth 100000 in
set_option maxHeartbeats 4000000 in
theorem lp_X8_good_L29 {l : Launch} {g : xG} {a : xT} {R : Option Value × xS} (N : Nat) (v1 : Int32) (v2 : Int32) (b : xT) : ∀ (n : Nat) (v3 : Int32) (r : ((Unit) ⊕ (Int32 × Int32))), f_X8_good_L29 N v1 v2 b n v3 = some r → (∀ z, r = (.inl z) → Rx l g 4 M_X8_good 142 [none, none, some (.int v2), none, none] [] (a, b) R) → (∀ z, r = (.inr (z)) → Rx l g 4 M_X8_good 75 [some (.ref (xa g 44)), some (.int v1), some (.int v2), some (.int (z.1)), some (.int (z.2))] [] (a, b) R) → Rx l g 4 M_X8_good 29 [some (.ref (xa g 44)), some (.int v1), some (.int v2), some (.int v3), none] [] (a, b) R := by
  intro n
  induction n with
  | zero => intro v3_ r_ e; cases e
  | succ n ih =>
    intro v3 r e K0 K1
    rw [f_X8_good_L29] at e
    refine r_iload_n DX8_good_29 (i := 3) rfl rfl ?_
    refine r_aload_n DX8_good_30 (i := 0) rfl rfl ?_
    refine r_get (v := .ref (xa g 45)) DX8_good_31 F_X8_16 e_44 rfl ?_
    refine r_iload_n DX8_good_34 (i := 1) rfl rfl ?_
    obtain ⟨c35, e⟩ := x_grd e
    refine r_iald (f := (gA b 45)) DX8_good_35 e_45 rfl c35 ?_
    refine r_icmp_ge DX8_good_36 (tgt := 142) (by decide) (fun c36 => ?_) (fun c36 => ?_)
    · replace e := x_ift c36 e
      obtain rfl := Option.some.inj e
      refine r_mask (L' := [none, none, some (.int v2), none, none]) [false, false, true, false, false] rfl ?_
      exact K0 _ rfl
    · replace e := x_iff c36 e
      refine r_iload_n DX8_good_39 (i := 3) rfl rfl ?_
      refine r_iconst DX8_good_40 (v := 1) (by decide) ?_
      refine r_iadd DX8_good_41 ?_
      refine r_istore (L' := [some (.ref (xa g 44)), some (.int v1), some (.int v2), some (.int v3), some (.int (v3 + 1))]) DX8_good_42 (by decide) rfl rfl ?_
      obtain ⟨q44, e44, e⟩ := x_bnd e
      refine lp_X8_good_L44 N v1 v2 v3 b N (v3 + 1) q44 e44 (fun z44_136 w44 => ?_) (fun z44_75 w44 => ?_)
      · subst w44
        dsimp only [Sum.elim] at e
        refine r_iinc (L' := [some (.ref (xa g 44)), some (.int v1), some (.int v2), some (.int (v3 + 1)), none]) DX8_good_136 (x := v3) (v := (v3 + 1)) rfl rfl (by decide) rfl rfl ?_
        refine r_goto DX8_good_139 (tgt := 29) (by decide) ?_
        exact ih _ _ e K0 K1
      · subst w44
        dsimp only [Sum.elim] at e
        obtain rfl := Option.some.inj e
        exact K1 _ rfl

set_option maxRecDepth 100000 in
set_option maxHeartbeats 4000000 in
theorem t_X8_good {l : Launch} {g : xG} {a : xT} (N : Nat) (v1 : Int32) (v2 : Int32) (b : xT)  {r : Int32} (e : f_X8_good N v1 v2 b = some r) : Ev l g 4 yX8_good M_X8_good [.ref (xa g 44), .int v1, .int v2] (a, b) (some (.int r), (a, b)) := by
  unfold f_X8_good at e
  refine Ev.of 2 (L0 := [some (.ref (xa g 44)), some (.int v1), some (.int v2), none, none]) (by decide) rfl (Nat.le_of_ble_eq_true rfl) rfl ?_
  refine r_iload_n DX8_good_0 (i := 1) rfl rfl ?_
  obtain ⟨q1, e1, e⟩ := x_bnd e
  refine r_callS1 (As := [.int v1]) (S := []) DX8_good_1 C_X8_76 (by decide) (by decide) (Nat.le_of_ble_eq_true rfl) (t_X8_isList v1 e1) rfl ?_
  refine r_if_ne DX8_good_4 (tgt := 11) (by decide) (fun c4 => ?_) (fun c4 => ?_)
  · replace e := x_iff c4 e
    refine r_iload_n DX8_good_11 (i := 2) rfl rfl ?_
    refine r_i2l DX8_good_12 ?_
    refine r_lconst DX8_good_13 (v := 0) (by decide) ?_
    refine r_ldc2 DX8_good_14 K_X8_86 ?_
    obtain ⟨q17, e17, e⟩ := x_bnd e
    refine r_callS1 (As := [.long (Int32.toInt64 v2), .long 0, .long 4]) (S := []) DX8_good_17 C_X8_70 (by decide) (by decide) (Nat.le_of_ble_eq_true rfl) (t_X8_in (Int32.toInt64 v2) 0 4 e17) rfl ?_
    refine r_if_ne DX8_good_20 (tgt := 27) (by decide) (fun c20 => ?_) (fun c20 => ?_)
    · replace e := x_iff c20 e
      refine r_iconst DX8_good_27 (v := 0) (by decide) ?_
      refine r_istore_n (L' := [some (.ref (xa g 44)), some (.int v1), some (.int v2), some (.int 0), none]) DX8_good_28 (i := 3) rfl (by decide) rfl rfl ?_
      obtain ⟨q29, e29, e⟩ := x_bnd e
      refine lp_X8_good_L29 N v1 v2 b N 0 q29 e29 (fun z29_142 w29 => ?_) (fun z29_75 w29 => ?_)
      · subst w29
        dsimp only [Sum.elim] at e
        refine r_iload_n DX8_good_142 (i := 2) rfl rfl ?_
        refine r_if_ne DX8_good_143 (tgt := 150) (by decide) (fun c143 => ?_) (fun c143 => ?_)
        · replace e := x_iff c143 e
          refine r_iconst DX8_good_150 (v := (-1)) (by decide) ?_
          obtain rfl := Option.some.inj e
          exact r_iret DX8_good_151 rfl rfl
        · replace e := x_ift c143 e
          refine r_iconst DX8_good_146 (v := 1) (by decide) ?_
          refine r_goto DX8_good_147 (tgt := 151) (by decide) ?_
          obtain rfl := Option.some.inj e
          exact r_iret DX8_good_151 rfl rfl
      · subst w29
        dsimp only [Sum.elim] at e
        refine r_iload_n DX8_good_75 (i := 2) rfl rfl ?_
        refine r_if_ne DX8_good_76 (tgt := 83) (by decide) (fun c76 => ?_) (fun c76 => ?_)
        · replace e := x_iff c76 e
          refine r_iload_n DX8_good_83 (i := 2) rfl rfl ?_
          refine r_iconst DX8_good_84 (v := 1) (by decide) ?_
          refine r_icmp_ne DX8_good_85 (tgt := 92) (by decide) (fun c85 => ?_) (fun c85 => ?_)
          · replace e := x_iff c85 e
            refine r_iload_n DX8_good_92 (i := 2) rfl rfl ?_
            refine r_iconst DX8_good_93 (v := 2) (by decide) ?_
            refine r_icmp_ne DX8_good_94 (tgt := 102) (by decide) (fun c94 => ?_) (fun c94 => ?_)
            · replace e := x_iff c94 e
              refine r_aload_n DX8_good_102 (i := 0) rfl rfl ?_
              refine r_aload_n DX8_good_103 (i := 0) rfl rfl ?_
              refine r_iload_n DX8_good_104 (i := 1) rfl rfl ?_
              refine r_iload_n DX8_good_105 (i := 3) rfl rfl ?_
              obtain ⟨q106, e106, e⟩ := x_bnd e
              refine r_callV1 (As := [.int v1, .int (z29_75.1)]) (S := [.ref (xa g 44)]) DX8_good_106 C_X8_138 (ci := 8) rfl rfl e_44 (by decide) (by decide) (Nat.le_of_ble_eq_true rfl) (t_X8_at v1 (z29_75.1) b e106) rfl ?_
              refine r_aload_n DX8_good_109 (i := 0) rfl rfl ?_
              refine r_iload_n DX8_good_110 (i := 1) rfl rfl ?_
              refine r_iload DX8_good_111 rfl ?_
              obtain ⟨q113, e113, e⟩ := x_bnd e
              refine r_callV1 (As := [.int v1, .int (z29_75.2)]) (S := [.int q106, .ref (xa g 44)]) DX8_good_113 C_X8_138 (ci := 8) rfl rfl e_44 (by decide) (by decide) (Nat.le_of_ble_eq_true rfl) (t_X8_at v1 (z29_75.2) b e113) rfl ?_
              refine r_iload_n DX8_good_116 (i := 2) rfl rfl ?_
              refine r_iconst DX8_good_117 (v := 4) (by decide) ?_
              refine r_icmp_ne DX8_good_118 (tgt := 125) (by decide) (fun c118 => ?_) (fun c118 => ?_)
              · replace e := x_iff c118 e
                refine r_iconst DX8_good_125 (v := 0) (by decide) ?_
                obtain ⟨q126, e126, e⟩ := x_bnd e
                refine r_callV1 (As := [.int q106, .int q113, .int 0]) (S := []) DX8_good_126 C_X8_121 (ci := 8) rfl rfl e_44 (by decide) (by decide) (Nat.le_of_ble_eq_true rfl) (t_X8_witness N q106 q113 0 b e126) rfl ?_
                obtain rfl := Option.some.inj e
                exact r_iret DX8_good_129 rfl rfl
              · replace e := x_ift c118 e
                refine r_iconst DX8_good_121 (v := 1) (by decide) ?_
                refine r_goto DX8_good_122 (tgt := 126) (by decide) ?_
                obtain ⟨q126, e126, e⟩ := x_bnd e
                refine r_callV1 (As := [.int q106, .int q113, .int 1]) (S := []) DX8_good_126 C_X8_121 (ci := 8) rfl rfl e_44 (by decide) (by decide) (Nat.le_of_ble_eq_true rfl) (t_X8_witness N q106 q113 1 b e126) rfl ?_
                obtain rfl := Option.some.inj e
                exact r_iret DX8_good_129 rfl rfl
            · replace e := x_ift c94 e
              refine r_iload DX8_good_97 rfl ?_
              refine r_goto DX8_good_99 (tgt := 129) (by decide) ?_
              obtain rfl := Option.some.inj e
              exact r_iret DX8_good_129 rfl rfl
          · replace e := x_ift c85 e
            refine r_iload_n DX8_good_88 (i := 3) rfl rfl ?_
            refine r_goto DX8_good_89 (tgt := 129) (by decide) ?_
            obtain rfl := Option.some.inj e
            exact r_iret DX8_good_129 rfl rfl
        · replace e := x_ift c76 e
          refine r_iconst DX8_good_79 (v := 0) (by decide) ?_
          refine r_goto DX8_good_80 (tgt := 129) (by decide) ?_
          obtain rfl := Option.some.inj e
          exact r_iret DX8_good_129 rfl rfl
    · replace e := x_ift c20 e
      refine r_sipush DX8_good_23 (v := (-1002)) (by decide) ?_
      obtain rfl := Option.some.inj e
      exact r_iret DX8_good_26 rfl rfl
  · replace e := x_ift c4 e
    refine r_sipush DX8_good_7 (v := (-1001)) (by decide) ?_
    obtain rfl := Option.some.inj e
    exact r_iret DX8_good_10 rfl rfl

set_option maxRecDepth 100000 in
set_option maxHeartbeats 4000000 in
theorem t_X8_isAsked {l : Launch} {g : xG} {a : xT} (v1 : Int32) (v2 : Int32) (v3 : Int32) (b : xT)  {r : Int32} (e : f_X8_isAsked v1 v2 v3 b = some r) : Ev l g 2 yX8_isAsked M_X8_isAsked [.ref (xa g 44), .int v1, .int v2, .int v3] (a, b) (some (.int r), (a, b)) := by
  unfold f_X8_isAsked at e
  refine Ev.of 0 (L0 := [some (.ref (xa g 44)), some (.int v1), some (.int v2), some (.int v3)]) (by decide) rfl (Nat.le_of_ble_eq_true rfl) rfl ?_
  refine r_aload_n DX8_isAsked_0 (i := 0) rfl rfl ?_
  refine r_iload_n DX8_isAsked_1 (i := 2) rfl rfl ?_
  obtain ⟨q2, e2, e⟩ := x_bnd e
  refine r_callV1 (As := [.int v2]) (S := []) DX8_isAsked_2 C_X8_94 (ci := 8) rfl rfl e_44 (by decide) (by decide) (Nat.le_of_ble_eq_true rfl) (t_X8_isMark v2 b e2) rfl ?_
  refine r_if_eq DX8_isAsked_5 (tgt := 24) (by decide) (fun c5 => ?_) (fun c5 => ?_)
  · replace e := x_ift c5 e
    refine r_iconst DX8_isAsked_24 (v := 0) (by decide) ?_
    obtain rfl := Option.some.inj e
    exact r_zret DX8_isAsked_25 rfl (by decide) rfl
  · replace e := x_iff c5 e
    refine r_iload_n DX8_isAsked_8 (i := 3) rfl rfl ?_
    refine r_i2l DX8_isAsked_9 ?_
    refine r_lconst DX8_isAsked_10 (v := 1) (by decide) ?_
    refine r_ldc2 DX8_isAsked_11 K_X8_84 ?_
    obtain ⟨q14, e14, e⟩ := x_bnd e
    refine r_callS1 (As := [.long (Int32.toInt64 v3), .long 1, .long 3]) (S := []) DX8_isAsked_14 C_X8_70 (by decide) (by decide) (Nat.le_of_ble_eq_true rfl) (t_X8_in (Int32.toInt64 v3) 1 3 e14) rfl ?_
    refine r_if_eq DX8_isAsked_17 (tgt := 24) (by decide) (fun c17 => ?_) (fun c17 => ?_)
    · replace e := x_ift c17 e
      refine r_iconst DX8_isAsked_24 (v := 0) (by decide) ?_
      obtain rfl := Option.some.inj e
      exact r_zret DX8_isAsked_25 rfl (by decide) rfl
    · replace e := x_iff c17 e
      refine r_iconst DX8_isAsked_20 (v := 1) (by decide) ?_
      refine r_goto DX8_isAsked_21 (tgt := 25) (by decide) ?_
      obtain rfl := Option.some.inj e
      exact r_zret DX8_isAsked_25 rfl (by decide) rfl

set_option maxRecDepth 100000 in
set_option maxHeartbeats 4000000 in
theorem lp_X8_heap_L50 {l : Launch} {g : xG} {a : xT} {R : Option Value × xS} (N : Nat) (v1 : Int32) (v2 : Int32) (v3 : Int32) (v4 : Int32) : ∀ (n : Nat) (v5 : Int32) (v6 : Int32) (b : xT) (r : (Int32 × Int32 × xT)), f_X8_heap_L50 N v1 v2 v3 v4 n v5 v6 b = some r → Rx l g 3 M_X8_heap 120 [none, none, none, none, some (.int v4), some (.int (r.1)), some (.int (r.2.1))] [] (a, (r.2.2)) R → Rx l g 3 M_X8_heap 50 [some (.ref (xa g 44)), some (.int v1), some (.int v2), some (.int v3), some (.int v4), some (.int v5), some (.int v6)] [] (a, b) R := by
  intro n
  induction n with
  | zero => intro v5_ v6_ s_ r_ e; cases e
  | succ n ih =>
    intro v5 v6 b r e K0
    rw [f_X8_heap_L50] at e
    refine r_aload_n DX8_heap_50 (i := 0) rfl rfl ?_
    refine r_iload_n DX8_heap_51 (i := 1) rfl rfl ?_
    refine r_iload_n DX8_heap_52 (i := 3) rfl rfl ?_
    obtain ⟨q53, e53, e⟩ := x_bnd e
    refine r_callV1 (As := [.int v1, .int v3]) (S := []) DX8_heap_53 C_X8_292 (ci := 8) rfl rfl e_44 (by decide) (by decide) (Nat.le_of_ble_eq_true rfl) (t_X8_goOn N v1 v3 b e53) rfl ?_
    refine r_if_eq DX8_heap_56 (tgt := 120) (by decide) (fun c56 => ?_) (fun c56 => ?_)
    · replace e := x_ift c56 e
      obtain rfl := Option.some.inj e
      refine r_mask (L' := [none, none, none, none, some (.int v4), some (.int v5), some (.int v6)]) [false, false, false, false, true, true, true] rfl ?_
      exact K0
    · replace e := x_iff c56 e
      refine r_aload_n DX8_heap_59 (i := 0) rfl rfl ?_
      refine r_iload_n DX8_heap_60 (i := 1) rfl rfl ?_
      obtain ⟨q61, e61, e⟩ := x_bnd e
      refine r_callV1 (As := [.int v1]) (S := []) DX8_heap_61 C_X8_295 (ci := 8) rfl rfl e_44 (by decide) (by decide) (Nat.le_of_ble_eq_true rfl) (t_X8_all N v1 q53.2 e61) rfl ?_
      refine r_iload_n DX8_heap_64 (i := 2) rfl rfl ?_
      refine r_icmp_ne DX8_heap_65 (tgt := 50) (by decide) (fun c65 => ?_) (fun c65 => ?_)
      · replace e := x_iff c65 e
        exact ih _ _ _ _ e K0
      · replace e := x_ift c65 e
        refine r_iload DX8_heap_68 rfl ?_
        refine r_if_ne DX8_heap_70 (tgt := 114) (by decide) (fun c70 => ?_) (fun c70 => ?_)
        · replace e := x_iff c70 e
          refine r_iinc (L' := [some (.ref (xa g 44)), some (.int v1), some (.int v2), some (.int v3), some (.int v4), some (.int (v5 + 1)), some (.int v6)]) DX8_heap_114 (x := v5) (v := (v5 + 1)) rfl rfl (by decide) rfl rfl ?_
          refine r_goto DX8_heap_117 (tgt := 50) (by decide) ?_
          exact ih _ _ _ _ e K0
        · replace e := x_ift c70 e
          refine r_iload DX8_heap_73 rfl ?_
          refine r_if_ne DX8_heap_75 (tgt := 85) (by decide) (fun c75 => ?_) (fun c75 => ?_)
          · replace e := x_iff c75 e
            refine r_iload DX8_heap_85 rfl ?_
            refine r_if_le DX8_heap_87 (tgt := 111) (by decide) (fun c87 => ?_) (fun c87 => ?_)
            · replace e := x_ift c87 e
              refine r_iconst DX8_heap_111 (v := (-1)) (by decide) ?_
              refine r_istore (L' := [some (.ref (xa g 44)), some (.int v1), some (.int v2), some (.int v3), some (.int v4), some (.int v5), some (.int (-1))]) DX8_heap_112 (by decide) rfl rfl ?_
              refine r_iinc (L' := [some (.ref (xa g 44)), some (.int v1), some (.int v2), some (.int v3), some (.int v4), some (.int (v5 + 1)), some (.int (-1))]) DX8_heap_114 (x := v5) (v := (v5 + 1)) rfl rfl (by decide) rfl rfl ?_
              refine r_goto DX8_heap_117 (tgt := 50) (by decide) ?_
              exact ih _ _ _ _ e K0
            · replace e := x_iff c87 e
              refine r_iload DX8_heap_90 rfl ?_
              refine r_aload_n DX8_heap_92 (i := 0) rfl rfl ?_
              refine r_get (v := .int (gI q53.2 31)) DX8_heap_93 F_X8_283 e_44 rfl ?_
              refine r_icmp_gt DX8_heap_96 (tgt := 111) (by decide) (fun c96 => ?_) (fun c96 => ?_)
              · replace e := x_ift c96 e
                refine r_iconst DX8_heap_111 (v := (-1)) (by decide) ?_
                refine r_istore (L' := [some (.ref (xa g 44)), some (.int v1), some (.int v2), some (.int v3), some (.int v4), some (.int v5), some (.int (-1))]) DX8_heap_112 (by decide) rfl rfl ?_
                refine r_iinc (L' := [some (.ref (xa g 44)), some (.int v1), some (.int v2), some (.int v3), some (.int v4), some (.int (v5 + 1)), some (.int (-1))]) DX8_heap_114 (x := v5) (v := (v5 + 1)) rfl rfl (by decide) rfl rfl ?_
                refine r_goto DX8_heap_117 (tgt := 50) (by decide) ?_
                exact ih _ _ _ _ e K0
              · replace e := x_iff c96 e
                refine r_aload_n DX8_heap_99 (i := 0) rfl rfl ?_
                refine r_get (v := .ref (xa g 59)) DX8_heap_100 F_X8_64 e_44 rfl ?_
                refine r_iload DX8_heap_103 rfl ?_
                refine r_iconst DX8_heap_105 (v := 1) (by decide) ?_
                refine r_isub DX8_heap_106 ?_
                obtain ⟨c107, e⟩ := x_grd e
                refine r_iald (f := (gA q53.2 59)) DX8_heap_107 e_59 rfl c107 ?_
                refine r_goto DX8_heap_108 (tgt := 112) (by decide) ?_
                obtain ⟨w112, e112, e⟩ := x_bnd e
                refine r_istoreB (L' := [some (.ref (xa g 44)), some (.int v1), some (.int v2), some (.int v3), some (.int v4), some (.int v5), some (.int w112)]) (w := w112) DX8_heap_112 (Option.some.inj e112) (by decide) rfl rfl ?_
                refine r_iinc (L' := [some (.ref (xa g 44)), some (.int v1), some (.int v2), some (.int v3), some (.int v4), some (.int (v5 + 1)), some (.int w112)]) DX8_heap_114 (x := v5) (v := (v5 + 1)) rfl rfl (by decide) rfl rfl ?_
                refine r_goto DX8_heap_117 (tgt := 50) (by decide) ?_
                exact ih _ _ _ _ e K0
          · replace e := x_ift c75 e
            refine r_aload_n DX8_heap_78 (i := 0) rfl rfl ?_
            refine r_get (v := .int (gI q53.2 31)) DX8_heap_79 F_X8_283 e_44 rfl ?_
            refine r_goto DX8_heap_82 (tgt := 112) (by decide) ?_
            refine r_istore (L' := [some (.ref (xa g 44)), some (.int v1), some (.int v2), some (.int v3), some (.int v4), some (.int v5), some (.int (gI q53.2 31))]) DX8_heap_112 (by decide) rfl rfl ?_
            refine r_iinc (L' := [some (.ref (xa g 44)), some (.int v1), some (.int v2), some (.int v3), some (.int v4), some (.int (v5 + 1)), some (.int (gI q53.2 31))]) DX8_heap_114 (x := v5) (v := (v5 + 1)) rfl rfl (by decide) rfl rfl ?_
            refine r_goto DX8_heap_117 (tgt := 50) (by decide) ?_
            exact ih _ _ _ _ e K0

set_option maxRecDepth 100000 in
set_option maxHeartbeats 4000000 in
theorem t_X8_heap {l : Launch} {g : xG} {a : xT} (N : Nat) (v1 : Int32) (v2 : Int32) (v3 : Int32) (v4 : Int32) (b : xT)  {r : (Int32 × xT)} (e : f_X8_heap N v1 v2 v3 v4 b = some r) : Ev l g 3 yX8_heap M_X8_heap [.ref (xa g 44), .int v1, .int v2, .int v3, .int v4] (a, b) (some (.int r.1), (a, r.2)) := by
  unfold f_X8_heap at e
  refine Ev.of 2 (L0 := [some (.ref (xa g 44)), some (.int v1), some (.int v2), some (.int v3), some (.int v4), none, none]) (by decide) rfl (Nat.le_of_ble_eq_true rfl) rfl ?_
  refine r_iload_n DX8_heap_0 (i := 1) rfl rfl ?_
  obtain ⟨q1, e1, e⟩ := x_bnd e
  refine r_callS1 (As := [.int v1]) (S := []) DX8_heap_1 C_X8_76 (by decide) (by decide) (Nat.le_of_ble_eq_true rfl) (t_X8_isList v1 e1) rfl ?_
  refine r_if_ne DX8_heap_4 (tgt := 11) (by decide) (fun c4 => ?_) (fun c4 => ?_)
  · replace e := x_iff c4 e
    refine r_aload_n DX8_heap_11 (i := 0) rfl rfl ?_
    refine r_iload_n DX8_heap_12 (i := 1) rfl rfl ?_
    refine r_iload_n DX8_heap_13 (i := 2) rfl rfl ?_
    refine r_iload_n DX8_heap_14 (i := 3) rfl rfl ?_
    obtain ⟨q15, e15, e⟩ := x_bnd e
    refine r_callV1 (As := [.int v1, .int v2, .int v3]) (S := []) DX8_heap_15 C_X8_286 (ci := 8) rfl rfl e_44 (by decide) (by decide) (Nat.le_of_ble_eq_true rfl) (t_X8_isAsked v1 v2 v3 b e15) rfl ?_
    refine r_if_eq DX8_heap_18 (tgt := 36) (by decide) (fun c18 => ?_) (fun c18 => ?_)
    · replace e := x_ift c18 e
      refine r_sipush DX8_heap_36 (v := (-1002)) (by decide) ?_
      obtain rfl := Option.some.inj e
      exact r_iret DX8_heap_39 rfl rfl
    · replace e := x_iff c18 e
      refine r_iload DX8_heap_21 rfl ?_
      refine r_i2l DX8_heap_23 ?_
      refine r_ldc2 DX8_heap_24 K_X8_164 ?_
      refine r_ldc2 DX8_heap_27 K_X8_84 ?_
      obtain ⟨q30, e30, e⟩ := x_bnd e
      refine r_callS1 (As := [.long (Int32.toInt64 v4), .long (-1), .long 3]) (S := []) DX8_heap_30 C_X8_70 (by decide) (by decide) (Nat.le_of_ble_eq_true rfl) (t_X8_in (Int32.toInt64 v4) (-1) 3 e30) rfl ?_
      refine r_if_ne DX8_heap_33 (tgt := 40) (by decide) (fun c33 => ?_) (fun c33 => ?_)
      · replace e := x_iff c33 e
        refine r_iconst DX8_heap_40 (v := 0) (by decide) ?_
        refine r_istore (L' := [some (.ref (xa g 44)), some (.int v1), some (.int v2), some (.int v3), some (.int v4), some (.int 0), none]) DX8_heap_41 (by decide) rfl rfl ?_
        refine r_iconst DX8_heap_43 (v := (-1)) (by decide) ?_
        refine r_istore (L' := [some (.ref (xa g 44)), some (.int v1), some (.int v2), some (.int v3), some (.int v4), some (.int 0), some (.int (-1))]) DX8_heap_44 (by decide) rfl rfl ?_
        refine r_aload_n DX8_heap_46 (i := 0) rfl rfl ?_
        obtain ⟨q47, e47, e⟩ := x_bnd e
        refine r_callV0 (As := []) (S := []) DX8_heap_47 C_X8_289 (ci := 8) rfl rfl e_44 (by decide) (by decide) (Nat.le_of_ble_eq_true rfl) (t_X8_begin b e47) rfl ?_
        obtain ⟨q50, e50, e⟩ := x_bnd e
        refine lp_X8_heap_L50 N v1 v2 v3 v4 N 0 (-1) q47 q50 e50 ?_
        refine r_iload DX8_heap_120 rfl ?_
        refine r_iconst DX8_heap_122 (v := (-1)) (by decide) ?_
        refine r_icmp_ne DX8_heap_123 (tgt := 131) (by decide) (fun c123 => ?_) (fun c123 => ?_)
        · replace e := x_iff c123 e
          refine r_iload DX8_heap_131 rfl ?_
          obtain rfl := Option.some.inj e
          exact r_iret DX8_heap_133 rfl rfl
        · replace e := x_ift c123 e
          refine r_iload DX8_heap_126 rfl ?_
          refine r_goto DX8_heap_128 (tgt := 133) (by decide) ?_
          obtain rfl := Option.some.inj e
          exact r_iret DX8_heap_133 rfl rfl
      · replace e := x_ift c33 e
        refine r_sipush DX8_heap_36 (v := (-1002)) (by decide) ?_
        obtain rfl := Option.some.inj e
        exact r_iret DX8_heap_39 rfl rfl
  · replace e := x_ift c4 e
    refine r_sipush DX8_heap_7 (v := (-1001)) (by decide) ?_
    obtain rfl := Option.some.inj e
    exact r_iret DX8_heap_10 rfl rfl

set_option maxRecDepth 100000 in
set_option maxHeartbeats 4000000 in
theorem lp_X8_here_L0 {l : Launch} {g : xG} {a : xT} {R : Option Value × xS}  : ∀ (n : Nat) (b : xT) (r : (xT)), f_X8_here_L0 n b = some r → Rx l g 0 M_X8_here 38 [some (.ref (xa g 44))] [] (a, r) R → Rx l g 0 M_X8_here 0 [some (.ref (xa g 44))] [] (a, b) R := by
  intro n
  induction n with
  | zero => intro s_ r_ e; cases e
  | succ n ih =>
    intro b r e K0
    rw [f_X8_here_L0] at e
    refine r_aload_n DX8_here_0 (i := 0) rfl rfl ?_
    refine r_get (v := .int (gI b 16)) DX8_here_1 F_X8_186 e_44 rfl ?_
    refine r_aload_n DX8_here_4 (i := 0) rfl rfl ?_
    refine r_get (v := .int (gI b 14)) DX8_here_5 F_X8_181 e_44 rfl ?_
    refine r_icmp_ge DX8_here_8 (tgt := 38) (by decide) (fun c8 => ?_) (fun c8 => ?_)
    · replace e := x_ift c8 e
      obtain rfl := Option.some.inj e
      exact K0
    · replace e := x_iff c8 e
      refine r_aload_n DX8_here_11 (i := 0) rfl rfl ?_
      refine r_get (v := .ref (xa g 52)) DX8_here_12 F_X8_38 e_44 rfl ?_
      refine r_aload_n DX8_here_15 (i := 0) rfl rfl ?_
      refine r_get (v := .int (gI b 16)) DX8_here_16 F_X8_186 e_44 rfl ?_
      obtain ⟨c19, e⟩ := x_grd e
      refine r_iald (f := (gA b 52)) DX8_here_19 e_52 rfl c19 ?_
      refine r_bipush DX8_here_20 (v := 32) (by decide) ?_
      refine r_icmp_ne DX8_here_22 (tgt := 38) (by decide) (fun c22 => ?_) (fun c22 => ?_)
      · replace e := x_iff c22 e
        obtain rfl := Option.some.inj e
        exact K0
      · replace e := x_ift c22 e
        refine r_aload_n DX8_here_25 (i := 0) rfl rfl ?_
        refine r_dup DX8_here_26 rfl ?_
        refine r_get (v := .int (gI b 16)) DX8_here_27 F_X8_186 e_44 rfl ?_
        refine r_iconst DX8_here_30 (v := 1) (by decide) ?_
        refine r_iadd DX8_here_31 ?_
        refine r_put (ty := .int) DX8_here_32 F_X8_186 Fp_8_16 e_44 rfl rfl (Nat.le_of_ble_eq_true rfl) p_44_16 ?_
        refine r_goto DX8_here_35 (tgt := 0) (by decide) ?_
        exact ih _ _ e K0

set_option maxRecDepth 100000 in
set_option maxHeartbeats 4000000 in
theorem t_X8_here {l : Launch} {g : xG} {a : xT} (N : Nat) (b : xT)  {r : (Int32 × xT)} (e : f_X8_here N b = some r) : Ev l g 0 yX8_here M_X8_here [.ref (xa g 44)] (a, b) (some (.int r.1), (a, r.2)) := by
  unfold f_X8_here at e
  refine Ev.of 0 (L0 := [some (.ref (xa g 44))]) (by decide) rfl (Nat.le_of_ble_eq_true rfl) rfl ?_
  obtain ⟨q0, e0, e⟩ := x_bnd e
  refine lp_X8_here_L0  N b q0 e0 ?_
  refine r_aload_n DX8_here_38 (i := 0) rfl rfl ?_
  refine r_get (v := .int (gI q0 16)) DX8_here_39 F_X8_186 e_44 rfl ?_
  refine r_aload_n DX8_here_42 (i := 0) rfl rfl ?_
  refine r_get (v := .int (gI q0 14)) DX8_here_43 F_X8_181 e_44 rfl ?_
  refine r_icmp_ge DX8_here_46 (tgt := 61) (by decide) (fun c46 => ?_) (fun c46 => ?_)
  · replace e := x_ift c46 e
    refine r_iconst DX8_here_61 (v := (-1)) (by decide) ?_
    obtain rfl := Option.some.inj e
    exact r_iret DX8_here_62 rfl rfl
  · replace e := x_iff c46 e
    refine r_aload_n DX8_here_49 (i := 0) rfl rfl ?_
    refine r_get (v := .ref (xa g 52)) DX8_here_50 F_X8_38 e_44 rfl ?_
    refine r_aload_n DX8_here_53 (i := 0) rfl rfl ?_
    refine r_get (v := .int (gI q0 16)) DX8_here_54 F_X8_186 e_44 rfl ?_
    obtain ⟨c57, e⟩ := x_grd e
    refine r_iald (f := (gA q0 52)) DX8_here_57 e_52 rfl c57 ?_
    refine r_goto DX8_here_58 (tgt := 62) (by decide) ?_
    obtain rfl := Option.some.inj e
    exact r_iret DX8_here_62 rfl rfl

set_option maxRecDepth 100000 in
set_option maxHeartbeats 4000000 in
theorem t_X8_hold {l : Launch} {g : xG} {a : xT} (v1 : Int32) (b : xT)  {r : xT} (e : f_X8_hold v1 b = some r) : Ev l g 0 yX8_hold M_X8_hold [.ref (xa g 44), .int v1] (a, b) (none, (a, r)) := by
  unfold f_X8_hold at e
  refine Ev.of 0 (L0 := [some (.ref (xa g 44)), some (.int v1)]) (by decide) rfl (Nat.le_of_ble_eq_true rfl) rfl ?_
  refine r_aload_n DX8_hold_0 (i := 0) rfl rfl ?_
  refine r_get (v := .ref (xa g 55)) DX8_hold_1 F_X8_50 e_44 rfl ?_
  refine r_aload_n DX8_hold_4 (i := 0) rfl rfl ?_
  refine r_get (v := .int (gI b 23)) DX8_hold_5 F_X8_225 e_44 rfl ?_
  refine r_iload_n DX8_hold_8 (i := 1) rfl rfl ?_
  obtain ⟨c9, e⟩ := x_grd e
  refine r_iast (f := (gA b 55)) DX8_hold_9 e_55 rfl c9 p_55 ?_
  refine r_aload_n DX8_hold_10 (i := 0) rfl rfl ?_
  refine r_dup DX8_hold_11 rfl ?_
  refine r_get (v := .int (gI b 23)) DX8_hold_12 F_X8_225 e_44 rfl ?_
  refine r_iconst DX8_hold_15 (v := 1) (by decide) ?_
  refine r_iadd DX8_hold_16 ?_
  refine r_put (ty := .int) DX8_hold_17 F_X8_225 Fp_8_23 e_44 rfl rfl (Nat.le_of_ble_eq_true rfl) p_44_23 ?_
  obtain rfl := Option.some.inj e
  exact r_vret DX8_hold_20 rfl rfl

set_option maxRecDepth 100000 in
set_option maxHeartbeats 4000000 in
theorem lp_X8_sumOf_L4 {l : Launch} {g : xG} {a : xT} {R : Option Value × xS} (v1 : Int32) (b : xT) : ∀ (n : Nat) (v2 : Int32) (v3 : Int32) (r : (Int32)), f_X8_sumOf_L4 v1 b n v2 v3 = some r → Rx l g 0 M_X8_sumOf 30 [none, none, some (.int r), none] [] (a, b) R → Rx l g 0 M_X8_sumOf 4 [some (.ref (xa g 44)), some (.int v1), some (.int v2), some (.int v3)] [] (a, b) R := by
  intro n
  induction n with
  | zero => intro v2_ v3_ r_ e; cases e
  | succ n ih =>
    intro v2 v3 r e K0
    rw [f_X8_sumOf_L4] at e
    refine r_iload_n DX8_sumOf_4 (i := 3) rfl rfl ?_
    refine r_aload_n DX8_sumOf_5 (i := 0) rfl rfl ?_
    refine r_get (v := .int (gI b 0)) DX8_sumOf_6 F_X8_7 e_44 rfl ?_
    refine r_icmp_ge DX8_sumOf_9 (tgt := 30) (by decide) (fun c9 => ?_) (fun c9 => ?_)
    · replace e := x_ift c9 e
      obtain rfl := Option.some.inj e
      refine r_mask (L' := [none, none, some (.int v2), none]) [false, false, true, false] rfl ?_
      exact K0
    · replace e := x_iff c9 e
      refine r_iload_n DX8_sumOf_12 (i := 2) rfl rfl ?_
      refine r_iload_n DX8_sumOf_13 (i := 1) rfl rfl ?_
      refine r_iload_n DX8_sumOf_14 (i := 3) rfl rfl ?_
      refine r_ishr DX8_sumOf_15 ?_
      refine r_iconst DX8_sumOf_16 (v := 1) (by decide) ?_
      refine r_iand DX8_sumOf_17 ?_
      refine r_iload_n DX8_sumOf_18 (i := 3) rfl rfl ?_
      refine r_iconst DX8_sumOf_19 (v := 1) (by decide) ?_
      refine r_iadd DX8_sumOf_20 ?_
      refine r_imul DX8_sumOf_21 ?_
      refine r_iadd DX8_sumOf_22 ?_
      obtain ⟨w23, e23, e⟩ := x_bnd e
      refine r_istore_nB (L' := [some (.ref (xa g 44)), some (.int v1), some (.int w23), some (.int v3)]) (w := w23) DX8_sumOf_23 (Option.some.inj e23) (i := 2) rfl (by decide) rfl rfl ?_
      refine r_iinc (L' := [some (.ref (xa g 44)), some (.int v1), some (.int w23), some (.int (v3 + 1))]) DX8_sumOf_24 (x := v3) (v := (v3 + 1)) rfl rfl (by decide) rfl rfl ?_
      refine r_goto DX8_sumOf_27 (tgt := 4) (by decide) ?_
      exact ih _ _ _ e K0

set_option maxRecDepth 100000 in
set_option maxHeartbeats 4000000 in
theorem t_X8_sumOf {l : Launch} {g : xG} {a : xT} (N : Nat) (v1 : Int32) (b : xT)  {r : Int32} (e : f_X8_sumOf N v1 b = some r) : Ev l g 0 yX8_sumOf M_X8_sumOf [.ref (xa g 44), .int v1] (a, b) (some (.int r), (a, b)) := by
  unfold f_X8_sumOf at e
  refine Ev.of 2 (L0 := [some (.ref (xa g 44)), some (.int v1), none, none]) (by decide) rfl (Nat.le_of_ble_eq_true rfl) rfl ?_
  refine r_iconst DX8_sumOf_0 (v := 0) (by decide) ?_
  refine r_istore_n (L' := [some (.ref (xa g 44)), some (.int v1), some (.int 0), none]) DX8_sumOf_1 (i := 2) rfl (by decide) rfl rfl ?_
  refine r_iconst DX8_sumOf_2 (v := 0) (by decide) ?_
  refine r_istore_n (L' := [some (.ref (xa g 44)), some (.int v1), some (.int 0), some (.int 0)]) DX8_sumOf_3 (i := 3) rfl (by decide) rfl rfl ?_
  obtain ⟨q4, e4, e⟩ := x_bnd e
  refine lp_X8_sumOf_L4 v1 b N 0 0 q4 e4 ?_
  refine r_iload_n DX8_sumOf_30 (i := 2) rfl rfl ?_
  obtain rfl := Option.some.inj e
  exact r_iret DX8_sumOf_31 rfl rfl

set_option maxRecDepth 100000 in
set_option maxHeartbeats 4000000 in
theorem t_X8_isSo {l : Launch} {g : xG} {a : xT} (N : Nat) (v1 : Int32) (v2 : Int32) (v3 : Int32) (b : xT)  {r : Int32} (e : f_X8_isSo N v1 v2 v3 b = some r) : Ev l g 2 yX8_isSo M_X8_isSo [.ref (xa g 44), .int v1, .int v2, .int v3] (a, b) (some (.int r), (a, b)) := by
  unfold f_X8_isSo at e
  refine Ev.of 0 (L0 := [some (.ref (xa g 44)), some (.int v1), some (.int v2), some (.int v3)]) (by decide) rfl (Nat.le_of_ble_eq_true rfl) rfl ?_
  refine r_iload_n DX8_isSo_0 (i := 1) rfl rfl ?_
  by_cases c1_0 : v1 = 3
  · replace e := x_ift c1_0 e
    refine r_tsIn DX8_isSo_1 (tgt := 36) (by rw [c1_0]; decide) (by rw [c1_0]; decide) (by rw [c1_0]; rfl) (by decide) ?_
    refine r_iload_n DX8_isSo_36 (i := 3) rfl rfl ?_
    obtain ⟨q37, e37, e⟩ := x_bnd e
    refine r_callS1 (As := [.int v3]) (S := []) DX8_isSo_37 C_X8_101 (by decide) (by decide) (Nat.le_of_ble_eq_true rfl) (t_X8_bits N v3 e37) rfl ?_
    refine r_iload_n DX8_isSo_40 (i := 2) rfl rfl ?_
    refine r_icmp_ne DX8_isSo_41 (tgt := 48) (by decide) (fun c41 => ?_) (fun c41 => ?_)
    · replace e := x_iff c41 e
      refine r_iconst DX8_isSo_48 (v := 0) (by decide) ?_
      obtain rfl := Option.some.inj e
      exact r_zret DX8_isSo_49 rfl (by decide) rfl
    · replace e := x_ift c41 e
      refine r_iconst DX8_isSo_44 (v := 1) (by decide) ?_
      refine r_goto DX8_isSo_45 (tgt := 49) (by decide) ?_
      obtain rfl := Option.some.inj e
      exact r_zret DX8_isSo_49 rfl (by decide) rfl
  replace e := x_iff c1_0 e
  by_cases c1_1 : v1 = 4
  · replace e := x_ift c1_1 e
    refine r_tsIn DX8_isSo_1 (tgt := 50) (by rw [c1_1]; decide) (by rw [c1_1]; decide) (by rw [c1_1]; rfl) (by decide) ?_
    refine r_aload_n DX8_isSo_50 (i := 0) rfl rfl ?_
    refine r_iload_n DX8_isSo_51 (i := 3) rfl rfl ?_
    obtain ⟨q52, e52, e⟩ := x_bnd e
    refine r_callV1 (As := [.int v3]) (S := []) DX8_isSo_52 C_X8_260 (ci := 8) rfl rfl e_44 (by decide) (by decide) (Nat.le_of_ble_eq_true rfl) (t_X8_sumOf N v3 b e52) rfl ?_
    refine r_iload_n DX8_isSo_55 (i := 2) rfl rfl ?_
    refine r_bipush DX8_isSo_56 (v := 100) (by decide) ?_
    refine r_irem DX8_isSo_58 (by decide) ?_
    obtain ⟨c59, e⟩ := x_grd e
    refine r_irem DX8_isSo_59 c59 ?_
    refine r_iload_n DX8_isSo_60 (i := 2) rfl rfl ?_
    refine r_bipush DX8_isSo_61 (v := 100) (by decide) ?_
    refine r_idiv DX8_isSo_63 (by decide) ?_
    refine r_icmp_ne DX8_isSo_64 (tgt := 71) (by decide) (fun c64 => ?_) (fun c64 => ?_)
    · replace e := x_iff c64 e
      refine r_iconst DX8_isSo_71 (v := 0) (by decide) ?_
      obtain rfl := Option.some.inj e
      exact r_zret DX8_isSo_72 rfl (by decide) rfl
    · replace e := x_ift c64 e
      refine r_iconst DX8_isSo_67 (v := 1) (by decide) ?_
      refine r_goto DX8_isSo_68 (tgt := 72) (by decide) ?_
      obtain rfl := Option.some.inj e
      exact r_zret DX8_isSo_72 rfl (by decide) rfl
  replace e := x_iff c1_1 e
  by_cases c1_2 : v1 = 5
  · replace e := x_ift c1_2 e
    refine r_tsIn DX8_isSo_1 (tgt := 73) (by rw [c1_2]; decide) (by rw [c1_2]; decide) (by rw [c1_2]; rfl) (by decide) ?_
    refine r_iload_n DX8_isSo_73 (i := 3) rfl rfl ?_
    refine r_iload_n DX8_isSo_74 (i := 2) rfl rfl ?_
    refine r_ishr DX8_isSo_75 ?_
    refine r_iconst DX8_isSo_76 (v := 1) (by decide) ?_
    refine r_iand DX8_isSo_77 ?_
    refine r_iconst DX8_isSo_78 (v := 1) (by decide) ?_
    refine r_icmp_ne DX8_isSo_79 (tgt := 86) (by decide) (fun c79 => ?_) (fun c79 => ?_)
    · replace e := x_iff c79 e
      refine r_iconst DX8_isSo_86 (v := 0) (by decide) ?_
      obtain rfl := Option.some.inj e
      exact r_zret DX8_isSo_87 rfl (by decide) rfl
    · replace e := x_ift c79 e
      refine r_iconst DX8_isSo_82 (v := 1) (by decide) ?_
      refine r_goto DX8_isSo_83 (tgt := 87) (by decide) ?_
      obtain rfl := Option.some.inj e
      exact r_zret DX8_isSo_87 rfl (by decide) rfl
  replace e := x_iff c1_2 e
  by_cases c1_3 : v1 = 6
  · replace e := x_ift c1_3 e
    refine r_tsIn DX8_isSo_1 (tgt := 88) (by rw [c1_3]; decide) (by rw [c1_3]; decide) (by rw [c1_3]; rfl) (by decide) ?_
    refine r_iload_n DX8_isSo_88 (i := 3) rfl rfl ?_
    refine r_iload_n DX8_isSo_89 (i := 3) rfl rfl ?_
    refine r_iconst DX8_isSo_90 (v := 1) (by decide) ?_
    refine r_ishl DX8_isSo_91 ?_
    refine r_iconst DX8_isSo_92 (v := (-1)) (by decide) ?_
    refine r_ixor DX8_isSo_93 ?_
    refine r_iand DX8_isSo_94 ?_
    obtain ⟨q95, e95, e⟩ := x_bnd e
    refine r_callS1 (As := [.int (v3 &&& ((v3 <<< (1 &&& 31)) ^^^ (-1)))]) (S := []) DX8_isSo_95 C_X8_101 (by decide) (by decide) (Nat.le_of_ble_eq_true rfl) (t_X8_bits N (v3 &&& ((v3 <<< (1 &&& 31)) ^^^ (-1))) e95) rfl ?_
    refine r_iload_n DX8_isSo_98 (i := 2) rfl rfl ?_
    refine r_icmp_ne DX8_isSo_99 (tgt := 106) (by decide) (fun c99 => ?_) (fun c99 => ?_)
    · replace e := x_iff c99 e
      refine r_iconst DX8_isSo_106 (v := 0) (by decide) ?_
      obtain rfl := Option.some.inj e
      exact r_zret DX8_isSo_107 rfl (by decide) rfl
    · replace e := x_ift c99 e
      refine r_iconst DX8_isSo_102 (v := 1) (by decide) ?_
      refine r_goto DX8_isSo_103 (tgt := 107) (by decide) ?_
      obtain rfl := Option.some.inj e
      exact r_zret DX8_isSo_107 rfl (by decide) rfl
  replace e := x_iff c1_3 e
  by_cases c1_4 : v1 = 7
  · replace e := x_ift c1_4 e
    refine r_tsIn DX8_isSo_1 (tgt := 108) (by rw [c1_4]; decide) (by rw [c1_4]; decide) (by rw [c1_4]; rfl) (by decide) ?_
    refine r_aload_n DX8_isSo_108 (i := 0) rfl rfl ?_
    refine r_iload_n DX8_isSo_109 (i := 3) rfl rfl ?_
    obtain ⟨q110, e110, e⟩ := x_bnd e
    refine r_callV1 (As := [.int v3]) (S := []) DX8_isSo_110 C_X8_97 (ci := 8) rfl rfl e_44 (by decide) (by decide) (Nat.le_of_ble_eq_true rfl) (t_X8_turnedOf N v3 b e110) rfl ?_
    refine r_iload_n DX8_isSo_113 (i := 3) rfl rfl ?_
    refine r_icmp_ne DX8_isSo_114 (tgt := 121) (by decide) (fun c114 => ?_) (fun c114 => ?_)
    · replace e := x_iff c114 e
      refine r_iconst DX8_isSo_121 (v := 0) (by decide) ?_
      obtain rfl := Option.some.inj e
      exact r_zret DX8_isSo_122 rfl (by decide) rfl
    · replace e := x_ift c114 e
      refine r_iconst DX8_isSo_117 (v := 1) (by decide) ?_
      refine r_goto DX8_isSo_118 (tgt := 122) (by decide) ?_
      obtain rfl := Option.some.inj e
      exact r_zret DX8_isSo_122 rfl (by decide) rfl
  replace e := x_iff c1_4 e
  refine r_tsOut DX8_isSo_1 (tgt := 123) (x_out3_7 (x_ne c1_0) (x_ne c1_1) (x_ne c1_2) (x_ne c1_3) (x_ne c1_4)) (by decide) ?_
  refine r_aload_n DX8_isSo_123 (i := 0) rfl rfl ?_
  refine r_iload_n DX8_isSo_124 (i := 2) rfl rfl ?_
  refine r_iload_n DX8_isSo_125 (i := 3) rfl rfl ?_
  obtain ⟨q126, e126, e⟩ := x_bnd e
  refine r_callV1 (As := [.int v2, .int v3]) (S := []) DX8_isSo_126 C_X8_141 (ci := 8) rfl rfl e_44 (by decide) (by decide) (Nat.le_of_ble_eq_true rfl) (t_X8_has N v2 v3 b e126) rfl ?_
  obtain ⟨c129, e⟩ := x_grd e
  obtain rfl := Option.some.inj e
  exact r_zret DX8_isSo_129 rfl (congrArg Value.int c129) rfl

set_option maxRecDepth 100000 in
set_option maxHeartbeats 4000000 in
theorem lp_X8_holds_L4 {l : Launch} {g : xG} {a : xT} {R : Option Value × xS} (N : Nat) (v1 : Int32) : ∀ (n : Nat) (v2 : Int32) (v3 : Int32) (b : xT) (r : (xT)), f_X8_holds_L4 N v1 n v2 v3 b = some r → Rx l g 3 M_X8_holds 167 [some (.ref (xa g 44)), none, none, none] [] (a, r) R → Rx l g 3 M_X8_holds 4 [some (.ref (xa g 44)), some (.int v1), some (.int v2), some (.int v3)] [] (a, b) R := by
  intro n
  induction n with
  | zero => intro v2_ v3_ s_ r_ e; cases e
  | succ n ih =>
    intro v2 v3 b r e K0
    rw [f_X8_holds_L4] at e
    refine r_iload_n DX8_holds_4 (i := 3) rfl rfl ?_
    refine r_aload_n DX8_holds_5 (i := 0) rfl rfl ?_
    refine r_get (v := .int (gI b 20)) DX8_holds_6 F_X8_222 e_44 rfl ?_
    refine r_icmp_ge DX8_holds_9 (tgt := 167) (by decide) (fun c9 => ?_) (fun c9 => ?_)
    · replace e := x_ift c9 e
      obtain rfl := Option.some.inj e
      refine r_mask (L' := [some (.ref (xa g 44)), none, none, none]) [true, false, false, false] rfl ?_
      exact K0
    · replace e := x_iff c9 e
      refine r_aload_n DX8_holds_12 (i := 0) rfl rfl ?_
      refine r_get (v := .ref (xa g 53)) DX8_holds_13 F_X8_44 e_44 rfl ?_
      refine r_iload_n DX8_holds_16 (i := 3) rfl rfl ?_
      obtain ⟨c17, e⟩ := x_grd e
      refine r_iald (f := (gA b 53)) DX8_holds_17 e_53 rfl c17 ?_
      refine r_iconst DX8_holds_18 (v := 2) (by decide) ?_
      refine r_icmp_ge DX8_holds_19 (tgt := 98) (by decide) (fun c19 => ?_) (fun c19 => ?_)
      · replace e := x_ift c19 e
        refine r_aload_n DX8_holds_98 (i := 0) rfl rfl ?_
        refine r_get (v := .ref (xa g 53)) DX8_holds_99 F_X8_44 e_44 rfl ?_
        refine r_iload_n DX8_holds_102 (i := 3) rfl rfl ?_
        obtain ⟨c103, e⟩ := x_grd e
        refine r_iald (f := (gA b 53)) DX8_holds_103 e_53 rfl c103 ?_
        refine r_iconst DX8_holds_104 (v := 2) (by decide) ?_
        refine r_icmp_ne DX8_holds_105 (tgt := 135) (by decide) (fun c105 => ?_) (fun c105 => ?_)
        · replace e := x_iff c105 e
          refine r_aload_n DX8_holds_135 (i := 0) rfl rfl ?_
          refine r_get (v := .ref (xa g 56)) DX8_holds_136 F_X8_53 e_44 rfl ?_
          refine r_iload_n DX8_holds_139 (i := 2) rfl rfl ?_
          refine r_aload_n DX8_holds_140 (i := 0) rfl rfl ?_
          refine r_aload_n DX8_holds_141 (i := 0) rfl rfl ?_
          refine r_get (v := .ref (xa g 53)) DX8_holds_142 F_X8_44 e_44 rfl ?_
          refine r_iload_n DX8_holds_145 (i := 3) rfl rfl ?_
          obtain ⟨c146, e⟩ := x_grd e
          refine r_iald (f := (gA b 53)) DX8_holds_146 e_53 rfl c146 ?_
          refine r_aload_n DX8_holds_147 (i := 0) rfl rfl ?_
          refine r_get (v := .ref (xa g 54)) DX8_holds_148 F_X8_47 e_44 rfl ?_
          refine r_iload_n DX8_holds_151 (i := 3) rfl rfl ?_
          obtain ⟨c152, e⟩ := x_grd e
          refine r_iald (f := (gA b 54)) DX8_holds_152 e_54 rfl c152 ?_
          refine r_iload_n DX8_holds_153 (i := 1) rfl rfl ?_
          obtain ⟨q154, e154, e⟩ := x_bnd e
          refine r_callV1 (As := [.int ((gA b 53) (Int32.toNatClampNeg v3)), .int ((gA b 54) (Int32.toNatClampNeg v3)), .int v1]) (S := [.int v2, .ref (xa g 56)]) DX8_holds_154 C_X8_263 (ci := 8) rfl rfl e_44 (by decide) (by decide) (Nat.le_of_ble_eq_true rfl) (t_X8_isSo N ((gA b 53) (Int32.toNatClampNeg v3)) ((gA b 54) (Int32.toNatClampNeg v3)) v1 b e154) rfl ?_
          obtain ⟨c157, e⟩ := x_grd e
          refine r_zast (f := (gA b 56)) DX8_holds_157 e_56 rfl c157 p_56 ?_
          refine r_iinc (L' := [some (.ref (xa g 44)), some (.int v1), some (.int (v2 + 1)), some (.int v3)]) DX8_holds_158 (x := v2) (v := (v2 + 1)) rfl rfl (by decide) rfl rfl ?_
          refine r_iinc (L' := [some (.ref (xa g 44)), some (.int v1), some (.int (v2 + 1)), some (.int (v3 + 1))]) DX8_holds_161 (x := v3) (v := (v3 + 1)) rfl rfl (by decide) rfl rfl ?_
          refine r_goto DX8_holds_164 (tgt := 4) (by decide) ?_
          exact ih _ _ _ _ e K0
        · replace e := x_ift c105 e
          refine r_aload_n DX8_holds_108 (i := 0) rfl rfl ?_
          refine r_get (v := .ref (xa g 56)) DX8_holds_109 F_X8_53 e_44 rfl ?_
          refine r_iload_n DX8_holds_112 (i := 2) rfl rfl ?_
          refine r_iconst DX8_holds_113 (v := 1) (by decide) ?_
          refine r_isub DX8_holds_114 ?_
          refine r_aload_n DX8_holds_115 (i := 0) rfl rfl ?_
          refine r_get (v := .ref (xa g 56)) DX8_holds_116 F_X8_53 e_44 rfl ?_
          refine r_iload_n DX8_holds_119 (i := 2) rfl rfl ?_
          refine r_iconst DX8_holds_120 (v := 1) (by decide) ?_
          refine r_isub DX8_holds_121 ?_
          obtain ⟨c122, e⟩ := x_grd e
          refine r_zald (f := (gA b 56)) DX8_holds_122 e_56 rfl c122 ?_
          refine r_if_ne DX8_holds_123 (tgt := 130) (by decide) (fun c123 => ?_) (fun c123 => ?_)
          · replace e := x_iff c123 e
            refine r_iconst DX8_holds_130 (v := 0) (by decide) ?_
            obtain ⟨c131, e⟩ := x_grd e
            refine r_zast (f := (gA b 56)) DX8_holds_131 e_56 rfl c131 p_56 ?_
            refine r_goto DX8_holds_132 (tgt := 161) (by decide) ?_
            refine r_iinc (L' := [some (.ref (xa g 44)), some (.int v1), some (.int v2), some (.int (v3 + 1))]) DX8_holds_161 (x := v3) (v := (v3 + 1)) rfl rfl (by decide) rfl rfl ?_
            refine r_goto DX8_holds_164 (tgt := 4) (by decide) ?_
            exact ih _ _ _ _ e K0
          · replace e := x_ift c123 e
            refine r_iconst DX8_holds_126 (v := 1) (by decide) ?_
            refine r_goto DX8_holds_127 (tgt := 131) (by decide) ?_
            obtain ⟨c131, e⟩ := x_grd e
            refine r_zast (f := (gA b 56)) DX8_holds_131 e_56 rfl c131 p_56 ?_
            refine r_goto DX8_holds_132 (tgt := 161) (by decide) ?_
            refine r_iinc (L' := [some (.ref (xa g 44)), some (.int v1), some (.int v2), some (.int (v3 + 1))]) DX8_holds_161 (x := v3) (v := (v3 + 1)) rfl rfl (by decide) rfl rfl ?_
            refine r_goto DX8_holds_164 (tgt := 4) (by decide) ?_
            exact ih _ _ _ _ e K0
      · replace e := x_iff c19 e
        refine r_iinc (L' := [some (.ref (xa g 44)), some (.int v1), some (.int (v2 + (-1))), some (.int v3)]) DX8_holds_22 (x := v2) (v := (v2 + (-1))) rfl rfl (by decide) rfl rfl ?_
        refine r_aload_n DX8_holds_25 (i := 0) rfl rfl ?_
        refine r_get (v := .ref (xa g 56)) DX8_holds_26 F_X8_53 e_44 rfl ?_
        refine r_iload_n DX8_holds_29 (i := 2) rfl rfl ?_
        refine r_iconst DX8_holds_30 (v := 1) (by decide) ?_
        refine r_isub DX8_holds_31 ?_
        refine r_aload_n DX8_holds_32 (i := 0) rfl rfl ?_
        refine r_get (v := .ref (xa g 53)) DX8_holds_33 F_X8_44 e_44 rfl ?_
        refine r_iload_n DX8_holds_36 (i := 3) rfl rfl ?_
        obtain ⟨c37, e⟩ := x_grd e
        refine r_iald (f := (gA b 53)) DX8_holds_37 e_53 rfl c37 ?_
        refine r_if_ne DX8_holds_38 (tgt := 69) (by decide) (fun c38 => ?_) (fun c38 => ?_)
        · replace e := x_iff c38 e
          refine r_aload_n DX8_holds_69 (i := 0) rfl rfl ?_
          refine r_get (v := .ref (xa g 56)) DX8_holds_70 F_X8_53 e_44 rfl ?_
          refine r_iload_n DX8_holds_73 (i := 2) rfl rfl ?_
          refine r_iconst DX8_holds_74 (v := 1) (by decide) ?_
          refine r_isub DX8_holds_75 ?_
          obtain ⟨c76, e⟩ := x_grd e
          refine r_zald (f := (gA b 56)) DX8_holds_76 e_56 rfl c76 ?_
          refine r_if_eq DX8_holds_77 (tgt := 93) (by decide) (fun c77 => ?_) (fun c77 => ?_)
          · replace e := x_ift c77 e
            refine r_iconst DX8_holds_93 (v := 0) (by decide) ?_
            obtain ⟨c94, e⟩ := x_grd e
            refine r_zast (f := (gA b 56)) DX8_holds_94 e_56 rfl c94 p_56 ?_
            refine r_goto DX8_holds_95 (tgt := 161) (by decide) ?_
            refine r_iinc (L' := [some (.ref (xa g 44)), some (.int v1), some (.int (v2 + (-1))), some (.int (v3 + 1))]) DX8_holds_161 (x := v3) (v := (v3 + 1)) rfl rfl (by decide) rfl rfl ?_
            refine r_goto DX8_holds_164 (tgt := 4) (by decide) ?_
            exact ih _ _ _ _ e K0
          · replace e := x_iff c77 e
            refine r_aload_n DX8_holds_80 (i := 0) rfl rfl ?_
            refine r_get (v := .ref (xa g 56)) DX8_holds_81 F_X8_53 e_44 rfl ?_
            refine r_iload_n DX8_holds_84 (i := 2) rfl rfl ?_
            obtain ⟨c85, e⟩ := x_grd e
            refine r_zald (f := (gA b 56)) DX8_holds_85 e_56 rfl c85 ?_
            refine r_if_eq DX8_holds_86 (tgt := 93) (by decide) (fun c86 => ?_) (fun c86 => ?_)
            · replace e := x_ift c86 e
              refine r_iconst DX8_holds_93 (v := 0) (by decide) ?_
              obtain ⟨c94, e⟩ := x_grd e
              refine r_zast (f := (gA b 56)) DX8_holds_94 e_56 rfl c94 p_56 ?_
              refine r_goto DX8_holds_95 (tgt := 161) (by decide) ?_
              refine r_iinc (L' := [some (.ref (xa g 44)), some (.int v1), some (.int (v2 + (-1))), some (.int (v3 + 1))]) DX8_holds_161 (x := v3) (v := (v3 + 1)) rfl rfl (by decide) rfl rfl ?_
              refine r_goto DX8_holds_164 (tgt := 4) (by decide) ?_
              exact ih _ _ _ _ e K0
            · replace e := x_iff c86 e
              refine r_iconst DX8_holds_89 (v := 1) (by decide) ?_
              refine r_goto DX8_holds_90 (tgt := 94) (by decide) ?_
              obtain ⟨c94, e⟩ := x_grd e
              refine r_zast (f := (gA b 56)) DX8_holds_94 e_56 rfl c94 p_56 ?_
              refine r_goto DX8_holds_95 (tgt := 161) (by decide) ?_
              refine r_iinc (L' := [some (.ref (xa g 44)), some (.int v1), some (.int (v2 + (-1))), some (.int (v3 + 1))]) DX8_holds_161 (x := v3) (v := (v3 + 1)) rfl rfl (by decide) rfl rfl ?_
              refine r_goto DX8_holds_164 (tgt := 4) (by decide) ?_
              exact ih _ _ _ _ e K0
        · replace e := x_ift c38 e
          refine r_aload_n DX8_holds_41 (i := 0) rfl rfl ?_
          refine r_get (v := .ref (xa g 56)) DX8_holds_42 F_X8_53 e_44 rfl ?_
          refine r_iload_n DX8_holds_45 (i := 2) rfl rfl ?_
          refine r_iconst DX8_holds_46 (v := 1) (by decide) ?_
          refine r_isub DX8_holds_47 ?_
          obtain ⟨c48, e⟩ := x_grd e
          refine r_zald (f := (gA b 56)) DX8_holds_48 e_56 rfl c48 ?_
          refine r_if_ne DX8_holds_49 (tgt := 61) (by decide) (fun c49 => ?_) (fun c49 => ?_)
          · replace e := x_iff c49 e
            refine r_iconst DX8_holds_61 (v := 1) (by decide) ?_
            refine r_goto DX8_holds_62 (tgt := 94) (by decide) ?_
            obtain ⟨c94, e⟩ := x_grd e
            refine r_zast (f := (gA b 56)) DX8_holds_94 e_56 rfl c94 p_56 ?_
            refine r_goto DX8_holds_95 (tgt := 161) (by decide) ?_
            refine r_iinc (L' := [some (.ref (xa g 44)), some (.int v1), some (.int (v2 + (-1))), some (.int (v3 + 1))]) DX8_holds_161 (x := v3) (v := (v3 + 1)) rfl rfl (by decide) rfl rfl ?_
            refine r_goto DX8_holds_164 (tgt := 4) (by decide) ?_
            exact ih _ _ _ _ e K0
          · replace e := x_ift c49 e
            refine r_aload_n DX8_holds_52 (i := 0) rfl rfl ?_
            refine r_get (v := .ref (xa g 56)) DX8_holds_53 F_X8_53 e_44 rfl ?_
            refine r_iload_n DX8_holds_56 (i := 2) rfl rfl ?_
            obtain ⟨c57, e⟩ := x_grd e
            refine r_zald (f := (gA b 56)) DX8_holds_57 e_56 rfl c57 ?_
            refine r_if_eq DX8_holds_58 (tgt := 65) (by decide) (fun c58 => ?_) (fun c58 => ?_)
            · replace e := x_ift c58 e
              refine r_iconst DX8_holds_65 (v := 0) (by decide) ?_
              refine r_goto DX8_holds_66 (tgt := 94) (by decide) ?_
              obtain ⟨c94, e⟩ := x_grd e
              refine r_zast (f := (gA b 56)) DX8_holds_94 e_56 rfl c94 p_56 ?_
              refine r_goto DX8_holds_95 (tgt := 161) (by decide) ?_
              refine r_iinc (L' := [some (.ref (xa g 44)), some (.int v1), some (.int (v2 + (-1))), some (.int (v3 + 1))]) DX8_holds_161 (x := v3) (v := (v3 + 1)) rfl rfl (by decide) rfl rfl ?_
              refine r_goto DX8_holds_164 (tgt := 4) (by decide) ?_
              exact ih _ _ _ _ e K0
            · replace e := x_iff c58 e
              refine r_iconst DX8_holds_61 (v := 1) (by decide) ?_
              refine r_goto DX8_holds_62 (tgt := 94) (by decide) ?_
              obtain ⟨c94, e⟩ := x_grd e
              refine r_zast (f := (gA b 56)) DX8_holds_94 e_56 rfl c94 p_56 ?_
              refine r_goto DX8_holds_95 (tgt := 161) (by decide) ?_
              refine r_iinc (L' := [some (.ref (xa g 44)), some (.int v1), some (.int (v2 + (-1))), some (.int (v3 + 1))]) DX8_holds_161 (x := v3) (v := (v3 + 1)) rfl rfl (by decide) rfl rfl ?_
              refine r_goto DX8_holds_164 (tgt := 4) (by decide) ?_
              exact ih _ _ _ _ e K0

set_option maxRecDepth 100000 in
set_option maxHeartbeats 4000000 in
theorem t_X8_holds {l : Launch} {g : xG} {a : xT} (N : Nat) (v1 : Int32) (b : xT)  {r : (Int32 × xT)} (e : f_X8_holds N v1 b = some r) : Ev l g 3 yX8_holds M_X8_holds [.ref (xa g 44), .int v1] (a, b) (some (.int r.1), (a, r.2)) := by
  unfold f_X8_holds at e
  refine Ev.of 2 (L0 := [some (.ref (xa g 44)), some (.int v1), none, none]) (by decide) rfl (Nat.le_of_ble_eq_true rfl) rfl ?_
  refine r_iconst DX8_holds_0 (v := 0) (by decide) ?_
  refine r_istore_n (L' := [some (.ref (xa g 44)), some (.int v1), some (.int 0), none]) DX8_holds_1 (i := 2) rfl (by decide) rfl rfl ?_
  refine r_iconst DX8_holds_2 (v := 0) (by decide) ?_
  refine r_istore_n (L' := [some (.ref (xa g 44)), some (.int v1), some (.int 0), some (.int 0)]) DX8_holds_3 (i := 3) rfl (by decide) rfl rfl ?_
  obtain ⟨q4, e4, e⟩ := x_bnd e
  refine lp_X8_holds_L4 N v1 N 0 0 b q4 e4 ?_
  refine r_aload_n DX8_holds_167 (i := 0) rfl rfl ?_
  refine r_get (v := .ref (xa g 56)) DX8_holds_168 F_X8_53 e_44 rfl ?_
  refine r_iconst DX8_holds_171 (v := 0) (by decide) ?_
  obtain ⟨c172, e⟩ := x_grd e
  refine r_zald (f := (gA q4 56)) DX8_holds_172 e_56 rfl c172 ?_
  obtain ⟨c173, e⟩ := x_grd e
  obtain rfl := Option.some.inj e
  exact r_zret DX8_holds_173 rfl (congrArg Value.int c173) rfl

set_option maxRecDepth 100000 in
set_option maxHeartbeats 4000000 in
theorem lp_X8_inAll_L38 {l : Launch} {g : xG} {a : xT} {R : Option Value × xS} (v4 : Int32) (b : xT) : ∀ (n : Nat) (v5 : Int32) (v6 : Int32) (r : ((Unit) ⊕ (Int32))), f_X8_inAll_L38 v4 b n v5 v6 = some r → (∀ z, r = (.inl z) → Rx l g 3 M_X8_inAll 78 [none, none, none, none, none, none, none] [] (a, b) R) → (∀ z, r = (.inr (z)) → Rx l g 3 M_X8_inAll 66 [none, none, none, none, none, none, some (.int z)] [] (a, b) R) → Rx l g 3 M_X8_inAll 38 [some (.ref (xa g 44)), none, none, none, some (.int v4), some (.int v5), some (.int v6)] [] (a, b) R := by
  intro n
  induction n with
  | zero => intro v5_ v6_ r_ e; cases e
  | succ n ih =>
    intro v5 v6 r e K0 K1
    rw [f_X8_inAll_L38] at e
    refine r_iload DX8_inAll_38 rfl ?_
    refine r_bipush DX8_inAll_40 (v := 64) (by decide) ?_
    refine r_icmp_ge DX8_inAll_42 (tgt := 78) (by decide) (fun c42 => ?_) (fun c42 => ?_)
    · replace e := x_ift c42 e
      obtain rfl := Option.some.inj e
      refine r_mask (L' := [none, none, none, none, none, none, none]) [false, false, false, false, false, false, false] rfl ?_
      exact K0 _ rfl
    · replace e := x_iff c42 e
      refine r_aload_n DX8_inAll_45 (i := 0) rfl rfl ?_
      refine r_get (v := .long (gJ b 34)) DX8_inAll_46 F_X8_307 e_44 rfl ?_
      refine r_iload DX8_inAll_49 rfl ?_
      refine r_lshr DX8_inAll_51 ?_
      refine r_lconst DX8_inAll_52 (v := 1) (by decide) ?_
      refine r_land DX8_inAll_53 ?_
      refine r_lconst DX8_inAll_54 (v := 1) (by decide) ?_
      refine r_lcmp_ne DX8_inAll_55 DX8_inAll_56 (tgt := 72) (by decide) (fun c55 => ?_) (fun c55 => ?_)
      · replace e := x_iff c55 e
        refine r_iinc (L' := [some (.ref (xa g 44)), none, none, none, some (.int v4), some (.int v5), some (.int (v6 + 1))]) DX8_inAll_72 (x := v6) (v := (v6 + 1)) rfl rfl (by decide) rfl rfl ?_
        refine r_goto DX8_inAll_75 (tgt := 38) (by decide) ?_
        exact ih _ _ _ e K0 K1
      · replace e := x_ift c55 e
        refine r_iload DX8_inAll_59 rfl ?_
        refine r_iload DX8_inAll_61 rfl ?_
        refine r_icmp_ne DX8_inAll_63 (tgt := 69) (by decide) (fun c63 => ?_) (fun c63 => ?_)
        · replace e := x_iff c63 e
          refine r_iinc (L' := [some (.ref (xa g 44)), none, none, none, some (.int v4), some (.int (v5 + 1)), some (.int v6)]) DX8_inAll_69 (x := v5) (v := (v5 + 1)) rfl rfl (by decide) rfl rfl ?_
          refine r_iinc (L' := [some (.ref (xa g 44)), none, none, none, some (.int v4), some (.int (v5 + 1)), some (.int (v6 + 1))]) DX8_inAll_72 (x := v6) (v := (v6 + 1)) rfl rfl (by decide) rfl rfl ?_
          refine r_goto DX8_inAll_75 (tgt := 38) (by decide) ?_
          exact ih _ _ _ e K0 K1
        · replace e := x_ift c63 e
          obtain rfl := Option.some.inj e
          refine r_mask (L' := [none, none, none, none, none, none, some (.int v6)]) [false, false, false, false, false, false, true] rfl ?_
          exact K1 _ rfl

set_option maxRecDepth 100000 in
set_option maxHeartbeats 4000000 in
theorem t_X8_inAll {l : Launch} {g : xG} {a : xT} (N : Nat) (v1 : Int32) (v2 : Int32) (v3 : Int32) (v4 : Int32) (b : xT)  {r : (Int32 × xT)} (e : f_X8_inAll N v1 v2 v3 v4 b = some r) : Ev l g 3 yX8_inAll M_X8_inAll [.ref (xa g 44), .int v1, .int v2, .int v3, .int v4] (a, b) (some (.int r.1), (a, r.2)) := by
  unfold f_X8_inAll at e
  refine Ev.of 2 (L0 := [some (.ref (xa g 44)), some (.int v1), some (.int v2), some (.int v3), some (.int v4), none, none]) (by decide) rfl (Nat.le_of_ble_eq_true rfl) rfl ?_
  refine r_iload_n DX8_inAll_0 (i := 1) rfl rfl ?_
  obtain ⟨q1, e1, e⟩ := x_bnd e
  refine r_callS1 (As := [.int v1]) (S := []) DX8_inAll_1 C_X8_76 (by decide) (by decide) (Nat.le_of_ble_eq_true rfl) (t_X8_isList v1 e1) rfl ?_
  refine r_if_ne DX8_inAll_4 (tgt := 11) (by decide) (fun c4 => ?_) (fun c4 => ?_)
  · replace e := x_iff c4 e
    refine r_aload_n DX8_inAll_11 (i := 0) rfl rfl ?_
    refine r_iload_n DX8_inAll_12 (i := 1) rfl rfl ?_
    refine r_iload_n DX8_inAll_13 (i := 2) rfl rfl ?_
    refine r_iload_n DX8_inAll_14 (i := 3) rfl rfl ?_
    obtain ⟨q15, e15, e⟩ := x_bnd e
    refine r_callV1 (As := [.int v1, .int v2, .int v3]) (S := []) DX8_inAll_15 C_X8_286 (ci := 8) rfl rfl e_44 (by decide) (by decide) (Nat.le_of_ble_eq_true rfl) (t_X8_isAsked v1 v2 v3 b e15) rfl ?_
    refine r_if_ne DX8_inAll_18 (tgt := 25) (by decide) (fun c18 => ?_) (fun c18 => ?_)
    · replace e := x_iff c18 e
      refine r_aload_n DX8_inAll_25 (i := 0) rfl rfl ?_
      refine r_iload_n DX8_inAll_26 (i := 1) rfl rfl ?_
      refine r_iload_n DX8_inAll_27 (i := 2) rfl rfl ?_
      refine r_iload_n DX8_inAll_28 (i := 3) rfl rfl ?_
      obtain ⟨q29, e29, e⟩ := x_bnd e
      refine r_callV0 (As := [.int v1, .int v2, .int v3]) (S := []) DX8_inAll_29 C_X8_313 (ci := 8) rfl rfl e_44 (by decide) (by decide) (Nat.le_of_ble_eq_true rfl) (t_X8_findRings N v1 v2 v3 b e29) rfl ?_
      refine r_iconst DX8_inAll_32 (v := 0) (by decide) ?_
      refine r_istore (L' := [some (.ref (xa g 44)), some (.int v1), some (.int v2), some (.int v3), some (.int v4), some (.int 0), none]) DX8_inAll_33 (by decide) rfl rfl ?_
      refine r_iconst DX8_inAll_35 (v := 0) (by decide) ?_
      refine r_istore (L' := [some (.ref (xa g 44)), some (.int v1), some (.int v2), some (.int v3), some (.int v4), some (.int 0), some (.int 0)]) DX8_inAll_36 (by decide) rfl rfl ?_
      obtain ⟨q38, e38, e⟩ := x_bnd e
      refine r_mask (L' := [some (.ref (xa g 44)), none, none, none, some (.int v4), some (.int 0), some (.int 0)]) [true, false, false, false, true, true, true] rfl ?_
      refine lp_X8_inAll_L38 v4 q29 N 0 0 q38 e38 (fun z38_78 w38 => ?_) (fun z38_66 w38 => ?_)
      · subst w38
        dsimp only [Sum.elim] at e
        refine r_iconst DX8_inAll_78 (v := (-1)) (by decide) ?_
        obtain rfl := Option.some.inj e
        exact r_iret DX8_inAll_79 rfl rfl
      · subst w38
        dsimp only [Sum.elim] at e
        refine r_iload DX8_inAll_66 rfl ?_
        obtain rfl := Option.some.inj e
        exact r_iret DX8_inAll_68 rfl rfl
    · replace e := x_ift c18 e
      refine r_sipush DX8_inAll_21 (v := (-1002)) (by decide) ?_
      obtain rfl := Option.some.inj e
      exact r_iret DX8_inAll_24 rfl rfl
  · replace e := x_ift c4 e
    refine r_sipush DX8_inAll_7 (v := (-1001)) (by decide) ?_
    obtain rfl := Option.some.inj e
    exact r_iret DX8_inAll_10 rfl rfl
