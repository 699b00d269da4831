set_option maxRecDepth 100000 in
set_option maxHeartbeats 4000000 in
theorem lp_J7_fill_53178_L5 {l : Launch} {g : xG} {b : xT} {R : Option Value × xS} (v1 : Int32) (v3 : Int32) : ∀ (n : Nat) (v2 : Int32) (a : xT) (r : (xT)), f_J7_fill_53178_L5 v1 v3 n v2 a = some r → Rx l g 0 M_J7_fill_53178 20 [none, none, none, none] [] (r, b) R → Rx l g 0 M_J7_fill_53178 5 [some (.ref (xa g 4)), some (.int v1), some (.int v2), some (.int v3)] [] (a, b) R := by
  intro n
  induction n with
  | zero => intro v2_ s_ r_ e; cases e
  | succ n ih =>
    intro v2 a r e K0
    rw [f_J7_fill_53178_L5] at e
    refine r_iload_n DJ7_fill_53178_5 (i := 2) rfl rfl ?_
    refine r_iload_n DJ7_fill_53178_6 (i := 3) rfl rfl ?_
    refine r_icmp_ge DJ7_fill_53178_7 (tgt := 20) (by decide) (fun c7 => ?_) (fun c7 => ?_)
    · replace e := x_ift c7 e
      obtain rfl := Option.some.inj e
      refine r_mask (L' := [none, none, none, none]) [false, false, false, false] rfl ?_
      exact K0
    · replace e := x_iff c7 e
      refine r_aload_n DJ7_fill_53178_10 (i := 0) rfl rfl ?_
      refine r_iload_n DJ7_fill_53178_11 (i := 2) rfl rfl ?_
      refine r_iload_n DJ7_fill_53178_12 (i := 1) rfl rfl ?_
      obtain ⟨c13, e⟩ := x_grd e
      refine r_iast (f := (gA a 4)) DJ7_fill_53178_13 e_4 rfl c13 p_4 ?_
      refine r_iinc (L' := [some (.ref (xa g 4)), some (.int v1), some (.int (v2 + 1)), some (.int v3)]) DJ7_fill_53178_14 (x := v2) (v := (v2 + 1)) rfl rfl (by decide) rfl rfl ?_
      refine r_goto DJ7_fill_53178_17 (tgt := 5) (by decide) ?_
      exact ih _ _ _ e K0

set_option maxRecDepth 100000 in
set_option maxHeartbeats 4000000 in
theorem t_J7_fill_53178 {l : Launch} {g : xG} {b : xT} (N : Nat) (v1 : Int32) (a : xT)  {r : xT} (e : f_J7_fill_53178 N v1 a = some r) : Ev l g 0 yJ7_fill_53178 M_J7_fill_53178 [.ref (xa g 4), .int v1] (a, b) (none, (r, b)) := by
  unfold f_J7_fill_53178 at e
  refine Ev.of 2 (L0 := [some (.ref (xa g 4)), some (.int v1), none, none]) (by decide) rfl (Nat.le_of_ble_eq_true rfl) rfl ?_
  refine r_iconst DJ7_fill_53178_0 (v := 0) (by decide) ?_
  refine r_istore_n (L' := [some (.ref (xa g 4)), some (.int v1), some (.int 0), none]) DJ7_fill_53178_1 (i := 2) rfl (by decide) rfl rfl ?_
  refine r_aload_n DJ7_fill_53178_2 (i := 0) rfl rfl ?_
  refine r_alen (t0 := 0) (v := 12) DJ7_fill_53178_3 e_4 rfl rfl ?_
  refine r_istore_n (L' := [some (.ref (xa g 4)), some (.int v1), some (.int 0), some (.int 12)]) DJ7_fill_53178_4 (i := 3) rfl (by decide) rfl rfl ?_
  obtain ⟨q5, e5, e⟩ := x_bnd e
  refine lp_J7_fill_53178_L5 v1 12 N 0 a q5 e5 ?_
  obtain rfl := Option.some.inj e
  exact r_vret DJ7_fill_53178_20 rfl rfl

set_option maxRecDepth 100000 in
set_option maxHeartbeats 4000000 in
theorem t_J6_bitCount_0f7a4 {l : Launch} {g : xG} {s : xS} (v0 : Int32)  {r : Int32} (e : f_J6_bitCount_0f7a4 v0 = some r) : Ev l g 0 yJ6_bitCount_0f7a4 M_J6_bitCount_0f7a4 [.int v0] s (some (.int r), s) := by
  unfold f_J6_bitCount_0f7a4 at e
  refine Ev.of 0 (L0 := [some (.int v0)]) (by decide) rfl (Nat.le_of_ble_eq_true rfl) rfl ?_
  refine r_iload_n DJ6_bitCount_0f7a4_0 (i := 0) rfl rfl ?_
  refine r_iload_n DJ6_bitCount_0f7a4_1 (i := 0) rfl rfl ?_
  refine r_iconst DJ6_bitCount_0f7a4_2 (v := 1) (by decide) ?_
  refine r_iushr DJ6_bitCount_0f7a4_3 ?_
  refine r_ldcw DJ6_bitCount_0f7a4_4 K_J6_265 ?_
  refine r_iand DJ6_bitCount_0f7a4_7 ?_
  refine r_isub DJ6_bitCount_0f7a4_8 ?_
  refine r_istore_n (L' := [some (.int (v0 - ((xushr v0 1) &&& 1431655765)))]) DJ6_bitCount_0f7a4_9 (i := 0) rfl (by decide) rfl rfl ?_
  refine r_iload_n DJ6_bitCount_0f7a4_10 (i := 0) rfl rfl ?_
  refine r_ldcw DJ6_bitCount_0f7a4_11 K_J6_266 ?_
  refine r_iand DJ6_bitCount_0f7a4_14 ?_
  refine r_iload_n DJ6_bitCount_0f7a4_15 (i := 0) rfl rfl ?_
  refine r_iconst DJ6_bitCount_0f7a4_16 (v := 2) (by decide) ?_
  refine r_iushr DJ6_bitCount_0f7a4_17 ?_
  refine r_ldcw DJ6_bitCount_0f7a4_18 K_J6_266 ?_
  refine r_iand DJ6_bitCount_0f7a4_21 ?_
  refine r_iadd DJ6_bitCount_0f7a4_22 ?_
  obtain ⟨w23, e23, e⟩ := x_bnd e
  refine r_istore_nB (L' := [some (.int w23)]) (w := w23) DJ6_bitCount_0f7a4_23 (Option.some.inj e23) (i := 0) rfl (by decide) rfl rfl ?_
  refine r_iload_n DJ6_bitCount_0f7a4_24 (i := 0) rfl rfl ?_
  refine r_iload_n DJ6_bitCount_0f7a4_25 (i := 0) rfl rfl ?_
  refine r_iconst DJ6_bitCount_0f7a4_26 (v := 4) (by decide) ?_
  refine r_iushr DJ6_bitCount_0f7a4_27 ?_
  refine r_iadd DJ6_bitCount_0f7a4_28 ?_
  refine r_ldcw DJ6_bitCount_0f7a4_29 K_J6_267 ?_
  refine r_iand DJ6_bitCount_0f7a4_32 ?_
  refine r_istore_n (L' := [some (.int ((w23 + (xushr w23 4)) &&& 252645135))]) DJ6_bitCount_0f7a4_33 (i := 0) rfl (by decide) rfl rfl ?_
  refine r_iload_n DJ6_bitCount_0f7a4_34 (i := 0) rfl rfl ?_
  refine r_iload_n DJ6_bitCount_0f7a4_35 (i := 0) rfl rfl ?_
  refine r_bipush DJ6_bitCount_0f7a4_36 (v := 8) (by decide) ?_
  refine r_iushr DJ6_bitCount_0f7a4_38 ?_
  refine r_iadd DJ6_bitCount_0f7a4_39 ?_
  obtain ⟨w40, e40, e⟩ := x_bnd e
  refine r_istore_nB (L' := [some (.int w40)]) (w := w40) DJ6_bitCount_0f7a4_40 (Option.some.inj e40) (i := 0) rfl (by decide) rfl rfl ?_
  refine r_iload_n DJ6_bitCount_0f7a4_41 (i := 0) rfl rfl ?_
  refine r_iload_n DJ6_bitCount_0f7a4_42 (i := 0) rfl rfl ?_
  refine r_bipush DJ6_bitCount_0f7a4_43 (v := 16) (by decide) ?_
  refine r_iushr DJ6_bitCount_0f7a4_45 ?_
  refine r_iadd DJ6_bitCount_0f7a4_46 ?_
  refine r_istore_n (L' := [some (.int (w40 + (xushr w40 16)))]) DJ6_bitCount_0f7a4_47 (i := 0) rfl (by decide) rfl rfl ?_
  refine r_iload_n DJ6_bitCount_0f7a4_48 (i := 0) rfl rfl ?_
  refine r_bipush DJ6_bitCount_0f7a4_49 (v := 63) (by decide) ?_
  refine r_iand DJ6_bitCount_0f7a4_51 ?_
  obtain rfl := Option.some.inj e
  exact r_iret DJ6_bitCount_0f7a4_52 rfl rfl

set_option maxRecDepth 100000 in
set_option maxHeartbeats 4000000 in
theorem lp_J7_fill_d0a16_L6 {l : Launch} {g : xG} {b : xT} {R : Option Value × xS} (k0 : Nat) (v1 : Int64) (v4 : Int32) (hk0 : k0 < 7): ∀ (n : Nat) (v3 : Int32) (a : xT) (r : (xT)), f_J7_fill_d0a16_L6 k0 v1 v4 n v3 a = some r → Rx l g 0 M_J7_fill_d0a16 22 [none, none, none, none, none] [] (r, b) R → Rx l g 0 M_J7_fill_d0a16 6 [some (.ref (xa g (37 + k0))), some (.long v1), none, some (.int v3), some (.int v4)] [] (a, b) R := by
  intro n
  induction n with
  | zero => intro v3_ s_ r_ e; cases e
  | succ n ih =>
    intro v3 a r e K0
    rw [f_J7_fill_d0a16_L6] at e
    refine r_iload_n DJ7_fill_d0a16_6 (i := 3) rfl rfl ?_
    refine r_iload DJ7_fill_d0a16_7 rfl ?_
    refine r_icmp_ge DJ7_fill_d0a16_9 (tgt := 22) (by decide) (fun c9 => ?_) (fun c9 => ?_)
    · replace e := x_ift c9 e
      obtain rfl := Option.some.inj e
      refine r_mask (L' := [none, none, none, none, none]) [false, false, false, false, false] rfl ?_
      exact K0
    · replace e := x_iff c9 e
      refine r_aload_n DJ7_fill_d0a16_12 (i := 0) rfl rfl ?_
      refine r_iload_n DJ7_fill_d0a16_13 (i := 3) rfl rfl ?_
      refine r_lload_n DJ7_fill_d0a16_14 (i := 1) rfl rfl ?_
      obtain ⟨c15, e⟩ := x_grd e
      refine r_last (f := (gB a (37 + k0))) DJ7_fill_d0a16_15 (e_mb hk0) rfl c15 (p_mb hk0) ?_
      refine r_iinc (L' := [some (.ref (xa g (37 + k0))), some (.long v1), none, some (.int (v3 + 1)), some (.int v4)]) DJ7_fill_d0a16_16 (x := v3) (v := (v3 + 1)) rfl rfl (by decide) rfl rfl ?_
      refine r_goto DJ7_fill_d0a16_19 (tgt := 6) (by decide) ?_
      exact ih _ _ _ e K0

set_option maxRecDepth 100000 in
set_option maxHeartbeats 4000000 in
theorem t_J7_fill_d0a16 {l : Launch} {g : xG} {b : xT} (N : Nat) (k0 : Nat) (v1 : Int64) (a : xT) (hk0 : k0 < 7) {r : xT} (e : f_J7_fill_d0a16 N k0 v1 a = some r) : Ev l g 0 yJ7_fill_d0a16 M_J7_fill_d0a16 [.ref (xa g (37 + k0)), .long v1] (a, b) (none, (r, b)) := by
  unfold f_J7_fill_d0a16 at e
  refine Ev.of 2 (L0 := [some (.ref (xa g (37 + k0))), some (.long v1), none, none, none]) (by decide) rfl (Nat.le_of_ble_eq_true rfl) rfl ?_
  refine r_iconst DJ7_fill_d0a16_0 (v := 0) (by decide) ?_
  refine r_istore_n (L' := [some (.ref (xa g (37 + k0))), some (.long v1), none, some (.int 0), none]) DJ7_fill_d0a16_1 (i := 3) rfl (by decide) rfl rfl ?_
  refine r_aload_n DJ7_fill_d0a16_2 (i := 0) rfl rfl ?_
  refine r_alen (t0 := 1) (v := 64) DJ7_fill_d0a16_3 (e_mb hk0) rfl rfl ?_
  refine r_istore (L' := [some (.ref (xa g (37 + k0))), some (.long v1), none, some (.int 0), some (.int 64)]) DJ7_fill_d0a16_4 (by decide) rfl rfl ?_
  obtain ⟨q6, e6, e⟩ := x_bnd e
  refine lp_J7_fill_d0a16_L6 k0 v1 64 hk0 N 0 a q6 e6 ?_
  obtain rfl := Option.some.inj e
  exact r_vret DJ7_fill_d0a16_22 rfl rfl

set_option maxRecDepth 100000 in
set_option maxHeartbeats 4000000 in
theorem t_J13_bitCount_95d88 {l : Launch} {g : xG} {s : xS} (v0 : Int64)  {r : Int32} (e : f_J13_bitCount_95d88 v0 = some r) : Ev l g 0 yJ13_bitCount_95d88 M_J13_bitCount_95d88 [.long v0] s (some (.int r), s) := by
  unfold f_J13_bitCount_95d88 at e
  refine Ev.of 0 (L0 := [some (.long v0), none]) (by decide) rfl (Nat.le_of_ble_eq_true rfl) rfl ?_
  refine r_lload_n DJ13_bitCount_95d88_0 (i := 0) rfl rfl ?_
  refine r_lload_n DJ13_bitCount_95d88_1 (i := 0) rfl rfl ?_
  refine r_iconst DJ13_bitCount_95d88_2 (v := 1) (by decide) ?_
  refine r_lushr DJ13_bitCount_95d88_3 ?_
  refine r_ldc2 DJ13_bitCount_95d88_4 K_J13_314 ?_
  refine r_land DJ13_bitCount_95d88_7 ?_
  refine r_lsub DJ13_bitCount_95d88_8 ?_
  obtain ⟨w9, e9, e⟩ := x_bnd e
  refine r_lstore_nB (L' := [some (.long w9), none]) (w := w9) DJ13_bitCount_95d88_9 (Option.some.inj e9) (i := 0) rfl (by decide) rfl rfl ?_
  refine r_lload_n DJ13_bitCount_95d88_10 (i := 0) rfl rfl ?_
  refine r_ldc2 DJ13_bitCount_95d88_11 K_J13_316 ?_
  refine r_land DJ13_bitCount_95d88_14 ?_
  refine r_lload_n DJ13_bitCount_95d88_15 (i := 0) rfl rfl ?_
  refine r_iconst DJ13_bitCount_95d88_16 (v := 2) (by decide) ?_
  refine r_lushr DJ13_bitCount_95d88_17 ?_
  refine r_ldc2 DJ13_bitCount_95d88_18 K_J13_316 ?_
  refine r_land DJ13_bitCount_95d88_21 ?_
  refine r_ladd DJ13_bitCount_95d88_22 ?_
  obtain ⟨w23, e23, e⟩ := x_bnd e
  refine r_lstore_nB (L' := [some (.long w23), none]) (w := w23) DJ13_bitCount_95d88_23 (Option.some.inj e23) (i := 0) rfl (by decide) rfl rfl ?_
  refine r_lload_n DJ13_bitCount_95d88_24 (i := 0) rfl rfl ?_
  refine r_lload_n DJ13_bitCount_95d88_25 (i := 0) rfl rfl ?_
  refine r_iconst DJ13_bitCount_95d88_26 (v := 4) (by decide) ?_
  refine r_lushr DJ13_bitCount_95d88_27 ?_
  refine r_ladd DJ13_bitCount_95d88_28 ?_
  refine r_ldc2 DJ13_bitCount_95d88_29 K_J13_318 ?_
  refine r_land DJ13_bitCount_95d88_32 ?_
  obtain ⟨w33, e33, e⟩ := x_bnd e
  refine r_lstore_nB (L' := [some (.long w33), none]) (w := w33) DJ13_bitCount_95d88_33 (Option.some.inj e33) (i := 0) rfl (by decide) rfl rfl ?_
  refine r_lload_n DJ13_bitCount_95d88_34 (i := 0) rfl rfl ?_
  refine r_lload_n DJ13_bitCount_95d88_35 (i := 0) rfl rfl ?_
  refine r_bipush DJ13_bitCount_95d88_36 (v := 8) (by decide) ?_
  refine r_lushr DJ13_bitCount_95d88_38 ?_
  refine r_ladd DJ13_bitCount_95d88_39 ?_
  refine r_lstore_n (L' := [some (.long (w33 + (xlushr w33 8))), none]) DJ13_bitCount_95d88_40 (i := 0) rfl (by decide) rfl rfl ?_
  refine r_lload_n DJ13_bitCount_95d88_41 (i := 0) rfl rfl ?_
  refine r_lload_n DJ13_bitCount_95d88_42 (i := 0) rfl rfl ?_
  refine r_bipush DJ13_bitCount_95d88_43 (v := 16) (by decide) ?_
  refine r_lushr DJ13_bitCount_95d88_45 ?_
  refine r_ladd DJ13_bitCount_95d88_46 ?_
  obtain ⟨w47, e47, e⟩ := x_bnd e
  refine r_lstore_nB (L' := [some (.long w47), none]) (w := w47) DJ13_bitCount_95d88_47 (Option.some.inj e47) (i := 0) rfl (by decide) rfl rfl ?_
  refine r_lload_n DJ13_bitCount_95d88_48 (i := 0) rfl rfl ?_
  refine r_lload_n DJ13_bitCount_95d88_49 (i := 0) rfl rfl ?_
  refine r_bipush DJ13_bitCount_95d88_50 (v := 32) (by decide) ?_
  refine r_lushr DJ13_bitCount_95d88_52 ?_
  refine r_ladd DJ13_bitCount_95d88_53 ?_
  refine r_lstore_n (L' := [some (.long (w47 + (xlushr w47 32))), none]) DJ13_bitCount_95d88_54 (i := 0) rfl (by decide) rfl rfl ?_
  refine r_lload_n DJ13_bitCount_95d88_55 (i := 0) rfl rfl ?_
  refine r_l2i DJ13_bitCount_95d88_56 ?_
  refine r_bipush DJ13_bitCount_95d88_57 (v := 127) (by decide) ?_
  refine r_iand DJ13_bitCount_95d88_59 ?_
  obtain rfl := Option.some.inj e
  exact r_iret DJ13_bitCount_95d88_60 rfl rfl
