theorem CNL_X7 : Cond.classLink RL 7 RX7 ∈ xtb := x_in 96 (by decide +kernel) rfl
theorem INL_X7 : Cond.instantiable RX7 8 ∈ xtb ∧ Cond.initialized RX7 ∈ xtb := ⟨x_in 97 (by decide +kernel) rfl, x_in 78 (by decide +kernel) rfl⟩
theorem DFL_X7 : ∀ j, j < 8 → defaultValue (tyX7 j) = vp_V [.null, .null, .null, .null, .null, .null, .null, .null] j := by
  intro j hj
  rcases (show j = 0 ∨ j = 1 ∨ j = 2 ∨ j = 3 ∨ j = 4 ∨ j = 5 ∨ j = 6 ∨ j = 7 by omega) with rfl | rfl | rfl | rfl | rfl | rfl | rfl | rfl <;> rfl
theorem MLL_X7 : Cond.methodLink RL 9 yX7_init ∈ xtb := x_in 98 (by decide +kernel) rfl
theorem CNL_X8 : Cond.classLink RL 10 RX8 ∈ xtb := x_in 893 (by decide +kernel) rfl
theorem INL_X8 : Cond.instantiable RX8 35 ∈ xtb ∧ Cond.initialized RX8 ∈ xtb := ⟨x_in 894 (by decide +kernel) rfl, x_in 87 (by decide +kernel) rfl⟩
theorem DFL_X8 : ∀ j, j < 35 → defaultValue (tyX8 j) = vp_V [.int 0, .int 0, .int 0, .int 0, .null, .null, .null, .null, .null, .int 0, .null, .int 0, .null, .null, .int 0, .int 0, .int 0, .long 0, .int 0, .int 0, .int 0, .null, .null, .int 0, .null, .int 0, .int 0, .null, .null, .null, .null, .int 0, .int 0, .int 0, .long 0] j := by
  intro j hj
  rcases (show j = 0 ∨ j = 1 ∨ j = 2 ∨ j = 3 ∨ j = 4 ∨ j = 5 ∨ j = 6 ∨ j = 7 ∨ j = 8 ∨ j = 9 ∨ j = 10 ∨ j = 11 ∨ j = 12 ∨ j = 13 ∨ j = 14 ∨ j = 15 ∨ j = 16 ∨ j = 17 ∨ j = 18 ∨ j = 19 ∨ j = 20 ∨ j = 21 ∨ j = 22 ∨ j = 23 ∨ j = 24 ∨ j = 25 ∨ j = 26 ∨ j = 27 ∨ j = 28 ∨ j = 29 ∨ j = 30 ∨ j = 31 ∨ j = 32 ∨ j = 33 ∨ j = 34 by omega) with rfl | rfl | rfl | rfl | rfl | rfl | rfl | rfl | rfl | rfl | rfl | rfl | rfl | rfl | rfl | rfl | rfl | rfl | rfl | rfl | rfl | rfl | rfl | rfl | rfl | rfl | rfl | rfl | rfl | rfl | rfl | rfl | rfl | rfl | rfl <;> rfl
theorem MLL_X8 : Cond.methodLink RL 12 yX8_init ∈ xtb := x_in 895 (by decide +kernel) rfl
theorem x_tb : ∀ w ∈ xtb, w ∈ lw_tbl := fun w h => (List.mem_filter.mp h).1
theorem INX_0 : Cond.instantiable RX0 8 ∈ lw_tbl := List.mem_of_getElem? (i := 266) (by decide +kernel)
theorem INX_1 : Cond.instantiable RX1 4 ∈ lw_tbl := List.mem_of_getElem? (i := 105) (by decide +kernel)
theorem INX_2 : Cond.instantiable RX2 6 ∈ lw_tbl := List.mem_of_getElem? (i := 239) (by decide +kernel)
theorem INX_3 : Cond.instantiable RX3 3 ∈ lw_tbl := List.mem_of_getElem? (i := 129) (by decide +kernel)
theorem INX_4 : Cond.instantiable RX4 3 ∈ lw_tbl := List.mem_of_getElem? (i := 151) (by decide +kernel)
theorem INX_5 : Cond.instantiable RX5 11 ∈ lw_tbl := List.mem_of_getElem? (i := 196) (by decide +kernel)
theorem INX_6 : Cond.instantiable RX6 5 ∈ lw_tbl := List.mem_of_getElem? (i := 171) (by decide +kernel)
theorem INX_7 : Cond.instantiable RX7 8 ∈ lw_tbl := List.mem_of_getElem? (i := 97) (by decide +kernel)
theorem INX_8 : Cond.instantiable RX8 35 ∈ lw_tbl := List.mem_of_getElem? (i := 894) (by decide +kernel)
theorem xnest_in : ∀ w ∈ xnest, w ∈ lw_tbl := by decide +kernel
theorem x_sref : ∀ i, i < 10 → Cond.stringRef RX5 (xsIx.getD i 0) (xsTx.getD i "") ∈ lw_tbl := by decide +kernel
abbrev xtm (i : Nat) : Term := .string RX5 (xsIx.getD i 0)
abbrev xgn : List Cond := flatC (Jvm.Cond.and given_1 narrow_1)
theorem x_s1 : ∀ i, i < 10 → Cond.exactly (xtm i) "java/lang/String" ∈ xgn := by decide +kernel
theorem x_s2 : ∀ i, i < 10 → Cond.eq (.field (xtm i) "java/lang/String" "coder" "B") (.int 0) ∈ xgn := by decide +kernel
theorem x_s3 : ∀ i, i < 10 → Cond.arrayOf (.field (xtm i) "java/lang/String" "value" "[B") .byte ∈ xgn := by decide +kernel
theorem x_s4 : ∀ i, i < 10 → Cond.eq (.length (.field (xtm i) "java/lang/String" "value" "[B")) (.int (Int32.ofNat (xsLen.getD i 0))) ∈ xgn := by decide +kernel
theorem x_s5 : ∀ i, i < 10 → ∀ j, j < xsLen.getD i 0 → Cond.eq (.elem (.field (xtm i) "java/lang/String" "value" "[B") (.int (Int32.ofNat j))) (.int ((xsByt.getD i []).getD j 0)) ∈ xgn := by decide +kernel
theorem x_s6 : ∀ i, i < 10 → ∀ j, j < 10 → i ≠ j → Cond.not (Cond.eq (xtm i) (xtm j)) ∈ xgn ∨ Cond.not (Cond.eq (xtm j) (xtm i)) ∈ xgn := by decide +kernel
theorem x_s7 : Cond.eq (.static "java/lang/String" "COMPACT_STRINGS" "Z") (.int 1) ∈ xgn := by decide +kernel
theorem x_s8 : Cond.isRef (.static "jdk/internal/util/Preconditions" "SIOOBE_FORMATTER" "Ljava/util/function/BiFunction;") ∈ xgn := by decide +kernel
theorem x_ls1 : Cond.laysStatic "java/lang/String" "COMPACT_STRINGS" "Z" ∈ lw_tbl := by decide +kernel
theorem x_ls2 : Cond.laysStatic "jdk/internal/util/Preconditions" "SIOOBE_FORMATTER" "Ljava/util/function/BiFunction;" ∈ lw_tbl := by decide +kernel
theorem x_in1 : Cond.initialized "java/lang/String" ∈ lw_tbl := by decide +kernel
theorem x_in2 : Cond.initialized "jdk/internal/util/Preconditions" ∈ lw_tbl := by decide +kernel
theorem x_ac : Cond.arrayClass .int ∈ lw_tbl ∧ Cond.arrayClass .long ∈ lw_tbl ∧ Cond.arrayClass .boolean ∈ lw_tbl ∧ Cond.arrayOver (.object RX3) ∈ lw_tbl := by decide +kernel
theorem x_arr {s : State} {args : Array Value} {ty : FieldType} (hty : ∀ C, ty ≠ .object C) (h : (Cond.arrayClass ty).before args s = true) : ∃ cA, ArrOfT s cA ty ∧ va_RA s cA ty := by
  obtain ⟨cA, kA, comp, h1, h2, h3⟩ := Cond.arrayClass_spec h
  refine ⟨cA, fun n z => ⟨fun k q => (by cases q), kA, h2, comp, h3⟩, ?_⟩
  cases ty with
  | object C => exact absurd rfl (hty C)
  | _ => exact h1
theorem x_arrO {s : State} {args : Array Value} {C : String} (h : (Cond.arrayOver (.object C)).before args s = true) : ∃ cA, ArrOfT s cA (.object C) ∧ va_RA s cA (.object C) := by
  obtain ⟨comp, cA, kA, h1, h2, h3, h4, h5⟩ := Cond.arrayOver_spec h
  exact ⟨cA, fun n z => ⟨fun k q => (by cases q), kA, h3, comp, h4⟩, kA, comp, h3, h4, h1, h5⟩
set_option maxRecDepth 100000 in
set_option maxHeartbeats 8000000 in
theorem whole_open {p : Program} {e : Env} {s : State} {m : MethodId} {below : List Frame} {meth : Method} {c : Code} (l : Launch) {b L : Nat} {xs : Nat → Int32} (hL : L ≤ 3072) (C0 : lw_At p s m meth c b L xs) {N : Nat} {Inv : xT → xT → Prop} (hAll : xAll N Inv) (hI : Inv a0 b1) : W p l e room_1 s m #[Value.ref b] below meth c s.heap [] 0 0 (lw_Z below #[Value.ref b] s) (entryFrame m ([Value.ref b] : List Value).toArray 4) := by
  obtain ⟨hx, hb, hr, hml, hown, hts, hX, hbl, hlocks, hgv⟩ := C0
  have hg := flat_of_before _ hgv
  have hA : ∀ q : Nat, s.heap.size ≤ q → xLA s q := fun _ h => h
  have hAn : ∀ q : Nat, q < s.heap.size → ¬ xLA s q := fun q h z => absurd h (Nat.not_lt.mpr z)
  obtain ⟨c0, i0, hk0⟩ := u_known (C := RX0) (T := TX0) (N := 8) (n := 8) hts (fun w h => x_tb w (i_X0 w h)) (hts _ INX_0)
  obtain ⟨c1, i1, hk1⟩ := u_known (C := RX1) (T := TX1) (N := 4) (n := 4) hts (fun w h => x_tb w (i_X1 w h)) (hts _ INX_1)
  obtain ⟨c2, i2, hk2⟩ := u_known (C := RX2) (T := TX2) (N := 6) (n := 6) hts (fun w h => x_tb w (i_X2 w h)) (hts _ INX_2)
  obtain ⟨c3, i3, hk3⟩ := u_known (C := RX3) (T := TX3) (N := 3) (n := 3) hts (fun w h => x_tb w (i_X3 w h)) (hts _ INX_3)
  obtain ⟨c4, i4, hk4⟩ := u_known (C := RX4) (T := TX4) (N := 3) (n := 3) hts (fun w h => x_tb w (i_X4 w h)) (hts _ INX_4)
  obtain ⟨c5, i5, hk5⟩ := u_known (C := RX5) (T := TX5) (N := 11) (n := 11) hts (fun w h => x_tb w (i_X5 w h)) (hts _ INX_5)
  obtain ⟨c6, i6, hk6⟩ := u_known (C := RX6) (T := TX6) (N := 5) (n := 5) hts (fun w h => x_tb w (i_X6 w h)) (hts _ INX_6)
  obtain ⟨c7, i7, hk7⟩ := u_known (C := RX7) (T := TX7) (N := 8) (n := 8) hts (fun w h => x_tb w (i_X7 w h)) (hts _ INX_7)
  obtain ⟨c8, i8, hk8⟩ := u_known (C := RX8) (T := TX8) (N := 35) (n := 35) hts (fun w h => x_tb w (i_X8 w h)) (hts _ INX_8)
  obtain ⟨dC, dI, hKc⟩ : ∃ (dC : Nat → ClassId) (dI : Nat → Nat → Nat), ∀ (k : Nat) (q : vw_C), vwCl[k]? = some q → u_Kn s q.1 q.2.1 q.2.2 (dC k) (dI k) := by
    refine ⟨fun k => [c0, c1, c2, c3, c4, c5, c6, c7, c8].getD k c0, fun k => [i0, i1, i2, i3, i4, i5, i6, i7, i8].getD k i0, ?_⟩
    intro k q hq
    match k, hq with
    | 0, hq => cases hq; exact hk0
    | 1, hq => cases hq; exact hk1
    | 2, hq => cases hq; exact hk2
    | 3, hq => cases hq; exact hk3
    | 4, hq => cases hq; exact hk4
    | 5, hq => cases hq; exact hk5
    | 6, hq => cases hq; exact hk6
    | 7, hq => cases hq; exact hk7
    | 8, hq => cases hq; exact hk8
    | k + 9, hq => simp [vwCl] at hq
  obtain ⟨cI, aI, rI⟩ := x_arr (ty := .int) (fun C h => by cases h) (hts _ x_ac.1)
  obtain ⟨cJ, aJ, rJ⟩ := x_arr (ty := .long) (fun C h => by cases h) (hts _ x_ac.2.1)
  obtain ⟨cZ, aZ, rZ⟩ := x_arr (ty := .boolean) (fun C h => by cases h) (hts _ x_ac.2.2.1)
  obtain ⟨cO, aO, rO⟩ := x_arrO (C := RX3) (hts _ x_ac.2.2.2)
  obtain ⟨adK, adV, hvk, hev⟩ := vk_Sof (N := 10) (tm := xtm) (len := xsLen) (byt := xsByt) (A := xLA s) (fun i hi => Nat.lt_trans (x_len31 i hi) (by decide)) (fun i hi => hg _ (x_s1 i hi)) (fun i hi => hg _ (x_s2 i hi)) (fun i hi => hg _ (x_s3 i hi)) (fun i hi => hg _ (x_s4 i hi)) (fun i hi j hj => hg _ (x_s5 i hi j hj)) (fun i j hi hj hne => (x_s6 i hi j hj hne).imp (fun z => hg _ z) (fun z => hg _ z)) hAn
  have hz1 : va_Z "java/lang/String" "COMPACT_STRINGS" "Z" (.int 1) (xLA s) s s.heap := va_Zof (hts _ x_ls1) (hts _ x_in1) (va_eqt (hg _ x_s7)) hAn
  have hz2 : va_Zq "jdk/internal/util/Preconditions" "SIOOBE_FORMATTER" "Ljava/util/function/BiFunction;" (xLA s) s s.heap := va_Zqof (hts _ x_ls2) (hts _ x_in2) (hg _ x_s8) hAn
  have hN : ∀ w ∈ xnest, va_Nw w s := by
    intro w hw
    have h1 := hts w (xnest_in w hw)
    simp only [xnest, List.mem_cons, List.not_mem_nil, or_false] at hw
    rcases hw with rfl | rfl | rfl | rfl | rfl | rfl <;> exact va_Nw.of rfl h1
  have hAO : va_AO RX3 s := va_AO.of (hts _ x_ac.2.2.2)
  obtain ⟨g, hgd⟩ : ∃ g : xG, g = ((dC, dI), (fun _ => 0), adK, adV, cI, cJ, cZ, cO) := ⟨_, rfl⟩
  have hK : va_K (xD g) vwCl (xtys g) s := by
    subst hgd
    refine ⟨hKc, fun k q hq => ?_⟩
    match k, hq with
    | 0, hq => cases hq; exact ⟨aI, rI⟩
    | 1, hq => cases hq; exact ⟨aJ, rJ⟩
    | 2, hq => cases hq; exact ⟨aZ, rZ⟩
    | 3, hq => cases hq; exact ⟨aO, rO⟩
    | k + 4, hq => simp at hq
  have hXs : xStr g (xLA s) s s.heap := by
    subst hgd
    exact ⟨hvk, fun i hi => vk_R.of (hts _ (x_sref i hi)) (hev i hi), hz1, hz2⟩
  have hC : xCv p g (xLA s) M_L s m #[Value.ref b] meth c := ⟨hx, hb, hml, hr, hown, fun w hw => hts w (x_tb w hw), hlocks, hK, hXs⟩
  have hB : xLw p g s m meth c b L xs := ⟨hC, hX, hbl⟩
  have start : Rv p l e room_1 s m #[Value.ref b] below meth c g (xLA s) (lw_Z below #[Value.ref b] s) M_L 0 [some (.ref b), none, none, none] [] [] 0 0 := by
    refine v_new (ty := tyX7) (fs := [.null, .null, .null, .null, .null, .null, .null, .null]) hC hA DL_0 i_X7 tyX7_ok CNL_X7 INL_X7.1 INL_X7.2 (ci := 7) rfl DFL_X7 (by decide) (by decide) (fun q => ?_)
    refine v_eq (ws' := [(q, .inr (7, [.null, .null, .null, .null, .null, .null, .null, .null]))]) rfl ?_
    refine v_dup hC DL_3 rfl ?_
    refine v_callI (wr := []) [0] [] hC hA hN hAO DL_4 CI_X7_init MLL_X7 (k_X7_init (b := q)) rfl rfl (by decide) (by decide) (by decide) rfl rfl (by decide) (by decide) (Nat.le_of_ble_eq_true rfl) (by decide) (by decide) (fun w hw => ?_)
    obtain ⟨ad, h0, rfl⟩ := hw
    subst h0
    refine v_eq (ws' := xw1 (x_ad g ad) a0) rfl ?_
    refine v_astore_n (L' := [some (.ref b), some (.ref (ad 0)), none, none]) hC DL_7 (i := 1) rfl (by decide) rfl rfl ?_
    refine v_new (ty := tyX8) (fs := [.int 0, .int 0, .int 0, .int 0, .null, .null, .null, .null, .null, .int 0, .null, .int 0, .null, .null, .int 0, .int 0, .int 0, .long 0, .int 0, .int 0, .int 0, .null, .null, .int 0, .null, .int 0, .int 0, .null, .null, .null, .null, .int 0, .int 0, .int 0, .long 0]) hC hA DL_8 i_X8 tyX8_ok CNL_X8 INL_X8.1 INL_X8.2 (ci := 8) rfl DFL_X8 (by decide) (by decide) (fun q => ?_)
    refine v_dup hC DL_11 rfl ?_
    refine v_callI (wc := xw1 (x_ad g ad) a0 ++ [(q, .inr (8, [.int 0, .int 0, .int 0, .int 0, .null, .null, .null, .null, .null, .int 0, .null, .int 0, .null, .null, .int 0, .int 0, .int 0, .long 0, .int 0, .int 0, .int 0, .null, .null, .int 0, .null, .int 0, .int 0, .null, .null, .null, .null, .int 0, .int 0, .int 0, .long 0]))]) (wr := []) (List.range 45) [] hC hA hN hAO DL_12 CI_X8_init MLL_X8 (k_X8_init (g := x_ad g ad) (a := a0) (b := q)) rfl rfl (by decide) (by decide) (by decide) rfl rfl (by decide) (by decide) (Nat.le_of_ble_eq_true rfl) (by decide) (by decide) (fun w hw => ?_)
    obtain ⟨ad2, h44, h0, rfl⟩ := hw
    subst h0
    refine v_eq (ws' := xw (x_ad g ad2) (a0, b1)) rfl ?_
    refine v_astore_n (L' := [some (.ref b), some (.ref (ad 0)), some (.ref (ad2 44)), none]) hC DL_15 (i := 2) rfl (by decide) rfl rfl ?_
    refine v_iconst hC DL_16 (v := 0) (by decide) ?_
    refine v_istore_n (L' := [some (.ref b), some (.ref (ad 0)), some (.ref (ad2 44)), some (.int 0)]) hC DL_17 (i := 3) rfl (by decide) rfl rfl ?_
    have hloop := law_loop (l := l) (e := e) (below := below) (ad := ad2) hB hL hAll rfl (L + 7) 0 0 a0 b1 rfl (by omega) (by omega) hI
    have e1 : xa (x_ad g ad2) 0 = ad 0 := h44 0 (by decide)
    have e2 : xa (x_ad g ad2) 44 = ad2 44 := rfl
    rw [e1, e2] at hloop
    exact hloop
  have he := lv_entry ([Value.ref b]) (n := 4) (Nat.le_of_ble_eq_true rfl)
  rw [lg_entry_eq]
  refine start s.heap [] _ (fun k q h => by simp at h) ⟨fun i j p q h => by simp at h, fun k q h => by simp at h⟩ va_S.rf ⟨he.1, he.2.1, fun i v hi => ?_⟩
  have hm := xin0_mem 3 [Value.ref b] 0 i v hi
  rw [Nat.zero_add] at hm
  exact he.2.2 _ hm
